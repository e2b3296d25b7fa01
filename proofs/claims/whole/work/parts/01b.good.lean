set_option maxRecDepth 20000 in
theorem ggX1_init_X5_init : GoodIn wsX1_init wsX5_init := goodIn_r _ [5, 6, 7, 8, 9, 10, 11, 12, 13, 14, 15, 16, 17, 18, 19, 20, 21, 22, 23, 24, 25, 26, 27, 28, 29, 30, 31, 32, 33, 42, 43, 44, 34, 35, 36, 37, 38, 39, 40, 41, 45, 46, 47, 48, 49, 50, 51, 52] (by decide +kernel) (by decide +kernel)
set_option maxRecDepth 20000 in
theorem gX1_init_X5_init : GoodIn wsX1_init (wsX5_init) := ggX1_init_X5_init
set_option maxRecDepth 20000 in
theorem ggX4_init_X5_init : GoodIn wsX4_init wsX5_init := goodIn_r _ [5, 6, 7, 8, 9, 10, 11, 12, 13, 14, 15, 16, 17, 18, 19, 20, 21, 22, 23, 24, 25, 26, 27, 28, 29, 30, 31, 32, 33, 42, 43, 44, 45, 46, 47, 48, 49, 50, 51, 52, 34, 35, 36, 37, 38, 39, 40, 41] (by decide +kernel) (by decide +kernel)
set_option maxRecDepth 20000 in
theorem gX4_init_X5_init : GoodIn wsX4_init (wsX5_init) := ggX4_init_X5_init
set_option maxRecDepth 20000 in
theorem ggX5_init_Jx4a65c_init_da8c8 : GoodIn wsX5_init wsJx4a65c_init_da8c8 := goodIn_r _ [16, 17, 18, 19, 20, 21, 22, 23, 24, 25, 26, 27, 28, 2, 3, 29, 30, 31] (by decide +kernel) (by decide +kernel)
set_option maxRecDepth 20000 in
theorem gX5_init_Jx4a65c_init_da8c8 : GoodIn wsX5_init (wsJx4a65c_init_da8c8) := ggX5_init_Jx4a65c_init_da8c8
set_option maxRecDepth 20000 in
theorem ggX5_takeOut_X6_indexOf : GoodIn wsX5_takeOut wsX6_indexOf := goodIn_r _ [4, 5, 6, 7, 8, 9, 10, 11, 12, 13, 14, 15, 16, 17, 18, 19, 20, 21, 22, 23, 24, 25, 26, 27, 58, 59, 60] (by decide +kernel) (by decide +kernel)
set_option maxRecDepth 20000 in
theorem gX5_takeOut_X6_indexOf_n39 : GoodIn wsX5_takeOut (wsX6_indexOf) := ggX5_takeOut_X6_indexOf
set_option maxRecDepth 20000 in
theorem ggX5_takeOut_Jx4a65c_remove_915e3 : GoodIn wsX5_takeOut wsJx4a65c_remove_915e3 := goodIn_r _ [31, 10, 27, 15, 16, 17, 18, 19, 20, 21, 22, 32, 33, 34, 8, 35, 36, 37, 38, 39, 40, 41, 58, 59, 60] (by decide +kernel) (by decide +kernel)
set_option maxRecDepth 20000 in
theorem gX5_takeOut_Jx4a65c_remove_915e3 : GoodIn wsX5_takeOut (wsV RX5 43 RJx4a65c yJx4a65c_remove_915e3 wsJx4a65c_remove_915e3) := goodIn_app (goodIn_of _ (by decide +kernel)) ggX5_takeOut_Jx4a65c_remove_915e3
set_option maxRecDepth 20000 in
theorem ggX5_putLast_X5_takeOut : GoodIn wsX5_putLast wsX5_takeOut := goodIn_r _ [7, 1, 8, 9, 10, 11, 12, 13, 14, 15, 16, 17, 18, 19, 20, 21, 22, 23, 24, 25, 26, 27, 28, 29, 30, 31, 32, 33, 34, 35, 36, 37, 38, 39, 40, 41, 42, 43, 44, 45, 46, 47, 97, 98, 99, 100, 101, 102, 103, 104, 105, 106, 107, 108, 109, 110, 111, 112, 113, 114, 115] (by decide +kernel) (by decide +kernel)
set_option maxRecDepth 20000 in
theorem gX5_putLast_X5_takeOut_u47X1 : GoodIn wsX5_putLast (va_wsU RX5 47 RX1 "QuayMesh$Worker" ⟨"QuayMesh$Worker", "takeOut", "(LQuayMesh$Message;)V"⟩ yX5_takeOut wsX5_takeOut) := goodIn_app (goodIn_of _ (by decide +kernel)) ggX5_putLast_X5_takeOut
set_option maxRecDepth 20000 in
theorem gX5_putLast_X5_takeOut_u47X4 : GoodIn wsX5_putLast (va_wsU RX5 47 RX4 "QuayMesh$Worker" ⟨"QuayMesh$Worker", "takeOut", "(LQuayMesh$Message;)V"⟩ yX5_takeOut wsX5_takeOut) := goodIn_app (goodIn_of _ (by decide +kernel)) ggX5_putLast_X5_takeOut
set_option maxRecDepth 20000 in
theorem ggX5_putLast_Jx4a65c_add_9ea2d : GoodIn wsX5_putLast wsJx4a65c_add_9ea2d := goodIn_r _ [52, 42, 43, 33, 16, 53, 54, 55, 14, 56, 57, 58, 59, 60, 61, 62, 63, 64, 65, 66, 67, 68, 69, 70, 71, 72, 73, 74, 75, 76, 77, 78, 79, 80, 81, 82, 83, 84, 85, 86, 87, 88, 89, 90, 91, 92, 93, 94, 95, 96, 45, 46, 47, 113, 114, 115] (by decide +kernel) (by decide +kernel)
set_option maxRecDepth 20000 in
theorem gX5_putLast_Jx4a65c_add_9ea2d : GoodIn wsX5_putLast (wsV RX5 51 RJx4a65c yJx4a65c_add_9ea2d wsJx4a65c_add_9ea2d) := goodIn_app (goodIn_of _ (by decide +kernel)) ggX5_putLast_Jx4a65c_add_9ea2d
set_option maxRecDepth 20000 in
theorem ggX6_init_Jx4a65c_init_da8c8 : GoodIn wsX6_init wsJx4a65c_init_da8c8 := goodIn_r _ [23, 24, 25, 26, 27, 28, 29, 30, 31, 32, 33, 34, 35, 2, 3, 112, 113, 114] (by decide +kernel) (by decide +kernel)
set_option maxRecDepth 20000 in
theorem gX6_init_Jx4a65c_init_da8c8 : GoodIn wsX6_init (wsJx4a65c_init_da8c8) := ggX6_init_Jx4a65c_init_da8c8
set_option maxRecDepth 20000 in
theorem ggX6_init_X1_init : GoodIn wsX6_init wsX1_init := goodIn_r _ [38, 39, 40, 41, 42, 43, 44, 2, 3, 45, 5, 6, 46, 47, 48, 49, 50, 51, 52, 53, 22, 23, 24, 25, 26, 27, 28, 29, 30, 31, 32, 33, 34, 35, 123, 124, 125, 126, 127, 128, 129, 130, 112, 113, 114, 131, 132, 133, 134, 135, 136, 137, 138] (by decide +kernel) (by decide +kernel)
set_option maxRecDepth 20000 in
theorem gX6_init_X1_init : GoodIn wsX6_init (wsX1_init) := ggX6_init_X1_init
set_option maxRecDepth 20000 in
theorem ggX6_init_Jx4a65c_add_9ea2d : GoodIn wsX6_init wsJx4a65c_add_9ea2d := goodIn_r _ [57, 58, 59, 25, 60, 61, 62, 63, 6, 64, 65, 66, 67, 68, 69, 70, 71, 72, 24, 73, 74, 75, 76, 77, 78, 79, 80, 81, 82, 83, 84, 85, 86, 87, 88, 89, 90, 91, 92, 93, 94, 95, 96, 97, 98, 99, 100, 101, 102, 103, 104, 105, 106, 112, 113, 114] (by decide +kernel) (by decide +kernel)
set_option maxRecDepth 20000 in
theorem gX6_init_Jx4a65c_add_9ea2d : GoodIn wsX6_init (wsV RX6 43 RJx4a65c yJx4a65c_add_9ea2d wsJx4a65c_add_9ea2d) := goodIn_app (goodIn_of _ (by decide +kernel)) ggX6_init_Jx4a65c_add_9ea2d
set_option maxRecDepth 20000 in
theorem ggX6_init_X4_init : GoodIn wsX6_init wsX4_init := goodIn_r _ [109, 110, 111, 41, 42, 43, 44, 2, 3, 45, 5, 6, 46, 47, 48, 49, 50, 51, 52, 53, 22, 23, 24, 25, 26, 27, 28, 29, 30, 31, 32, 33, 34, 35, 131, 132, 133, 134, 135, 136, 137, 138, 112, 113, 114, 123, 124, 125, 126, 127, 128, 129, 130] (by decide +kernel) (by decide +kernel)
set_option maxRecDepth 20000 in
theorem gX6_init_X4_init : GoodIn wsX6_init (wsX4_init) := ggX6_init_X4_init
set_option maxRecDepth 20000 in
theorem ggX6_berth_X6_requireOneOf : GoodIn wsX6_berth wsX6_requireOneOf := goodIn_ca (goodIn_r _ [12, 13, 14] (by decide +kernel) (by decide +kernel)) (goodIn_sub (fun _ h => List.mem_cons_of_mem _ (List.mem_append_right _ h)) (by decide +kernel))
set_option maxRecDepth 20000 in
theorem gX6_berth_X6_requireOneOf : GoodIn wsX6_berth (va_wsS RX6 52 yX6_requireOneOf wsX6_requireOneOf) := goodIn_app (goodIn_of _ (by decide +kernel)) ggX6_berth_X6_requireOneOf
set_option maxRecDepth 20000 in
theorem ggX6_berth_Jx4a65c_size_8abf5 : GoodIn wsX6_berth wsJx4a65c_size_8abf5 := goodIn_r _ [19, 20, 119, 120, 121] (by decide +kernel) (by decide +kernel)
set_option maxRecDepth 20000 in
theorem gX6_berth_Jx4a65c_size_8abf5 : GoodIn wsX6_berth (wsV RX6 62 RJx4a65c yJx4a65c_size_8abf5 wsJx4a65c_size_8abf5) := goodIn_app (goodIn_of _ (by decide +kernel)) ggX6_berth_Jx4a65c_size_8abf5
set_option maxRecDepth 20000 in
theorem ggX6_berth_X6_isTaken : GoodIn wsX6_berth wsX6_isTaken := goodIn_r _ [24, 5, 25, 26, 27, 28, 15, 16, 17, 18, 19, 20, 29, 30, 31, 32, 33, 34, 35, 36, 37, 38, 39, 40, 41, 42, 43, 44, 45, 108, 109, 110, 111, 112, 113, 114, 115, 116, 117, 118, 119, 120, 121] (by decide +kernel) (by decide +kernel)
set_option maxRecDepth 20000 in
theorem gX6_berth_X6_isTaken : GoodIn wsX6_berth (wsV RX6 66 RX6 yX6_isTaken wsX6_isTaken) := goodIn_app (goodIn_of _ (by decide +kernel)) ggX6_berth_X6_isTaken
set_option maxRecDepth 20000 in
theorem ggX6_berth_X3_init : GoodIn wsX6_berth wsX3_init := goodIn_r _ [48, 49, 50, 51, 52, 53, 54, 116, 117, 118] (by decide +kernel) (by decide +kernel)
set_option maxRecDepth 20000 in
theorem gX6_berth_X3_init : GoodIn wsX6_berth (wsX3_init) := ggX6_berth_X3_init
set_option maxRecDepth 20000 in
theorem ggX6_berth_Jx4a65c_add_9ea2d : GoodIn wsX6_berth wsJx4a65c_add_9ea2d := goodIn_r _ [58, 59, 60, 45, 20, 61, 62, 63, 18, 64, 65, 66, 67, 68, 69, 70, 71, 72, 73, 74, 75, 76, 77, 78, 79, 80, 81, 82, 83, 84, 85, 86, 87, 88, 89, 90, 91, 92, 93, 94, 95, 96, 97, 98, 99, 100, 101, 102, 103, 104, 105, 106, 107, 119, 120, 121] (by decide +kernel) (by decide +kernel)
set_option maxRecDepth 20000 in
theorem gX6_berth_Jx4a65c_add_9ea2d : GoodIn wsX6_berth (wsV RX6 43 RJx4a65c yJx4a65c_add_9ea2d wsJx4a65c_add_9ea2d) := goodIn_app (goodIn_of _ (by decide +kernel)) ggX6_berth_Jx4a65c_add_9ea2d
set_option maxRecDepth 20000 in
theorem ggX6_box_X6_shipNumbered : GoodIn wsX6_box wsX6_shipNumbered := goodIn_ca (goodIn_r _ [15, 16, 17, 18, 19, 20, 21, 22, 23, 24, 25, 26, 27, 28, 14, 29, 30, 31, 32, 33, 34, 35, 36, 37, 38, 39, 40, 41, 42, 43, 44, 45, 46, 117, 118, 119, 120, 121, 122, 123, 124, 114, 115, 116, 133, 134, 135] (by decide +kernel) (by decide +kernel)) (goodIn_sub (fun _ h => List.mem_cons_of_mem _ (List.mem_append_right _ h)) (by decide +kernel))
set_option maxRecDepth 20000 in
theorem gX6_box_X6_shipNumbered : GoodIn wsX6_box (wsV RX6 78 RX6 yX6_shipNumbered wsX6_shipNumbered) := goodIn_app (goodIn_of _ (by decide +kernel)) ggX6_box_X6_shipNumbered
set_option maxRecDepth 20000 in
theorem ggX6_box_Jx4a65c_size_8abf5 : GoodIn wsX6_box wsJx4a65c_size_8abf5 := goodIn_r _ [25, 26, 133, 134, 135] (by decide +kernel) (by decide +kernel)
set_option maxRecDepth 20000 in
theorem gX6_box_Jx4a65c_size_8abf5 : GoodIn wsX6_box (wsV RX6 62 RJx4a65c yJx4a65c_size_8abf5 wsJx4a65c_size_8abf5) := goodIn_app (goodIn_of _ (by decide +kernel)) ggX6_box_Jx4a65c_size_8abf5
set_option maxRecDepth 20000 in
theorem ggX6_box_X0_init : GoodIn wsX6_box wsX0_init := goodIn_r _ [49, 50, 51, 52, 53, 54, 55, 56, 57, 58, 59, 60, 125, 126, 127, 128, 129, 130, 131, 132] (by decide +kernel) (by decide +kernel)
set_option maxRecDepth 20000 in
theorem gX6_box_X0_init : GoodIn wsX6_box (wsX0_init) := ggX6_box_X0_init
set_option maxRecDepth 20000 in
theorem ggX6_box_Jx4a65c_add_9ea2d : GoodIn wsX6_box wsJx4a65c_add_9ea2d := goodIn_r _ [64, 65, 66, 46, 26, 67, 68, 69, 24, 70, 71, 72, 73, 74, 75, 76, 77, 78, 79, 80, 81, 82, 83, 84, 85, 86, 87, 88, 89, 90, 91, 92, 93, 94, 95, 96, 97, 98, 99, 100, 101, 102, 103, 104, 105, 106, 107, 108, 109, 110, 111, 112, 113, 133, 134, 135] (by decide +kernel) (by decide +kernel)
set_option maxRecDepth 20000 in
theorem gX6_box_Jx4a65c_add_9ea2d : GoodIn wsX6_box (wsV RX6 43 RJx4a65c yJx4a65c_add_9ea2d wsJx4a65c_add_9ea2d) := goodIn_app (goodIn_of _ (by decide +kernel)) ggX6_box_Jx4a65c_add_9ea2d
set_option maxRecDepth 20000 in
theorem ggX6_leave_X6_shipNumbered : GoodIn wsX6_leave wsX6_shipNumbered := goodIn_ca (goodIn_r _ [12, 13, 14, 15, 16, 7, 17, 18, 19, 20, 21, 22, 23, 24, 11, 25, 26, 27, 28, 29, 30, 31, 32, 33, 34, 35, 36, 37, 38, 39, 40, 41, 42, 43, 44, 45, 46, 47, 48, 49, 50, 59, 60, 61, 62, 63, 64] (by decide +kernel) (by decide +kernel)) (goodIn_sub (fun _ h => List.mem_cons_of_mem _ (List.mem_append_right _ h)) (by decide +kernel))
set_option maxRecDepth 20000 in
theorem gX6_leave_X6_shipNumbered : GoodIn wsX6_leave (wsV RX6 78 RX6 yX6_shipNumbered wsX6_shipNumbered) := goodIn_app (goodIn_of _ (by decide +kernel)) ggX6_leave_X6_shipNumbered
set_option maxRecDepth 20000 in
theorem ggX6_leave_Jx4a65c_size_8abf5 : GoodIn wsX6_leave wsJx4a65c_size_8abf5 := goodIn_r _ [21, 22, 62, 63, 64] (by decide +kernel) (by decide +kernel)
set_option maxRecDepth 20000 in
theorem gX6_leave_Jx4a65c_size_8abf5 : GoodIn wsX6_leave (wsV RX6 62 RJx4a65c yJx4a65c_size_8abf5 wsJx4a65c_size_8abf5) := goodIn_app (goodIn_of _ (by decide +kernel)) ggX6_leave_Jx4a65c_size_8abf5
set_option maxRecDepth 20000 in
theorem ggX6_leave_Jx4a65c_get_915e3 : GoodIn wsX6_leave wsJx4a65c_get_915e3 := goodIn_r _ [29, 22, 30, 31, 32, 33, 34, 35, 36, 37, 38, 39, 40, 20, 41, 42, 62, 63, 64] (by decide +kernel) (by decide +kernel)
set_option maxRecDepth 20000 in
theorem gX6_leave_Jx4a65c_get_915e3 : GoodIn wsX6_leave (wsV RX6 97 RJx4a65c yJx4a65c_get_915e3 wsJx4a65c_get_915e3) := goodIn_app (goodIn_of _ (by decide +kernel)) ggX6_leave_Jx4a65c_get_915e3
set_option maxRecDepth 20000 in
theorem ggX6_isTaken_Jx4a65c_size_8abf5 : GoodIn wsX6_isTaken wsJx4a65c_size_8abf5 := goodIn_r _ [10, 11, 40, 41, 42] (by decide +kernel) (by decide +kernel)
set_option maxRecDepth 20000 in
theorem gX6_isTaken_Jx4a65c_size_8abf5 : GoodIn wsX6_isTaken (wsV RX6 62 RJx4a65c yJx4a65c_size_8abf5 wsJx4a65c_size_8abf5) := goodIn_app (goodIn_of _ (by decide +kernel)) ggX6_isTaken_Jx4a65c_size_8abf5
set_option maxRecDepth 20000 in
theorem ggX6_isTaken_Jx4a65c_get_915e3 : GoodIn wsX6_isTaken wsJx4a65c_get_915e3 := goodIn_r _ [15, 11, 16, 17, 18, 19, 20, 21, 22, 23, 24, 25, 26, 9, 27, 28, 40, 41, 42] (by decide +kernel) (by decide +kernel)
set_option maxRecDepth 20000 in
theorem gX6_isTaken_Jx4a65c_get_915e3 : GoodIn wsX6_isTaken (wsV RX6 97 RJx4a65c yJx4a65c_get_915e3 wsJx4a65c_get_915e3) := goodIn_app (goodIn_of _ (by decide +kernel)) ggX6_isTaken_Jx4a65c_get_915e3
set_option maxRecDepth 20000 in
theorem ggX6_send_X6_boxNumbered : GoodIn wsX6_send wsX6_boxNumbered := goodIn_ca (goodIn_r _ [17, 18, 19, 20, 21, 22, 23, 24, 25, 26, 27, 16, 28, 3, 4, 29, 30, 31, 32, 33, 34, 35, 36, 37, 38, 39, 40, 41, 42, 43, 44, 45, 139, 140, 141, 142, 143, 144, 145, 146, 170, 171, 172] (by decide +kernel) (by decide +kernel)) (goodIn_sub (fun _ h => List.mem_cons_of_mem _ (List.mem_append_left _ (List.mem_append_right _ h))) (by decide +kernel))
set_option maxRecDepth 20000 in
theorem gX6_send_X6_boxNumbered : GoodIn wsX6_send (wsV RX6 116 RX6 yX6_boxNumbered wsX6_boxNumbered) := goodIn_app (goodIn_of _ (by decide +kernel)) ggX6_send_X6_boxNumbered
set_option maxRecDepth 20000 in
theorem ggX6_send_X6_targetsOf : GoodIn wsX6_send wsX6_targetsOf := goodIn_r _ [48] (by decide +kernel) (by decide +kernel)
set_option maxRecDepth 20000 in
theorem gX6_send_X6_targetsOf : GoodIn wsX6_send (va_wsS RX6 120 yX6_targetsOf wsX6_targetsOf) := goodIn_app (goodIn_of _ (by decide +kernel)) ggX6_send_X6_targetsOf
set_option maxRecDepth 20000 in
theorem ggX6_send_X6_requireOneOf : GoodIn wsX6_send wsX6_requireOneOf := goodIn_ca (goodIn_r _ [28, 3, 4] (by decide +kernel) (by decide +kernel)) (goodIn_sub (fun _ h => List.mem_cons_of_mem _ (List.mem_append_left _ (List.mem_append_right _ h))) (by decide +kernel))
set_option maxRecDepth 20000 in
theorem gX6_send_X6_requireOneOf : GoodIn wsX6_send (va_wsS RX6 52 yX6_requireOneOf wsX6_requireOneOf) := goodIn_app (goodIn_of _ (by decide +kernel)) ggX6_send_X6_requireOneOf
set_option maxRecDepth 20000 in
theorem ggX6_send_X6_isFor : GoodIn wsX6_send wsX6_isFor := goodIn_r _ [51] (by decide +kernel) (by decide +kernel)
set_option maxRecDepth 20000 in
theorem gX6_send_X6_isFor : GoodIn wsX6_send (va_wsS RX6 124 yX6_isFor wsX6_isFor) := goodIn_app (goodIn_of _ (by decide +kernel)) ggX6_send_X6_isFor
set_option maxRecDepth 20000 in
theorem ggX6_send_X6_leastBusyFor : GoodIn wsX6_send wsX6_leastBusyFor := goodIn_ca (goodIn_r _ [55, 56, 11, 57, 58, 59, 16, 60, 61, 62, 63, 64, 65, 66, 20, 21, 22, 23, 24, 25, 26, 27, 28, 3, 4, 29, 30, 31, 32, 33, 34, 35, 36, 37, 38, 39, 40, 41, 42, 43, 44, 45, 67, 68, 69, 70, 71, 72, 49, 50, 51, 154, 155, 156, 157, 158, 159, 160, 161, 162, 163, 164, 165, 166, 167, 168, 169, 139, 140, 141, 142, 143, 144, 145, 146, 170, 171, 172] (by decide +kernel) (by decide +kernel)) (goodIn_sub (fun _ h => List.mem_cons_of_mem _ (List.mem_append_left _ (List.mem_append_right _ h))) (by decide +kernel))
set_option maxRecDepth 20000 in
theorem gX6_send_X6_leastBusyFor : GoodIn wsX6_send (wsV RX6 132 RX6 yX6_leastBusyFor wsX6_leastBusyFor) := goodIn_app (goodIn_of _ (by decide +kernel)) ggX6_send_X6_leastBusyFor
set_option maxRecDepth 20000 in
theorem ggX6_send_X6_workerNumbered : GoodIn wsX6_send wsX6_workerNumbered := goodIn_ca (goodIn_r _ [60, 61, 62, 63, 16, 64, 65, 66, 20, 21, 22, 23, 24, 25, 26, 27, 28, 3, 4, 29, 30, 31, 32, 33, 34, 35, 36, 37, 38, 39, 40, 41, 42, 43, 44, 45, 67, 68, 69, 70, 71, 72, 139, 140, 141, 142, 143, 144, 145, 146, 170, 171, 172] (by decide +kernel) (by decide +kernel)) (goodIn_sub (fun _ h => List.mem_cons_of_mem _ (List.mem_append_left _ (List.mem_append_right _ h))) (by decide +kernel))
set_option maxRecDepth 20000 in
theorem gX6_send_X6_workerNumbered : GoodIn wsX6_send (wsV RX6 136 RX6 yX6_workerNumbered wsX6_workerNumbered) := goodIn_app (goodIn_of _ (by decide +kernel)) ggX6_send_X6_workerNumbered
set_option maxRecDepth 20000 in
theorem ggX6_send_Jx4a65c_size_8abf5 : GoodIn wsX6_send wsJx4a65c_size_8abf5 := goodIn_r _ [24, 25, 170, 171, 172] (by decide +kernel) (by decide +kernel)
set_option maxRecDepth 20000 in
theorem gX6_send_Jx4a65c_size_8abf5 : GoodIn wsX6_send (wsV RX6 62 RJx4a65c yJx4a65c_size_8abf5 wsJx4a65c_size_8abf5) := goodIn_app (goodIn_of _ (by decide +kernel)) ggX6_send_Jx4a65c_size_8abf5
set_option maxRecDepth 20000 in
theorem ggX6_send_X2_init : GoodIn wsX6_send wsX2_init := goodIn_r _ [75, 76, 77, 78, 79, 80, 81, 82, 83, 84, 85, 147, 148, 149, 150, 151, 152, 153] (by decide +kernel) (by decide +kernel)
set_option maxRecDepth 20000 in
theorem gX6_send_X2_init : GoodIn wsX6_send (wsX2_init) := ggX6_send_X2_init
set_option maxRecDepth 20000 in
theorem ggX6_send_Jx4a65c_add_9ea2d : GoodIn wsX6_send wsJx4a65c_add_9ea2d := goodIn_r _ [89, 90, 91, 45, 25, 92, 93, 94, 23, 95, 96, 97, 98, 99, 100, 101, 102, 103, 104, 105, 106, 107, 108, 109, 110, 111, 112, 113, 114, 115, 116, 117, 118, 119, 120, 121, 122, 123, 124, 125, 126, 127, 128, 129, 130, 131, 132, 133, 134, 135, 136, 137, 138, 170, 171, 172] (by decide +kernel) (by decide +kernel)
set_option maxRecDepth 20000 in
theorem gX6_send_Jx4a65c_add_9ea2d : GoodIn wsX6_send (wsV RX6 43 RJx4a65c yJx4a65c_add_9ea2d wsJx4a65c_add_9ea2d) := goodIn_app (goodIn_of _ (by decide +kernel)) ggX6_send_Jx4a65c_add_9ea2d
set_option maxRecDepth 20000 in
theorem ggX6_deliver_X6_workerNumbered : GoodIn wsX6_deliver wsX6_workerNumbered := goodIn_ca (goodIn_r _ [8, 9, 10, 11, 7, 12, 13, 14, 15, 16, 17, 18, 19, 20, 21, 22, 23, 24, 25, 26, 27, 28, 29, 30, 31, 32, 33, 34, 35, 36, 37, 38, 39, 40, 41, 42, 43, 44, 45, 46, 47, 48, 220, 221, 222, 223, 224, 225, 226, 227, 228, 229, 230] (by decide +kernel) (by decide +kernel)) (goodIn_sub (fun _ h => List.mem_cons_of_mem _ (List.mem_append_right _ h)) (by decide +kernel))
set_option maxRecDepth 20000 in
theorem gX6_deliver_X6_workerNumbered : GoodIn wsX6_deliver (wsV RX6 136 RX6 yX6_workerNumbered wsX6_workerNumbered) := goodIn_app (goodIn_of _ (by decide +kernel)) ggX6_deliver_X6_workerNumbered
set_option maxRecDepth 20000 in
theorem ggX6_deliver_Jx4a65c_isEmpty_aae02 : GoodIn wsX6_deliver wsJx4a65c_isEmpty_aae02 := goodIn_r _ [52, 20, 228, 229, 230] (by decide +kernel) (by decide +kernel)
set_option maxRecDepth 20000 in
theorem gX6_deliver_Jx4a65c_isEmpty_aae02 : GoodIn wsX6_deliver (wsV RX6 154 RJx4a65c yJx4a65c_isEmpty_aae02 wsJx4a65c_isEmpty_aae02) := goodIn_app (goodIn_of _ (by decide +kernel)) ggX6_deliver_Jx4a65c_isEmpty_aae02
set_option maxRecDepth 20000 in
theorem ggX6_deliver_Jx4a65c_get_915e3 : GoodIn wsX6_deliver wsJx4a65c_get_915e3 := goodIn_r _ [29, 20, 30, 31, 32, 33, 34, 35, 36, 37, 38, 39, 40, 18, 41, 42, 228, 229, 230] (by decide +kernel) (by decide +kernel)
set_option maxRecDepth 20000 in
theorem gX6_deliver_Jx4a65c_get_915e3 : GoodIn wsX6_deliver (wsV RX6 97 RJx4a65c yJx4a65c_get_915e3 wsJx4a65c_get_915e3) := goodIn_app (goodIn_of _ (by decide +kernel)) ggX6_deliver_Jx4a65c_get_915e3
set_option maxRecDepth 20000 in
theorem ggX6_deliver_X6_handOver : GoodIn wsX6_deliver wsX6_handOver := goodIn_ca (goodIn_r _ [56, 57, 58, 59, 60, 61, 62, 63, 7, 64, 15, 16, 17, 18, 19, 20, 26, 27, 28, 29, 30, 31, 32, 33, 34, 35, 36, 37, 38, 39, 40, 41, 42, 65, 66, 67, 68, 69, 70, 71, 72, 73, 74, 75, 76, 77, 78, 79, 80, 81, 82, 83, 84, 85, 86, 87, 88, 89, 90, 91, 92, 93, 94, 95, 96, 97, 98, 99, 100, 101, 102, 103, 104, 105, 106, 107, 108, 109, 110, 111, 112, 113, 114, 115, 116, 117, 118, 119, 120, 121, 122, 123, 124, 125, 126, 127, 128, 129, 130, 131, 132, 133, 134, 135, 136, 137, 138, 139, 140, 141, 142, 143, 144, 145, 146, 147, 148, 9, 10, 11, 12, 13, 14, 21, 22, 23, 24, 25, 149, 150, 151, 152, 153, 154, 155, 156, 157, 158, 159, 160, 161, 162, 163, 164, 165, 166, 167, 168, 169, 170, 171, 172, 173, 174, 175, 176, 177, 178, 179, 180, 181, 182, 183, 184, 185, 186, 187, 188, 43, 44, 45, 46, 47, 48, 197, 198, 199, 200, 201, 202, 203, 204, 205, 206, 207, 208, 209, 210, 211, 212, 228, 229, 230, 213, 214, 215, 216, 217, 218, 219, 220, 221, 222, 223, 224, 225, 226, 227, 231, 232, 233, 234, 235, 236, 237, 238] (by decide +kernel) (by decide +kernel)) (goodIn_sub (fun _ h => List.mem_cons_of_mem _ (List.mem_append_right _ h)) (by decide +kernel))
set_option maxRecDepth 20000 in
theorem gX6_deliver_X6_handOver : GoodIn wsX6_deliver (wsV RX6 161 RX6 yX6_handOver wsX6_handOver) := goodIn_app (goodIn_of _ (by decide +kernel)) ggX6_deliver_X6_handOver
set_option maxRecDepth 20000 in
theorem ggX6_deliver_X5_putLast : GoodIn wsX6_deliver wsX5_putLast := goodIn_r _ [193, 79, 194, 74, 75, 76, 77, 78, 63, 7, 64, 15, 16, 17, 18, 19, 20, 26, 27, 28, 29, 30, 31, 32, 33, 34, 35, 36, 37, 38, 39, 40, 41, 42, 80, 81, 82, 83, 84, 85, 86, 87, 88, 89, 90, 91, 92, 93, 94, 195, 102, 103, 104, 105, 106, 107, 108, 109, 110, 111, 112, 113, 114, 115, 116, 117, 118, 119, 120, 121, 122, 123, 124, 125, 126, 127, 128, 129, 130, 131, 132, 133, 134, 135, 136, 137, 138, 139, 140, 141, 142, 143, 144, 145, 146, 147, 148, 197, 198, 199, 200, 201, 202, 203, 204, 205, 206, 207, 208, 209, 210, 211, 212, 228, 229, 230] (by decide +kernel) (by decide +kernel)
set_option maxRecDepth 20000 in
theorem gX6_deliver_X5_putLast_u165X1 : GoodIn wsX6_deliver (va_wsU RX6 165 RX1 "QuayMesh$Worker" ⟨"QuayMesh$Worker", "putLast", "(LQuayMesh$Message;)V"⟩ yX5_putLast wsX5_putLast) := goodIn_app (goodIn_of _ (by decide +kernel)) ggX6_deliver_X5_putLast
set_option maxRecDepth 20000 in
theorem gX6_deliver_X5_putLast_u165X4 : GoodIn wsX6_deliver (va_wsU RX6 165 RX4 "QuayMesh$Worker" ⟨"QuayMesh$Worker", "putLast", "(LQuayMesh$Message;)V"⟩ yX5_putLast wsX5_putLast) := goodIn_app (goodIn_of _ (by decide +kernel)) ggX6_deliver_X5_putLast
set_option maxRecDepth 20000 in
theorem ggX6_act_X6_truckNumbered : GoodIn wsX6_act wsX6_truckNumbered := goodIn_ca (goodIn_r _ [7, 8, 9, 10, 11, 12, 13, 14, 15, 16, 17, 18, 19, 20, 21, 22, 23, 24, 25, 26, 27, 28, 29, 30, 31, 32, 33, 34, 200, 201, 202, 203, 204, 205, 206, 207, 208, 209, 210] (by decide +kernel) (by decide +kernel)) (goodIn_sub (fun _ h => List.mem_cons_of_mem _ (List.mem_append_right _ h)) (by decide +kernel))
set_option maxRecDepth 20000 in
theorem gX6_act_X6_truckNumbered : GoodIn wsX6_act (wsV RX6 169 RX6 yX6_truckNumbered wsX6_truckNumbered) := goodIn_app (goodIn_of _ (by decide +kernel)) ggX6_act_X6_truckNumbered
set_option maxRecDepth 20000 in
theorem ggX6_act_X6_isNothingToDo : GoodIn wsX6_act wsX6_isNothingToDo := goodIn_r _ [37, 2, 38, 39, 40, 41, 42, 43, 44, 45, 46, 47, 193, 194, 195, 196, 197, 198, 199, 211, 212, 213, 214, 215, 216, 217, 218] (by decide +kernel) (by decide +kernel)
set_option maxRecDepth 20000 in
theorem gX6_act_X6_isNothingToDo : GoodIn wsX6_act (va_wsS RX6 177 yX6_isNothingToDo wsX6_isNothingToDo) := goodIn_app (goodIn_of _ (by decide +kernel)) ggX6_act_X6_isNothingToDo
set_option maxRecDepth 20000 in
theorem ggX6_act_X6_finish : GoodIn wsX6_act wsX6_finish := goodIn_r _ [51, 52, 53, 1, 54, 55, 56, 15, 57, 58, 59, 34, 17, 60, 61, 62, 63, 64, 65, 66, 67, 68, 69, 70, 71, 72, 73, 74, 75, 76, 77, 78, 79, 80, 81, 82, 83, 84, 85, 86, 87, 88, 89, 90, 91, 92, 93, 94, 95, 96, 97, 98, 99, 100, 101, 102, 103, 104, 105, 106, 107, 108, 109, 6, 110, 111, 112, 113, 114, 115, 116, 117, 118, 119, 120, 121, 122, 123, 12, 13, 14, 16, 18, 19, 20, 21, 22, 23, 24, 25, 26, 27, 28, 29, 30, 31, 32, 33, 124, 125, 126, 127, 128, 129, 130, 131, 132, 133, 134, 135, 136, 137, 138, 139, 219, 220, 221, 222, 223, 224, 225, 226, 185, 186, 187, 188, 189, 190, 191, 192, 208, 209, 210, 193, 194, 195, 196, 197, 198, 199, 200, 201, 202, 203, 204, 205, 206, 207] (by decide +kernel) (by decide +kernel)
set_option maxRecDepth 20000 in
theorem gX6_act_X6_finish : GoodIn wsX6_act (wsV RX6 181 RX6 yX6_finish wsX6_finish) := goodIn_app (goodIn_of _ (by decide +kernel)) ggX6_act_X6_finish
set_option maxRecDepth 20000 in
theorem ggX6_act_X0_isAt : GoodIn wsX6_act wsX0_isAt := goodIn_r _ [45, 46, 47, 211, 212, 213, 214, 215, 216, 217, 218] (by decide +kernel) (by decide +kernel)
set_option maxRecDepth 20000 in
theorem gX6_act_X0_isAt : GoodIn wsX6_act (wsV RX6 189 RX0 yX0_isAt wsX0_isAt) := goodIn_app (goodIn_of _ (by decide +kernel)) ggX6_act_X0_isAt
set_option maxRecDepth 20000 in
theorem ggX6_act_X6_canPutDown : GoodIn wsX6_act wsX6_canPutDown := goodIn_r _ [143, 39, 40, 2, 144, 145, 146, 147, 6, 148, 149, 150, 12, 13, 14, 15, 16, 17, 18, 19, 20, 21, 22, 23, 24, 25, 26, 27, 28, 29, 30, 31, 32, 33, 34, 41, 42, 43, 44, 45, 46, 47, 151, 152, 153, 154, 155, 156, 193, 194, 195, 196, 197, 198, 199, 200, 201, 202, 203, 204, 205, 206, 207, 208, 209, 210, 211, 212, 213, 214, 215, 216, 217, 218] (by decide +kernel) (by decide +kernel)
set_option maxRecDepth 20000 in
theorem gX6_act_X6_canPutDown : GoodIn wsX6_act (wsV RX6 192 RX6 yX6_canPutDown wsX6_canPutDown) := goodIn_app (goodIn_of _ (by decide +kernel)) ggX6_act_X6_canPutDown
set_option maxRecDepth 20000 in
theorem ggX6_act_X6_putDown : GoodIn wsX6_act wsX6_putDown := goodIn_r _ [160, 2, 39, 40, 161, 145, 146, 147, 6, 148, 149, 150, 12, 13, 14, 15, 16, 17, 18, 19, 20, 21, 22, 23, 24, 25, 26, 27, 28, 29, 30, 31, 32, 33, 34, 41, 42, 43, 44, 45, 46, 47, 162, 163, 164, 165, 166, 167, 168, 169, 155, 156, 170, 171, 172, 173, 174, 175, 193, 194, 195, 196, 197, 198, 199, 211, 212, 213, 214, 215, 216, 217, 218, 200, 201, 202, 203, 204, 205, 206, 207, 208, 209, 210] (by decide +kernel) (by decide +kernel)
set_option maxRecDepth 20000 in
theorem gX6_act_X6_putDown : GoodIn wsX6_act (wsV RX6 195 RX6 yX6_putDown wsX6_putDown) := goodIn_app (goodIn_of _ (by decide +kernel)) ggX6_act_X6_putDown
set_option maxRecDepth 20000 in
theorem ggX6_act_X6_canTake : GoodIn wsX6_act wsX6_canTake := goodIn_r _ [179, 38, 180, 181, 182, 6, 183, 161, 184, 145, 146, 147, 148, 149, 150, 12, 13, 14, 15, 16, 17, 18, 19, 20, 21, 22, 23, 24, 25, 26, 27, 28, 29, 30, 31, 32, 33, 34, 41, 42, 43, 44, 45, 46, 47, 211, 212, 213, 214, 215, 216, 217, 218, 200, 201, 202, 203, 204, 205, 206, 207, 208, 209, 210] (by decide +kernel) (by decide +kernel)
set_option maxRecDepth 20000 in
theorem gX6_act_X6_canTake : GoodIn wsX6_act (wsV RX6 198 RX6 yX6_canTake wsX6_canTake) := goodIn_app (goodIn_of _ (by decide +kernel)) ggX6_act_X6_canTake
set_option maxRecDepth 20000 in
theorem ggX6_act_X0_bring : GoodIn wsX6_act wsX0_bring := goodIn_r _ [165, 46, 47, 211, 212, 213, 214, 215, 216, 217, 218] (by decide +kernel) (by decide +kernel)
set_option maxRecDepth 20000 in
theorem gX6_act_X0_bring : GoodIn wsX6_act (wsV RX6 202 RX0 yX0_bring wsX0_bring) := goodIn_app (goodIn_of _ (by decide +kernel)) ggX6_act_X0_bring
set_option maxRecDepth 20000 in
theorem ggX6_lose_X6_workerNumbered : GoodIn wsX6_lose wsX6_workerNumbered := goodIn_ca (goodIn_r _ [9, 10, 11, 12, 8, 13, 14, 15, 16, 17, 18, 19, 20, 21, 22, 23, 24, 25, 26, 27, 28, 29, 30, 31, 32, 33, 34, 35, 36, 37, 38, 39, 40, 41, 42, 43, 44, 45, 46, 47, 48, 49, 66, 67, 68, 69, 70, 71, 72, 73, 74, 75, 76] (by decide +kernel) (by decide +kernel)) (goodIn_sub (fun _ h => List.mem_cons_of_mem _ (List.mem_append_right _ h)) (by decide +kernel))
set_option maxRecDepth 20000 in
theorem gX6_lose_X6_workerNumbered : GoodIn wsX6_lose (wsV RX6 136 RX6 yX6_workerNumbered wsX6_workerNumbered) := goodIn_app (goodIn_of _ (by decide +kernel)) ggX6_lose_X6_workerNumbered
set_option maxRecDepth 20000 in
theorem ggX6_repeat_X6_workerNumbered : GoodIn wsX6_repeat wsX6_workerNumbered := goodIn_ca (goodIn_r _ [10, 11, 12, 13, 9, 14, 15, 16, 17, 18, 19, 20, 21, 22, 23, 24, 25, 26, 27, 28, 29, 30, 31, 32, 33, 34, 35, 36, 37, 38, 39, 40, 41, 42, 43, 44, 45, 46, 47, 48, 49, 50, 134, 135, 136, 137, 138, 139, 140, 141, 142, 143, 144] (by decide +kernel) (by decide +kernel)) (goodIn_sub (fun _ h => List.mem_cons_of_mem _ (List.mem_append_right _ h)) (by decide +kernel))
set_option maxRecDepth 20000 in
theorem gX6_repeat_X6_workerNumbered : GoodIn wsX6_repeat (wsV RX6 136 RX6 yX6_workerNumbered wsX6_workerNumbered) := goodIn_app (goodIn_of _ (by decide +kernel)) ggX6_repeat_X6_workerNumbered
set_option maxRecDepth 20000 in
theorem ggX6_repeat_X6_isInAQueue : GoodIn wsX6_repeat wsX6_isInAQueue := goodIn_ca (goodIn_r _ [54, 4, 6, 7, 8, 9, 10, 11, 12, 13, 14, 15, 16, 17, 18, 19, 20, 21, 22, 23, 24, 25, 26, 27, 28, 29, 30, 31, 32, 33, 34, 35, 36, 37, 38, 39, 40, 41, 42, 43, 44, 45, 46, 47, 48, 49, 50, 55, 56, 57, 111, 112, 113, 114, 115, 116, 117, 118, 119, 120, 121, 122, 123, 124, 125, 126, 134, 135, 136, 137, 138, 139, 140, 141, 142, 143, 144] (by decide +kernel) (by decide +kernel)) (goodIn_sub (fun _ h => List.mem_cons_of_mem _ (List.mem_append_right _ h)) (by decide +kernel))
set_option maxRecDepth 20000 in
theorem gX6_repeat_X6_isInAQueue : GoodIn wsX6_repeat (wsV RX6 216 RX6 yX6_isInAQueue wsX6_isInAQueue) := goodIn_app (goodIn_of _ (by decide +kernel)) ggX6_repeat_X6_isInAQueue
set_option maxRecDepth 20000 in
theorem ggX6_repeat_Jx4a65c_add_9ea2d : GoodIn wsX6_repeat wsJx4a65c_add_9ea2d := goodIn_r _ [61, 62, 63, 44, 22, 64, 65, 66, 20, 67, 68, 69, 70, 71, 72, 73, 74, 75, 76, 77, 78, 79, 80, 81, 82, 83, 84, 85, 86, 87, 88, 89, 90, 91, 92, 93, 94, 95, 96, 97, 98, 99, 100, 101, 102, 103, 104, 105, 106, 107, 108, 109, 110, 142, 143, 144] (by decide +kernel) (by decide +kernel)
set_option maxRecDepth 20000 in
theorem gX6_repeat_Jx4a65c_add_9ea2d : GoodIn wsX6_repeat (wsV RX6 43 RJx4a65c yJx4a65c_add_9ea2d wsJx4a65c_add_9ea2d) := goodIn_app (goodIn_of _ (by decide +kernel)) ggX6_repeat_Jx4a65c_add_9ea2d
set_option maxRecDepth 20000 in
theorem ggX6_silence_X6_craneNumbered : GoodIn wsX6_silence wsX6_craneNumbered := goodIn_ca (goodIn_r _ [7, 8, 9, 10, 11, 12, 13, 14, 15, 16, 17, 6, 18, 19, 20, 21, 22, 23, 24, 25, 26, 27, 28, 29, 30, 31, 32, 33, 34, 35, 36, 37, 54, 55, 56, 57, 58, 59, 60, 61, 62, 63, 64] (by decide +kernel) (by decide +kernel)) (goodIn_sub (fun _ h => List.mem_cons_of_mem _ (List.mem_append_right _ h)) (by decide +kernel))
set_option maxRecDepth 20000 in
theorem gX6_silence_X6_craneNumbered : GoodIn wsX6_silence (wsV RX6 221 RX6 yX6_craneNumbered wsX6_craneNumbered) := goodIn_app (goodIn_of _ (by decide +kernel)) ggX6_silence_X6_craneNumbered
set_option maxRecDepth 20000 in
theorem ggX6_giveAway_X6_craneNumbered : GoodIn wsX6_giveAway wsX6_craneNumbered := goodIn_ca (goodIn_r _ [12, 13, 14, 15, 16, 17, 18, 19, 20, 21, 22, 11, 23, 24, 25, 26, 27, 28, 29, 30, 31, 32, 33, 34, 35, 36, 37, 38, 39, 40, 41, 42, 116, 117, 118, 119, 120, 121, 122, 123, 124, 125, 126] (by decide +kernel) (by decide +kernel)) (goodIn_sub (fun _ h => List.mem_cons_of_mem _ (List.mem_append_right _ h)) (by decide +kernel))
set_option maxRecDepth 20000 in
theorem gX6_giveAway_X6_craneNumbered : GoodIn wsX6_giveAway (wsV RX6 221 RX6 yX6_craneNumbered wsX6_craneNumbered) := goodIn_app (goodIn_of _ (by decide +kernel)) ggX6_giveAway_X6_craneNumbered
set_option maxRecDepth 20000 in
theorem ggX6_giveAway_Jx4a65c_size_8abf5 : GoodIn wsX6_giveAway wsJx4a65c_size_8abf5 := goodIn_r _ [19, 20, 124, 125, 126] (by decide +kernel) (by decide +kernel)
set_option maxRecDepth 20000 in
theorem gX6_giveAway_Jx4a65c_size_8abf5 : GoodIn wsX6_giveAway (wsV RX6 62 RJx4a65c yJx4a65c_size_8abf5 wsJx4a65c_size_8abf5) := goodIn_app (goodIn_of _ (by decide +kernel)) ggX6_giveAway_Jx4a65c_size_8abf5
set_option maxRecDepth 20000 in
theorem ggX6_giveAway_Jx4a65c_get_915e3 : GoodIn wsX6_giveAway wsJx4a65c_get_915e3 := goodIn_r _ [29, 20, 30, 31, 32, 33, 34, 35, 36, 37, 38, 39, 40, 18, 41, 42, 124, 125, 126] (by decide +kernel) (by decide +kernel)
set_option maxRecDepth 20000 in
theorem gX6_giveAway_Jx4a65c_get_915e3 : GoodIn wsX6_giveAway (wsV RX6 97 RJx4a65c yJx4a65c_get_915e3 wsJx4a65c_get_915e3) := goodIn_app (goodIn_of _ (by decide +kernel)) ggX6_giveAway_Jx4a65c_get_915e3
set_option maxRecDepth 20000 in
theorem ggX6_giveAway_Jx4a65c_add_9ea2d : GoodIn wsX6_giveAway wsJx4a65c_add_9ea2d := goodIn_r _ [46, 47, 48, 42, 20, 49, 50, 51, 18, 52, 53, 54, 55, 56, 57, 58, 59, 60, 61, 62, 63, 64, 65, 66, 67, 68, 69, 70, 71, 72, 73, 74, 75, 76, 77, 78, 79, 80, 81, 82, 83, 84, 85, 86, 87, 88, 89, 90, 91, 92, 93, 94, 95, 124, 125, 126] (by decide +kernel) (by decide +kernel)
set_option maxRecDepth 20000 in
theorem gX6_giveAway_Jx4a65c_add_9ea2d : GoodIn wsX6_giveAway (wsV RX6 43 RJx4a65c yJx4a65c_add_9ea2d wsJx4a65c_add_9ea2d) := goodIn_app (goodIn_of _ (by decide +kernel)) ggX6_giveAway_Jx4a65c_add_9ea2d
set_option maxRecDepth 20000 in
theorem ggX6_giveAway_Jx4a65c_clear_da8c8 : GoodIn wsX6_giveAway wsJx4a65c_clear_da8c8 := goodIn_r _ [99, 47, 48, 42, 20, 124, 125, 126] (by decide +kernel) (by decide +kernel)
set_option maxRecDepth 20000 in
theorem gX6_giveAway_Jx4a65c_clear_da8c8 : GoodIn wsX6_giveAway (wsV RX6 231 RJx4a65c yJx4a65c_clear_da8c8 wsJx4a65c_clear_da8c8) := goodIn_app (goodIn_of _ (by decide +kernel)) ggX6_giveAway_Jx4a65c_clear_da8c8
set_option maxRecDepth 20000 in
theorem ggX6_park_X6_craneNumbered : GoodIn wsX6_park wsX6_craneNumbered := goodIn_ca (goodIn_r _ [10, 11, 12, 13, 14, 15, 16, 17, 18, 19, 20, 9, 21, 22, 23, 24, 25, 26, 27, 28, 29, 30, 31, 32, 33, 34, 35, 36, 37, 38, 39, 40, 61, 62, 63, 64, 65, 66, 67, 68, 69, 70, 71] (by decide +kernel) (by decide +kernel)) (goodIn_sub (fun _ h => List.mem_cons_of_mem _ (List.mem_append_right _ h)) (by decide +kernel))
set_option maxRecDepth 20000 in
theorem gX6_park_X6_craneNumbered : GoodIn wsX6_park (wsV RX6 221 RX6 yX6_craneNumbered wsX6_craneNumbered) := goodIn_app (goodIn_of _ (by decide +kernel)) ggX6_park_X6_craneNumbered
set_option maxRecDepth 20000 in
theorem ggX6_park_X6_requireOneOf : GoodIn wsX6_park wsX6_requireOneOf := goodIn_ca (goodIn_r _ [21, 22, 23] (by decide +kernel) (by decide +kernel)) (goodIn_sub (fun _ h => List.mem_cons_of_mem _ (List.mem_append_right _ h)) (by decide +kernel))
set_option maxRecDepth 20000 in
theorem gX6_park_X6_requireOneOf : GoodIn wsX6_park (va_wsS RX6 52 yX6_requireOneOf wsX6_requireOneOf) := goodIn_app (goodIn_of _ (by decide +kernel)) ggX6_park_X6_requireOneOf
set_option maxRecDepth 20000 in
theorem ggX6_park_X6_canGo : GoodIn wsX6_park wsX6_canGo := goodIn_ca (goodIn_r _ [44, 5, 6, 7, 8, 9, 10, 11, 12, 13, 14, 15, 16, 17, 18, 19, 20, 21, 22, 23, 24, 25, 26, 27, 28, 29, 30, 31, 32, 33, 34, 35, 36, 37, 38, 39, 40, 45, 46, 47, 48, 49, 50, 51, 52, 61, 62, 63, 64, 65, 66, 67, 68, 69, 70, 71] (by decide +kernel) (by decide +kernel)) (goodIn_sub (fun _ h => List.mem_cons_of_mem _ (List.mem_append_right _ h)) (by decide +kernel))
set_option maxRecDepth 20000 in
theorem gX6_park_X6_canGo : GoodIn wsX6_park (wsV RX6 234 RX6 yX6_canGo wsX6_canGo) := goodIn_app (goodIn_of _ (by decide +kernel)) ggX6_park_X6_canGo
set_option maxRecDepth 20000 in
theorem ggX6_leastBusyFor_X6_workerNumbered : GoodIn wsX6_leastBusyFor wsX6_workerNumbered := goodIn_ca (goodIn_r _ [7, 8, 9, 10, 6, 11, 12, 13, 14, 15, 16, 17, 18, 19, 20, 21, 22, 23, 24, 25, 26, 27, 28, 29, 30, 31, 32, 33, 34, 35, 36, 37, 38, 39, 40, 41, 42, 43, 44, 45, 46, 47, 67, 68, 69, 70, 71, 72, 73, 74, 75, 76, 77] (by decide +kernel) (by decide +kernel)) (goodIn_sub (fun _ h => List.mem_cons_of_mem _ (List.mem_append_right _ h)) (by decide +kernel))
set_option maxRecDepth 20000 in
theorem gX6_leastBusyFor_X6_workerNumbered : GoodIn wsX6_leastBusyFor (wsV RX6 136 RX6 yX6_workerNumbered wsX6_workerNumbered) := goodIn_app (goodIn_of _ (by decide +kernel)) ggX6_leastBusyFor_X6_workerNumbered
set_option maxRecDepth 20000 in
theorem ggX6_leastBusyFor_X6_isFor : GoodIn wsX6_leastBusyFor wsX6_isFor := goodIn_r _ [50] (by decide +kernel) (by decide +kernel)
set_option maxRecDepth 20000 in
theorem gX6_leastBusyFor_X6_isFor : GoodIn wsX6_leastBusyFor (va_wsS RX6 124 yX6_isFor wsX6_isFor) := goodIn_app (goodIn_of _ (by decide +kernel)) ggX6_leastBusyFor_X6_isFor
set_option maxRecDepth 20000 in
theorem ggX6_leastBusyFor_Jx4a65c_size_8abf5 : GoodIn wsX6_leastBusyFor wsJx4a65c_size_8abf5 := goodIn_r _ [18, 19, 75, 76, 77] (by decide +kernel) (by decide +kernel)
set_option maxRecDepth 20000 in
theorem gX6_leastBusyFor_Jx4a65c_size_8abf5 : GoodIn wsX6_leastBusyFor (wsV RX6 62 RJx4a65c yJx4a65c_size_8abf5 wsJx4a65c_size_8abf5) := goodIn_app (goodIn_of _ (by decide +kernel)) ggX6_leastBusyFor_Jx4a65c_size_8abf5
set_option maxRecDepth 20000 in
theorem ggX6_isInAQueue_X6_workerNumbered : GoodIn wsX6_isInAQueue wsX6_workerNumbered := goodIn_ca (goodIn_r _ [6, 7, 8, 9, 5, 10, 11, 12, 13, 14, 15, 16, 17, 18, 19, 20, 21, 22, 23, 24, 25, 26, 27, 28, 29, 30, 31, 32, 33, 34, 35, 36, 37, 38, 39, 40, 41, 42, 43, 44, 45, 46, 66, 67, 68, 69, 70, 71, 72, 73, 74, 75, 76] (by decide +kernel) (by decide +kernel)) (goodIn_sub (fun _ h => List.mem_cons_of_mem _ (List.mem_append_right _ h)) (by decide +kernel))
set_option maxRecDepth 20000 in
theorem gX6_isInAQueue_X6_workerNumbered : GoodIn wsX6_isInAQueue (wsV RX6 136 RX6 yX6_workerNumbered wsX6_workerNumbered) := goodIn_app (goodIn_of _ (by decide +kernel)) ggX6_isInAQueue_X6_workerNumbered
set_option maxRecDepth 20000 in
theorem ggX6_isInAQueue_X6_indexOf : GoodIn wsX6_isInAQueue wsX6_indexOf := goodIn_r _ [49, 13, 14, 15, 16, 17, 18, 24, 25, 26, 27, 28, 29, 30, 31, 32, 33, 34, 35, 36, 37, 38, 39, 40, 74, 75, 76] (by decide +kernel) (by decide +kernel)
set_option maxRecDepth 20000 in
theorem gX6_isInAQueue_X6_indexOf : GoodIn wsX6_isInAQueue (va_wsS RX6 243 yX6_indexOf wsX6_indexOf) := goodIn_app (goodIn_of _ (by decide +kernel)) ggX6_isInAQueue_X6_indexOf
set_option maxRecDepth 20000 in
theorem ggX6_handOver_X6_indexOf : GoodIn wsX6_handOver wsX6_indexOf := goodIn_r _ [9, 10, 11, 12, 13, 14, 15, 16, 17, 18, 19, 20, 21, 22, 23, 24, 25, 26, 27, 28, 29, 30, 31, 32, 190, 191, 192] (by decide +kernel) (by decide +kernel)
set_option maxRecDepth 20000 in
theorem gX6_handOver_X6_indexOf : GoodIn wsX6_handOver (va_wsS RX6 243 yX6_indexOf wsX6_indexOf) := goodIn_app (goodIn_of _ (by decide +kernel)) ggX6_handOver_X6_indexOf
set_option maxRecDepth 20000 in
theorem ggX6_handOver_X6_acknowledge : GoodIn wsX6_handOver wsX6_acknowledge := goodIn_r _ [36, 37, 38, 39, 40, 41, 42, 43, 44, 45, 46, 47, 7, 8, 9, 10, 11, 12, 13, 14, 15, 16, 17, 18, 19, 20, 21, 22, 23, 24, 25, 26, 27, 28, 29, 30, 31, 32, 48, 49, 50, 51, 52, 53, 54, 55, 56, 57, 58, 59, 60, 61, 62, 63, 64, 65, 66, 67, 68, 69, 70, 71, 72, 73, 74, 75, 76, 77, 78, 79, 80, 81, 82, 83, 84, 85, 86, 87, 88, 89, 90, 91, 92, 93, 94, 95, 96, 97, 98, 99, 100, 101, 102, 103, 104, 105, 106, 107, 108, 109, 110, 111, 112, 113, 114, 115, 116, 174, 175, 176, 177, 178, 179, 180, 181, 182, 183, 184, 185, 186, 187, 188, 189, 193, 194, 195, 196, 197, 198, 199, 200, 201, 202, 203, 204, 205, 206, 207, 190, 191, 192] (by decide +kernel) (by decide +kernel)
set_option maxRecDepth 20000 in
theorem gX6_handOver_X6_acknowledge : GoodIn wsX6_handOver (wsV RX6 250 RX6 yX6_acknowledge wsX6_acknowledge) := goodIn_app (goodIn_of _ (by decide +kernel)) ggX6_handOver_X6_acknowledge
set_option maxRecDepth 20000 in
theorem ggX6_handOver_X6_craneNumbered : GoodIn wsX6_handOver wsX6_craneNumbered := goodIn_ca (goodIn_r _ [120, 121, 122, 10, 11, 12, 13, 14, 15, 123, 124, 8, 125, 126, 127, 16, 17, 18, 19, 20, 21, 22, 23, 24, 25, 26, 27, 28, 29, 30, 31, 32, 200, 201, 202, 203, 204, 205, 206, 207, 190, 191, 192] (by decide +kernel) (by decide +kernel)) (goodIn_sub (fun _ h => List.mem_cons_of_mem _ (List.mem_append_right _ h)) (by decide +kernel))
set_option maxRecDepth 20000 in
theorem gX6_handOver_X6_craneNumbered : GoodIn wsX6_handOver (wsV RX6 221 RX6 yX6_craneNumbered wsX6_craneNumbered) := goodIn_app (goodIn_of _ (by decide +kernel)) ggX6_handOver_X6_craneNumbered
set_option maxRecDepth 20000 in
theorem ggX6_handOver_X6_lift : GoodIn wsX6_handOver wsX6_lift := goodIn_ca (goodIn_r _ [131, 132, 133, 134, 135, 136, 137, 138, 139, 140, 33, 34, 35, 8, 36, 37, 38, 39, 40, 41, 42, 43, 44, 45, 46, 47, 7, 9, 10, 11, 12, 13, 14, 15, 16, 17, 18, 19, 20, 21, 22, 23, 24, 25, 26, 27, 28, 29, 30, 31, 32, 48, 49, 50, 51, 52, 53, 54, 55, 56, 57, 58, 59, 60, 61, 62, 63, 64, 65, 66, 67, 68, 69, 70, 71, 72, 73, 74, 75, 76, 77, 78, 79, 80, 81, 82, 83, 84, 85, 86, 87, 88, 89, 90, 91, 92, 93, 94, 95, 96, 97, 98, 99, 100, 101, 102, 103, 104, 105, 106, 107, 108, 109, 110, 111, 112, 113, 114, 115, 116, 141, 142, 143, 144, 117, 118, 119, 120, 121, 122, 123, 124, 125, 126, 127, 145, 146, 147, 148, 149, 150, 151, 152, 153, 154, 155, 156, 157, 158, 159, 160, 161, 162, 163, 164, 165, 166, 167, 193, 194, 195, 196, 197, 198, 199, 208, 209, 210, 211, 212, 213, 214, 215, 174, 175, 176, 177, 178, 179, 180, 181, 182, 183, 184, 185, 186, 187, 188, 189, 200, 201, 202, 203, 204, 205, 206, 207, 190, 191, 192] (by decide +kernel) (by decide +kernel)) (goodIn_sub (fun _ h => List.mem_cons_of_mem _ (List.mem_append_right _ h)) (by decide +kernel))
set_option maxRecDepth 20000 in
theorem gX6_handOver_X6_lift : GoodIn wsX6_handOver (wsV RX6 254 RX6 yX6_lift wsX6_lift) := goodIn_app (goodIn_of _ (by decide +kernel)) ggX6_handOver_X6_lift
set_option maxRecDepth 20000 in
theorem ggX6_handOver_X6_truckNumbered : GoodIn wsX6_handOver wsX6_truckNumbered := goodIn_ca (goodIn_r _ [171, 126, 127, 172, 173, 10, 11, 12, 13, 14, 15, 16, 17, 18, 19, 20, 21, 22, 23, 24, 25, 26, 27, 28, 29, 30, 31, 32, 200, 201, 202, 203, 204, 205, 206, 207, 190, 191, 192] (by decide +kernel) (by decide +kernel)) (goodIn_sub (fun _ h => List.mem_cons_of_mem _ (List.mem_append_right _ h)) (by decide +kernel))
set_option maxRecDepth 20000 in
theorem gX6_handOver_X6_truckNumbered : GoodIn wsX6_handOver (wsV RX6 169 RX6 yX6_truckNumbered wsX6_truckNumbered) := goodIn_app (goodIn_of _ (by decide +kernel)) ggX6_handOver_X6_truckNumbered
set_option maxRecDepth 20000 in
theorem ggX6_lift_X6_acknowledge : GoodIn wsX6_lift wsX6_acknowledge := goodIn_r _ [14, 15, 16, 17, 18, 19, 20, 21, 22, 23, 24, 25, 26, 13, 27, 28, 29, 30, 31, 32, 33, 34, 35, 36, 37, 38, 39, 40, 41, 42, 43, 44, 45, 46, 47, 48, 49, 50, 51, 52, 53, 54, 55, 56, 57, 58, 59, 60, 61, 62, 63, 64, 65, 66, 67, 68, 69, 70, 71, 72, 73, 74, 75, 76, 77, 78, 79, 80, 81, 82, 83, 84, 85, 86, 87, 88, 89, 90, 91, 92, 93, 94, 95, 96, 97, 98, 99, 100, 101, 102, 103, 104, 105, 106, 107, 108, 109, 110, 111, 112, 113, 114, 115, 116, 117, 118, 119, 173, 174, 175, 176, 177, 178, 179, 180, 181, 182, 183, 184, 185, 186, 187, 188, 158, 159, 160, 161, 162, 163, 164, 189, 190, 191, 192, 193, 194, 195, 196, 197, 198, 199] (by decide +kernel) (by decide +kernel)
set_option maxRecDepth 20000 in
theorem gX6_lift_X6_acknowledge : GoodIn wsX6_lift (wsV RX6 250 RX6 yX6_acknowledge wsX6_acknowledge) := goodIn_app (goodIn_of _ (by decide +kernel)) ggX6_lift_X6_acknowledge
set_option maxRecDepth 20000 in
theorem ggX6_lift_X6_canGo : GoodIn wsX6_lift wsX6_canGo := goodIn_ca (goodIn_r _ [123, 6, 124, 125, 126, 13, 127, 128, 129, 28, 29, 30, 31, 32, 33, 130, 131, 132, 133, 134, 34, 35, 36, 37, 38, 39, 40, 41, 42, 43, 44, 45, 46, 47, 48, 49, 50, 173, 174, 175, 176, 177, 178, 179, 180, 189, 190, 191, 192, 193, 194, 195, 196, 197, 198, 199] (by decide +kernel) (by decide +kernel)) (goodIn_sub (fun _ h => List.mem_cons_of_mem _ (List.mem_append_right _ h)) (by decide +kernel))
set_option maxRecDepth 20000 in
theorem gX6_lift_X6_canGo : GoodIn wsX6_lift (wsV RX6 234 RX6 yX6_canGo wsX6_canGo) := goodIn_app (goodIn_of _ (by decide +kernel)) ggX6_lift_X6_canGo
set_option maxRecDepth 20000 in
theorem ggX6_lift_X6_countAt : GoodIn wsX6_lift wsX6_countAt := goodIn_r _ [138, 139, 140, 28, 29, 30, 31, 32, 33, 34, 35, 36, 37, 38, 39, 40, 41, 42, 43, 44, 45, 46, 47, 48, 49, 50, 141, 142, 143, 144, 145, 146, 147, 189, 190, 191, 192, 193, 194, 195, 196, 197, 198, 199, 165, 166, 167, 168, 169, 170, 171, 172] (by decide +kernel) (by decide +kernel)
set_option maxRecDepth 20000 in
theorem gX6_lift_X6_countAt : GoodIn wsX6_lift (wsV RX6 260 RX6 yX6_countAt wsX6_countAt) := goodIn_app (goodIn_of _ (by decide +kernel)) ggX6_lift_X6_countAt
set_option maxRecDepth 20000 in
theorem ggX6_lift_X0_bring : GoodIn wsX6_lift wsX0_bring := goodIn_r _ [151, 146, 147, 165, 166, 167, 168, 169, 170, 171, 172] (by decide +kernel) (by decide +kernel)
set_option maxRecDepth 20000 in
theorem gX6_lift_X0_bring : GoodIn wsX6_lift (wsV RX6 202 RX0 yX0_bring wsX0_bring) := goodIn_app (goodIn_of _ (by decide +kernel)) ggX6_lift_X0_bring
set_option maxRecDepth 20000 in
theorem ggX6_lift_X6_noteMove : GoodIn wsX6_lift wsX6_noteMove := goodIn_r _ [155, 156, 157, 189, 190, 191, 192, 193, 194, 195, 196, 158, 159, 160, 161, 162, 163, 164] (by decide +kernel) (by decide +kernel)
set_option maxRecDepth 20000 in
theorem gX6_lift_X6_noteMove : GoodIn wsX6_lift (wsV RX6 267 RX6 yX6_noteMove wsX6_noteMove) := goodIn_app (goodIn_of _ (by decide +kernel)) ggX6_lift_X6_noteMove
set_option maxRecDepth 20000 in
theorem ggX6_lift_Jx4a65c_add_9ea2d : GoodIn wsX6_lift wsJx4a65c_add_9ea2d := goodIn_r _ [75, 59, 60, 50, 33, 76, 77, 78, 31, 79, 80, 81, 82, 83, 84, 85, 86, 87, 88, 89, 90, 91, 92, 93, 94, 95, 96, 97, 98, 99, 100, 101, 102, 103, 104, 105, 106, 107, 108, 109, 110, 111, 112, 113, 114, 115, 116, 117, 118, 119, 62, 63, 64, 197, 198, 199] (by decide +kernel) (by decide +kernel)
set_option maxRecDepth 20000 in
theorem gX6_lift_Jx4a65c_add_9ea2d : GoodIn wsX6_lift (wsV RX6 43 RJx4a65c yJx4a65c_add_9ea2d wsJx4a65c_add_9ea2d) := goodIn_app (goodIn_of _ (by decide +kernel)) ggX6_lift_Jx4a65c_add_9ea2d
set_option maxRecDepth 20000 in
theorem ggX6_canGo_X6_craneNumbered : GoodIn wsX6_canGo wsX6_craneNumbered := goodIn_ca (goodIn_r _ [6, 7, 8, 9, 10, 11, 12, 13, 14, 15, 16, 5, 17, 18, 19, 20, 21, 22, 23, 24, 25, 26, 27, 28, 29, 30, 31, 32, 33, 34, 35, 36, 45, 46, 47, 48, 49, 50, 51, 52, 53, 54, 55] (by decide +kernel) (by decide +kernel)) (goodIn_sub (fun _ h => List.mem_cons_of_mem _ (List.mem_append_right _ h)) (by decide +kernel))
set_option maxRecDepth 20000 in
theorem gX6_canGo_X6_craneNumbered : GoodIn wsX6_canGo (wsV RX6 221 RX6 yX6_craneNumbered wsX6_craneNumbered) := goodIn_app (goodIn_of _ (by decide +kernel)) ggX6_canGo_X6_craneNumbered
set_option maxRecDepth 20000 in
theorem ggX6_isNothingToDo_X0_isAt : GoodIn wsX6_isNothingToDo wsX0_isAt := goodIn_r _ [9, 10, 11, 19, 20, 21, 22, 23, 24, 25, 26] (by decide +kernel) (by decide +kernel)
set_option maxRecDepth 20000 in
theorem gX6_isNothingToDo_X0_isAt : GoodIn wsX6_isNothingToDo (wsV RX6 189 RX0 yX0_isAt wsX0_isAt) := goodIn_app (goodIn_of _ (by decide +kernel)) ggX6_isNothingToDo_X0_isAt
set_option maxRecDepth 20000 in
theorem ggX6_canTake_X6_isUppermost : GoodIn wsX6_canTake wsX6_isUppermost := goodIn_r _ [6, 7, 8, 9, 10, 11, 5, 12, 13, 14, 15, 16, 17, 18, 19, 20, 21, 22, 23, 24, 25, 26, 27, 28, 29, 30, 31, 32, 33, 34, 35, 36, 37, 38, 39, 40, 41, 42, 43, 44, 45, 46, 47, 48, 49, 50, 51, 52, 53, 54, 55, 56, 57, 58, 59, 60, 61, 62, 63] (by decide +kernel) (by decide +kernel)
set_option maxRecDepth 20000 in
theorem gX6_canTake_X6_isUppermost : GoodIn wsX6_canTake (wsV RX6 277 RX6 yX6_isUppermost wsX6_isUppermost) := goodIn_app (goodIn_of _ (by decide +kernel)) ggX6_canTake_X6_isUppermost
set_option maxRecDepth 20000 in
theorem ggX6_canTake_X6_countAt : GoodIn wsX6_canTake wsX6_countAt := goodIn_r _ [12, 13, 14, 15, 16, 17, 18, 19, 20, 21, 22, 23, 24, 25, 26, 27, 28, 29, 30, 31, 32, 33, 34, 35, 36, 37, 38, 39, 40, 41, 42, 43, 44, 53, 54, 55, 56, 57, 58, 59, 60, 61, 62, 63, 45, 46, 47, 48, 49, 50, 51, 52] (by decide +kernel) (by decide +kernel)
set_option maxRecDepth 20000 in
theorem gX6_canTake_X6_countAt : GoodIn wsX6_canTake (wsV RX6 260 RX6 yX6_countAt wsX6_countAt) := goodIn_app (goodIn_of _ (by decide +kernel)) ggX6_canTake_X6_countAt
set_option maxRecDepth 20000 in
theorem ggX6_isUppermost_X6_countAt : GoodIn wsX6_isUppermost wsX6_countAt := goodIn_r _ [7, 8, 9, 10, 11, 12, 13, 14, 15, 16, 17, 18, 19, 20, 21, 22, 23, 24, 25, 26, 27, 28, 29, 30, 31, 32, 33, 34, 35, 36, 37, 38, 39, 48, 49, 50, 51, 52, 53, 54, 55, 56, 57, 58, 40, 41, 42, 43, 44, 45, 46, 47] (by decide +kernel) (by decide +kernel)
set_option maxRecDepth 20000 in
theorem gX6_isUppermost_X6_countAt : GoodIn wsX6_isUppermost (wsV RX6 260 RX6 yX6_countAt wsX6_countAt) := goodIn_app (goodIn_of _ (by decide +kernel)) ggX6_isUppermost_X6_countAt
set_option maxRecDepth 20000 in
theorem ggX6_canPutDown_X6_countAt : GoodIn wsX6_canPutDown wsX6_countAt := goodIn_r _ [9, 10, 11, 12, 13, 14, 15, 16, 17, 18, 19, 20, 21, 22, 23, 24, 25, 26, 27, 28, 29, 30, 31, 32, 33, 34, 35, 36, 37, 38, 39, 40, 41, 55, 56, 57, 58, 59, 60, 61, 62, 63, 64, 65, 66, 67, 68, 69, 70, 71, 72, 73] (by decide +kernel) (by decide +kernel)
set_option maxRecDepth 20000 in
theorem gX6_canPutDown_X6_countAt : GoodIn wsX6_canPutDown (wsV RX6 260 RX6 yX6_countAt wsX6_countAt) := goodIn_app (goodIn_of _ (by decide +kernel)) ggX6_canPutDown_X6_countAt
set_option maxRecDepth 20000 in
theorem ggX6_canPutDown_X0_isBookedAt : GoodIn wsX6_canPutDown wsX0_isBookedAt := goodIn_r _ [45, 46, 47, 66, 67, 68, 69, 70, 71, 72, 73] (by decide +kernel) (by decide +kernel)
set_option maxRecDepth 20000 in
theorem gX6_canPutDown_X0_isBookedAt : GoodIn wsX6_canPutDown (wsV RX6 287 RX0 yX0_isBookedAt wsX0_isBookedAt) := goodIn_app (goodIn_of _ (by decide +kernel)) ggX6_canPutDown_X0_isBookedAt
set_option maxRecDepth 20000 in
theorem ggX6_putDown_X6_countAt : GoodIn wsX6_putDown wsX6_countAt := goodIn_r _ [9, 10, 11, 12, 13, 14, 15, 16, 17, 18, 19, 20, 21, 22, 23, 24, 25, 26, 27, 28, 29, 30, 31, 32, 33, 34, 35, 36, 37, 38, 39, 40, 41, 73, 74, 75, 76, 77, 78, 79, 80, 81, 82, 83, 65, 66, 67, 68, 69, 70, 71, 72] (by decide +kernel) (by decide +kernel)
set_option maxRecDepth 20000 in
theorem gX6_putDown_X6_countAt : GoodIn wsX6_putDown (wsV RX6 260 RX6 yX6_countAt wsX6_countAt) := goodIn_app (goodIn_of _ (by decide +kernel)) ggX6_putDown_X6_countAt
set_option maxRecDepth 20000 in
theorem ggX6_putDown_X0_bring : GoodIn wsX6_putDown wsX0_bring := goodIn_r _ [45, 40, 41, 65, 66, 67, 68, 69, 70, 71, 72] (by decide +kernel) (by decide +kernel)
set_option maxRecDepth 20000 in
theorem gX6_putDown_X0_bring : GoodIn wsX6_putDown (wsV RX6 202 RX0 yX0_bring wsX0_bring) := goodIn_app (goodIn_of _ (by decide +kernel)) ggX6_putDown_X0_bring
set_option maxRecDepth 20000 in
theorem ggX6_putDown_X0_dropBooking : GoodIn wsX6_putDown wsX0_dropBooking := goodIn_r _ [49, 50, 51, 65, 66, 67, 68, 69, 70, 71, 72] (by decide +kernel) (by decide +kernel)
set_option maxRecDepth 20000 in
theorem gX6_putDown_X0_dropBooking : GoodIn wsX6_putDown (wsV RX6 290 RX0 yX0_dropBooking wsX0_dropBooking) := goodIn_app (goodIn_of _ (by decide +kernel)) ggX6_putDown_X0_dropBooking
set_option maxRecDepth 20000 in
theorem ggX6_putDown_X6_noteMove : GoodIn wsX6_putDown wsX6_noteMove := goodIn_r _ [55, 56, 57, 73, 74, 75, 76, 77, 78, 79, 80, 58, 59, 60, 61, 62, 63, 64] (by decide +kernel) (by decide +kernel)
set_option maxRecDepth 20000 in
theorem gX6_putDown_X6_noteMove : GoodIn wsX6_putDown (wsV RX6 267 RX6 yX6_noteMove wsX6_noteMove) := goodIn_app (goodIn_of _ (by decide +kernel)) ggX6_putDown_X6_noteMove
set_option maxRecDepth 20000 in
theorem ggX6_finish_Jx4a65c_add_9ea2d : GoodIn wsX6_finish wsJx4a65c_add_9ea2d := goodIn_r _ [8, 9, 10, 11, 12, 13, 14, 15, 7, 16, 17, 18, 19, 20, 21, 22, 23, 24, 25, 26, 27, 28, 29, 30, 31, 32, 33, 34, 35, 36, 37, 38, 39, 40, 41, 42, 43, 44, 45, 46, 47, 48, 49, 50, 51, 52, 53, 54, 55, 56, 57, 58, 59, 130, 131, 132] (by decide +kernel) (by decide +kernel)
set_option maxRecDepth 20000 in
theorem gX6_finish_Jx4a65c_add_9ea2d : GoodIn wsX6_finish (wsV RX6 43 RJx4a65c yJx4a65c_add_9ea2d wsJx4a65c_add_9ea2d) := goodIn_app (goodIn_of _ (by decide +kernel)) ggX6_finish_Jx4a65c_add_9ea2d
set_option maxRecDepth 20000 in
theorem ggX6_finish_X6_acknowledge : GoodIn wsX6_finish wsX6_acknowledge := goodIn_r _ [64, 65, 66, 67, 68, 69, 70, 71, 72, 73, 74, 75, 76, 63, 77, 78, 79, 80, 7, 81, 12, 82, 83, 84, 85, 86, 87, 88, 89, 90, 91, 92, 93, 94, 95, 96, 97, 11, 98, 99, 100, 101, 102, 103, 104, 105, 9, 10, 106, 57, 58, 59, 107, 108, 109, 110, 111, 112, 113, 4, 5, 6, 8, 13, 14, 15, 16, 17, 18, 19, 20, 21, 22, 23, 24, 25, 26, 27, 28, 29, 30, 31, 32, 33, 34, 35, 36, 37, 38, 39, 40, 41, 42, 43, 44, 45, 46, 47, 48, 49, 50, 51, 52, 53, 54, 55, 56, 114, 115, 116, 117, 118, 119, 120, 121, 122, 123, 124, 125, 126, 127, 128, 129, 133, 134, 135, 136, 137, 138, 139, 140, 141, 142, 143, 144, 145, 146, 147, 130, 131, 132] (by decide +kernel) (by decide +kernel)
set_option maxRecDepth 20000 in
theorem gX6_finish_X6_acknowledge : GoodIn wsX6_finish (wsV RX6 250 RX6 yX6_acknowledge wsX6_acknowledge) := goodIn_app (goodIn_of _ (by decide +kernel)) ggX6_finish_X6_acknowledge
set_option maxRecDepth 20000 in
theorem ggX6_acknowledge_X5_takeOut : GoodIn wsX6_acknowledge wsX5_takeOut := goodIn_r _ [10, 11, 12, 13, 14, 15, 16, 17, 18, 19, 20, 21, 22, 23, 24, 25, 26, 27, 28, 29, 30, 31, 32, 33, 34, 35, 36, 37, 38, 39, 40, 41, 42, 43, 44, 45, 46, 47, 48, 49, 50, 51, 107, 108, 109, 110, 111, 112, 113, 114, 115, 116, 117, 118, 119, 120, 121, 122, 138, 139, 140] (by decide +kernel) (by decide +kernel)
set_option maxRecDepth 20000 in
theorem gX6_acknowledge_X5_takeOut_u297X1 : GoodIn wsX6_acknowledge (va_wsU RX6 297 RX1 "QuayMesh$Worker" ⟨"QuayMesh$Worker", "takeOut", "(LQuayMesh$Message;)V"⟩ yX5_takeOut wsX5_takeOut) := goodIn_app (goodIn_of _ (by decide +kernel)) ggX6_acknowledge_X5_takeOut
set_option maxRecDepth 20000 in
theorem gX6_acknowledge_X5_takeOut_u297X4 : GoodIn wsX6_acknowledge (va_wsU RX6 297 RX4 "QuayMesh$Worker" ⟨"QuayMesh$Worker", "takeOut", "(LQuayMesh$Message;)V"⟩ yX5_takeOut wsX5_takeOut) := goodIn_app (goodIn_of _ (by decide +kernel)) ggX6_acknowledge_X5_takeOut
set_option maxRecDepth 20000 in
theorem ggX6_acknowledge_X2_isMoveMade : GoodIn wsX6_acknowledge wsX2_isMoveMade := goodIn_r _ [57, 58, 123, 124, 125, 126, 127, 128, 129] (by decide +kernel) (by decide +kernel)
set_option maxRecDepth 20000 in
theorem gX6_acknowledge_X2_isMoveMade : GoodIn wsX6_acknowledge (wsV RX6 300 RX2 yX2_isMoveMade wsX2_isMoveMade) := goodIn_app (goodIn_of _ (by decide +kernel)) ggX6_acknowledge_X2_isMoveMade
set_option maxRecDepth 20000 in
theorem ggX6_acknowledge_Jx4a65c_add_9ea2d : GoodIn wsX6_acknowledge wsJx4a65c_add_9ea2d := goodIn_r _ [62, 46, 47, 37, 20, 63, 64, 65, 18, 66, 67, 68, 69, 70, 71, 72, 73, 74, 75, 76, 77, 78, 79, 80, 81, 82, 83, 84, 85, 86, 87, 88, 89, 90, 91, 92, 93, 94, 95, 96, 97, 98, 99, 100, 101, 102, 103, 104, 105, 106, 49, 50, 51, 138, 139, 140] (by decide +kernel) (by decide +kernel)
set_option maxRecDepth 20000 in
theorem gX6_acknowledge_Jx4a65c_add_9ea2d : GoodIn wsX6_acknowledge (wsV RX6 43 RJx4a65c yJx4a65c_add_9ea2d wsJx4a65c_add_9ea2d) := goodIn_app (goodIn_of _ (by decide +kernel)) ggX6_acknowledge_Jx4a65c_add_9ea2d
set_option maxRecDepth 20000 in
theorem ggX6_book_X6_requireOneOf : GoodIn wsX6_book wsX6_requireOneOf := goodIn_ca (goodIn_r _ [12, 13, 14] (by decide +kernel) (by decide +kernel)) (goodIn_sub (fun _ h => List.mem_cons_of_mem _ (List.mem_append_right _ h)) (by decide +kernel))
set_option maxRecDepth 20000 in
theorem gX6_book_X6_requireOneOf : GoodIn wsX6_book (va_wsS RX6 52 yX6_requireOneOf wsX6_requireOneOf) := goodIn_app (goodIn_of _ (by decide +kernel)) ggX6_book_X6_requireOneOf
set_option maxRecDepth 20000 in
theorem ggX6_book_X6_boxNumbered : GoodIn wsX6_book wsX6_boxNumbered := goodIn_ca (goodIn_r _ [18, 19, 20, 21, 22, 23, 24, 25, 26, 9, 10, 11, 12, 13, 14, 27, 28, 29, 30, 31, 32, 33, 34, 35, 36, 37, 38, 39, 40, 41, 42, 43, 71, 72, 73, 74, 75, 76, 77, 78, 87, 88, 89] (by decide +kernel) (by decide +kernel)) (goodIn_sub (fun _ h => List.mem_cons_of_mem _ (List.mem_append_right _ h)) (by decide +kernel))
set_option maxRecDepth 20000 in
theorem gX6_book_X6_boxNumbered : GoodIn wsX6_book (wsV RX6 116 RX6 yX6_boxNumbered wsX6_boxNumbered) := goodIn_app (goodIn_of _ (by decide +kernel)) ggX6_book_X6_boxNumbered
set_option maxRecDepth 20000 in
theorem ggX6_book_X6_slotsLeft : GoodIn wsX6_book wsX6_slotsLeft := goodIn_r _ [47, 19, 20, 21, 22, 23, 24, 25, 26, 27, 28, 29, 30, 31, 32, 33, 34, 35, 36, 37, 38, 39, 40, 41, 42, 43, 48, 49, 50, 51, 52, 53, 54, 71, 72, 73, 74, 75, 76, 77, 78, 87, 88, 89, 79, 80, 81, 82, 83, 84, 85, 86] (by decide +kernel) (by decide +kernel)
set_option maxRecDepth 20000 in
theorem gX6_book_X6_slotsLeft : GoodIn wsX6_book (wsV RX6 308 RX6 yX6_slotsLeft wsX6_slotsLeft) := goodIn_app (goodIn_of _ (by decide +kernel)) ggX6_book_X6_slotsLeft
set_option maxRecDepth 20000 in
theorem ggX6_book_X0_isBooked : GoodIn wsX6_book wsX0_isBooked := goodIn_r _ [58, 54, 79, 80, 81, 82, 83, 84, 85, 86] (by decide +kernel) (by decide +kernel)
set_option maxRecDepth 20000 in
theorem gX6_book_X0_isBooked : GoodIn wsX6_book (wsV RX6 311 RX0 yX0_isBooked wsX0_isBooked) := goodIn_app (goodIn_of _ (by decide +kernel)) ggX6_book_X0_isBooked
set_option maxRecDepth 20000 in
theorem ggX6_book_X6_canComeOut : GoodIn wsX6_book wsX6_canComeOut := goodIn_r _ [62, 19, 20, 63, 64, 8, 21, 22, 23, 24, 25, 26, 27, 28, 29, 30, 31, 32, 33, 34, 35, 36, 37, 38, 39, 40, 41, 42, 43, 65, 66, 67, 51, 68, 69, 70, 55, 56, 57, 58, 54, 71, 72, 73, 74, 75, 76, 77, 78, 79, 80, 81, 82, 83, 84, 85, 86, 87, 88, 89] (by decide +kernel) (by decide +kernel)
set_option maxRecDepth 20000 in
theorem gX6_book_X6_canComeOut : GoodIn wsX6_book (wsV RX6 314 RX6 yX6_canComeOut wsX6_canComeOut) := goodIn_app (goodIn_of _ (by decide +kernel)) ggX6_book_X6_canComeOut
set_option maxRecDepth 20000 in
theorem ggX6_unbook_X6_boxNumbered : GoodIn wsX6_unbook wsX6_boxNumbered := goodIn_ca (goodIn_r _ [8, 9, 10, 11, 12, 13, 14, 15, 16, 17, 18, 7, 19, 20, 21, 22, 23, 24, 25, 26, 27, 28, 29, 30, 31, 32, 33, 34, 35, 36, 37, 38, 58, 59, 60, 61, 62, 63, 64, 65, 66, 67, 68] (by decide +kernel) (by decide +kernel)) (goodIn_sub (fun _ h => List.mem_cons_of_mem _ (List.mem_append_right _ h)) (by decide +kernel))
set_option maxRecDepth 20000 in
theorem gX6_unbook_X6_boxNumbered : GoodIn wsX6_unbook (wsV RX6 116 RX6 yX6_boxNumbered wsX6_boxNumbered) := goodIn_app (goodIn_of _ (by decide +kernel)) ggX6_unbook_X6_boxNumbered
set_option maxRecDepth 20000 in
theorem ggX6_unbook_X0_isBooked : GoodIn wsX6_unbook wsX0_isBooked := goodIn_r _ [43, 44, 50, 51, 52, 53, 54, 55, 56, 57] (by decide +kernel) (by decide +kernel)
set_option maxRecDepth 20000 in
theorem gX6_unbook_X0_isBooked : GoodIn wsX6_unbook (wsV RX6 311 RX0 yX0_isBooked wsX0_isBooked) := goodIn_app (goodIn_of _ (by decide +kernel)) ggX6_unbook_X0_isBooked
set_option maxRecDepth 20000 in
theorem ggX6_unbook_X0_dropBooking : GoodIn wsX6_unbook wsX0_dropBooking := goodIn_r _ [48, 49, 44, 50, 51, 52, 53, 54, 55, 56, 57] (by decide +kernel) (by decide +kernel)
set_option maxRecDepth 20000 in
theorem gX6_unbook_X0_dropBooking : GoodIn wsX6_unbook (wsV RX6 290 RX0 yX0_dropBooking wsX0_dropBooking) := goodIn_app (goodIn_of _ (by decide +kernel)) ggX6_unbook_X0_dropBooking
set_option maxRecDepth 20000 in
theorem ggX6_advance_Jx4a65c_size_8abf5 : GoodIn wsX6_advance wsJx4a65c_size_8abf5 := goodIn_r _ [13, 14, 59, 60, 61] (by decide +kernel) (by decide +kernel)
set_option maxRecDepth 20000 in
theorem gX6_advance_Jx4a65c_size_8abf5 : GoodIn wsX6_advance (wsV RX6 62 RJx4a65c yJx4a65c_size_8abf5 wsJx4a65c_size_8abf5) := goodIn_app (goodIn_of _ (by decide +kernel)) ggX6_advance_Jx4a65c_size_8abf5
set_option maxRecDepth 20000 in
theorem ggX6_advance_Jx4a65c_get_915e3 : GoodIn wsX6_advance wsJx4a65c_get_915e3 := goodIn_r _ [18, 14, 19, 20, 21, 22, 23, 24, 25, 26, 27, 28, 29, 12, 30, 31, 59, 60, 61] (by decide +kernel) (by decide +kernel)
set_option maxRecDepth 20000 in
theorem gX6_advance_Jx4a65c_get_915e3 : GoodIn wsX6_advance (wsV RX6 97 RJx4a65c yJx4a65c_get_915e3 wsJx4a65c_get_915e3) := goodIn_app (goodIn_of _ (by decide +kernel)) ggX6_advance_Jx4a65c_get_915e3
set_option maxRecDepth 20000 in
theorem ggX6_advance_X0_isBooked : GoodIn wsX6_advance wsX0_isBooked := goodIn_r _ [36, 37, 51, 52, 53, 54, 55, 56, 57, 58] (by decide +kernel) (by decide +kernel)
set_option maxRecDepth 20000 in
theorem gX6_advance_X0_isBooked : GoodIn wsX6_advance (wsV RX6 311 RX0 yX0_isBooked wsX0_isBooked) := goodIn_app (goodIn_of _ (by decide +kernel)) ggX6_advance_X0_isBooked
set_option maxRecDepth 20000 in
theorem ggX6_advance_X0_dropBooking : GoodIn wsX6_advance wsX0_dropBooking := goodIn_r _ [41, 42, 37, 51, 52, 53, 54, 55, 56, 57, 58] (by decide +kernel) (by decide +kernel)
set_option maxRecDepth 20000 in
theorem gX6_advance_X0_dropBooking : GoodIn wsX6_advance (wsV RX6 290 RX0 yX0_dropBooking wsX0_dropBooking) := goodIn_app (goodIn_of _ (by decide +kernel)) ggX6_advance_X0_dropBooking
set_option maxRecDepth 20000 in
theorem ggX6_slotsLeft_Jx4a65c_size_8abf5 : GoodIn wsX6_slotsLeft wsJx4a65c_size_8abf5 := goodIn_r _ [7, 8, 41, 42, 43] (by decide +kernel) (by decide +kernel)
set_option maxRecDepth 20000 in
theorem gX6_slotsLeft_Jx4a65c_size_8abf5 : GoodIn wsX6_slotsLeft (wsV RX6 62 RJx4a65c yJx4a65c_size_8abf5 wsJx4a65c_size_8abf5) := goodIn_app (goodIn_of _ (by decide +kernel)) ggX6_slotsLeft_Jx4a65c_size_8abf5
set_option maxRecDepth 20000 in
theorem ggX6_slotsLeft_Jx4a65c_get_915e3 : GoodIn wsX6_slotsLeft wsJx4a65c_get_915e3 := goodIn_r _ [12, 8, 13, 14, 15, 16, 17, 18, 19, 20, 21, 22, 23, 6, 24, 25, 41, 42, 43] (by decide +kernel) (by decide +kernel)
set_option maxRecDepth 20000 in
theorem gX6_slotsLeft_Jx4a65c_get_915e3 : GoodIn wsX6_slotsLeft (wsV RX6 97 RJx4a65c yJx4a65c_get_915e3 wsJx4a65c_get_915e3) := goodIn_app (goodIn_of _ (by decide +kernel)) ggX6_slotsLeft_Jx4a65c_get_915e3
set_option maxRecDepth 20000 in
theorem ggX6_slotsLeft_X0_isBookedAt : GoodIn wsX6_slotsLeft wsX0_isBookedAt := goodIn_r _ [30, 31, 32, 44, 45, 46, 47, 48, 49, 50, 51] (by decide +kernel) (by decide +kernel)
set_option maxRecDepth 20000 in
theorem gX6_slotsLeft_X0_isBookedAt : GoodIn wsX6_slotsLeft (wsV RX6 287 RX0 yX0_isBookedAt wsX0_isBookedAt) := goodIn_app (goodIn_of _ (by decide +kernel)) ggX6_slotsLeft_X0_isBookedAt
set_option maxRecDepth 20000 in
theorem ggX6_canComeOut_Jx4a65c_size_8abf5 : GoodIn wsX6_canComeOut wsJx4a65c_size_8abf5 := goodIn_r _ [10, 11, 57, 58, 59] (by decide +kernel) (by decide +kernel)
set_option maxRecDepth 20000 in
theorem gX6_canComeOut_Jx4a65c_size_8abf5 : GoodIn wsX6_canComeOut (wsV RX6 62 RJx4a65c yJx4a65c_size_8abf5 wsJx4a65c_size_8abf5) := goodIn_app (goodIn_of _ (by decide +kernel)) ggX6_canComeOut_Jx4a65c_size_8abf5
set_option maxRecDepth 20000 in
theorem ggX6_canComeOut_Jx4a65c_get_915e3 : GoodIn wsX6_canComeOut wsJx4a65c_get_915e3 := goodIn_r _ [15, 11, 16, 17, 18, 19, 20, 21, 22, 23, 24, 25, 26, 9, 27, 28, 57, 58, 59] (by decide +kernel) (by decide +kernel)
set_option maxRecDepth 20000 in
theorem gX6_canComeOut_Jx4a65c_get_915e3 : GoodIn wsX6_canComeOut (wsV RX6 97 RJx4a65c yJx4a65c_get_915e3 wsJx4a65c_get_915e3) := goodIn_app (goodIn_of _ (by decide +kernel)) ggX6_canComeOut_Jx4a65c_get_915e3
set_option maxRecDepth 20000 in
theorem ggX6_canComeOut_X0_isAt : GoodIn wsX6_canComeOut wsX0_isAt := goodIn_r _ [33, 34, 35, 49, 50, 51, 52, 53, 54, 55, 56] (by decide +kernel) (by decide +kernel)
set_option maxRecDepth 20000 in
theorem gX6_canComeOut_X0_isAt : GoodIn wsX6_canComeOut (wsV RX6 189 RX0 yX0_isAt wsX0_isAt) := goodIn_app (goodIn_of _ (by decide +kernel)) ggX6_canComeOut_X0_isAt
set_option maxRecDepth 20000 in
theorem ggX6_canComeOut_X0_isBooked : GoodIn wsX6_canComeOut wsX0_isBooked := goodIn_r _ [39, 40, 49, 50, 51, 52, 53, 54, 55, 56] (by decide +kernel) (by decide +kernel)
set_option maxRecDepth 20000 in
theorem gX6_canComeOut_X0_isBooked : GoodIn wsX6_canComeOut (wsV RX6 311 RX0 yX0_isBooked wsX0_isBooked) := goodIn_app (goodIn_of _ (by decide +kernel)) ggX6_canComeOut_X0_isBooked
set_option maxRecDepth 20000 in
theorem ggX6_boxes_Jx4a65c_size_8abf5 : GoodIn wsX6_boxes wsJx4a65c_size_8abf5 := goodIn_r _ [6, 7, 16, 17, 18] (by decide +kernel) (by decide +kernel)
set_option maxRecDepth 20000 in
theorem gX6_boxes_Jx4a65c_size_8abf5 : GoodIn wsX6_boxes (wsV RX6 62 RJx4a65c yJx4a65c_size_8abf5 wsJx4a65c_size_8abf5) := goodIn_app (goodIn_of _ (by decide +kernel)) ggX6_boxes_Jx4a65c_size_8abf5
set_option maxRecDepth 20000 in
theorem ggX6_whereIs_X6_boxNumbered : GoodIn wsX6_whereIs wsX6_boxNumbered := goodIn_ca (goodIn_r _ [8, 9, 10, 11, 12, 13, 14, 15, 16, 17, 18, 7, 19, 20, 21, 22, 23, 24, 25, 26, 27, 28, 29, 30, 31, 32, 33, 34, 35, 36, 37, 38, 47, 48, 49, 50, 51, 52, 53, 54, 55, 56, 57] (by decide +kernel) (by decide +kernel)) (goodIn_sub (fun _ h => List.mem_cons_of_mem _ (List.mem_append_right _ h)) (by decide +kernel))
set_option maxRecDepth 20000 in
theorem gX6_whereIs_X6_boxNumbered : GoodIn wsX6_whereIs (wsV RX6 116 RX6 yX6_boxNumbered wsX6_boxNumbered) := goodIn_app (goodIn_of _ (by decide +kernel)) ggX6_whereIs_X6_boxNumbered
set_option maxRecDepth 20000 in
theorem ggX6_whereByLog_X6_boxNumbered : GoodIn wsX6_whereByLog wsX6_boxNumbered := goodIn_ca (goodIn_r _ [8, 9, 10, 11, 12, 13, 14, 15, 16, 17, 18, 7, 19, 20, 21, 22, 23, 24, 25, 26, 27, 28, 29, 30, 31, 32, 33, 34, 35, 36, 37, 38, 62, 63, 64, 65, 66, 67, 68, 69, 70, 71, 72] (by decide +kernel) (by decide +kernel)) (goodIn_sub (fun _ h => List.mem_cons_of_mem _ (List.mem_append_right _ h)) (by decide +kernel))
set_option maxRecDepth 20000 in
theorem gX6_whereByLog_X6_boxNumbered : GoodIn wsX6_whereByLog (wsV RX6 116 RX6 yX6_boxNumbered wsX6_boxNumbered) := goodIn_app (goodIn_of _ (by decide +kernel)) ggX6_whereByLog_X6_boxNumbered
set_option maxRecDepth 20000 in
theorem ggX6_whereByLog_X6_lastLoggedMoveOf : GoodIn wsX6_whereByLog wsX6_lastLoggedMoveOf := goodIn_r _ [42, 43, 44, 45, 46, 11, 12, 13, 14, 15, 16, 22, 23, 24, 25, 26, 27, 28, 29, 30, 31, 32, 33, 34, 35, 36, 37, 38, 62, 63, 64, 65, 66, 67, 68, 69, 55, 56, 57, 58, 59, 60, 61, 70, 71, 72] (by decide +kernel) (by decide +kernel)
set_option maxRecDepth 20000 in
theorem gX6_whereByLog_X6_lastLoggedMoveOf : GoodIn wsX6_whereByLog (wsV RX6 332 RX6 yX6_lastLoggedMoveOf wsX6_lastLoggedMoveOf) := goodIn_app (goodIn_of _ (by decide +kernel)) ggX6_whereByLog_X6_lastLoggedMoveOf
set_option maxRecDepth 20000 in
theorem ggX6_liftedBy_X6_boxNumbered : GoodIn wsX6_liftedBy wsX6_boxNumbered := goodIn_ca (goodIn_r _ [6, 7, 8, 9, 10, 11, 12, 13, 14, 15, 16, 5, 17, 18, 19, 20, 21, 22, 23, 24, 25, 26, 27, 28, 29, 30, 31, 32, 33, 34, 35, 36, 45, 46, 47, 48, 49, 50, 51, 52, 53, 54, 55] (by decide +kernel) (by decide +kernel)) (goodIn_sub (fun _ h => List.mem_cons_of_mem _ (List.mem_append_right _ h)) (by decide +kernel))
set_option maxRecDepth 20000 in
theorem gX6_liftedBy_X6_boxNumbered : GoodIn wsX6_liftedBy (wsV RX6 116 RX6 yX6_boxNumbered wsX6_boxNumbered) := goodIn_app (goodIn_of _ (by decide +kernel)) ggX6_liftedBy_X6_boxNumbered
set_option maxRecDepth 20000 in
theorem ggX6_bookedFor_X6_boxNumbered : GoodIn wsX6_bookedFor wsX6_boxNumbered := goodIn_ca (goodIn_r _ [6, 7, 8, 9, 10, 11, 12, 13, 14, 15, 16, 5, 17, 18, 19, 20, 21, 22, 23, 24, 25, 26, 27, 28, 29, 30, 31, 32, 33, 34, 35, 36, 45, 46, 47, 48, 49, 50, 51, 52, 53, 54, 55] (by decide +kernel) (by decide +kernel)) (goodIn_sub (fun _ h => List.mem_cons_of_mem _ (List.mem_append_right _ h)) (by decide +kernel))
set_option maxRecDepth 20000 in
theorem gX6_bookedFor_X6_boxNumbered : GoodIn wsX6_bookedFor (wsV RX6 116 RX6 yX6_boxNumbered wsX6_boxNumbered) := goodIn_app (goodIn_of _ (by decide +kernel)) ggX6_bookedFor_X6_boxNumbered
set_option maxRecDepth 20000 in
theorem ggX6_placeOf_X6_craneNumbered : GoodIn wsX6_placeOf wsX6_craneNumbered := goodIn_ca (goodIn_r _ [6, 7, 8, 9, 10, 11, 12, 13, 14, 15, 16, 5, 17, 18, 19, 20, 21, 22, 23, 24, 25, 26, 27, 28, 29, 30, 31, 32, 33, 34, 35, 36, 45, 46, 47, 48, 49, 50, 51, 52, 53, 54, 55] (by decide +kernel) (by decide +kernel)) (goodIn_sub (fun _ h => List.mem_cons_of_mem _ (List.mem_append_right _ h)) (by decide +kernel))
set_option maxRecDepth 20000 in
theorem gX6_placeOf_X6_craneNumbered : GoodIn wsX6_placeOf (wsV RX6 221 RX6 yX6_craneNumbered wsX6_craneNumbered) := goodIn_app (goodIn_of _ (by decide +kernel)) ggX6_placeOf_X6_craneNumbered
set_option maxRecDepth 20000 in
theorem ggX6_height_X6_requireOneOf : GoodIn wsX6_height wsX6_requireOneOf := goodIn_ca (goodIn_r _ [4, 5, 6] (by decide +kernel) (by decide +kernel)) (goodIn_sub (fun _ h => List.mem_cons_of_mem _ (List.mem_append_right _ h)) (by decide +kernel))
set_option maxRecDepth 20000 in
theorem gX6_height_X6_requireOneOf : GoodIn wsX6_height (va_wsS RX6 52 yX6_requireOneOf wsX6_requireOneOf) := goodIn_app (goodIn_of _ (by decide +kernel)) ggX6_height_X6_requireOneOf
set_option maxRecDepth 20000 in
theorem ggX6_height_X6_countAt : GoodIn wsX6_height wsX6_countAt := goodIn_r _ [10, 11, 12, 13, 14, 15, 16, 17, 18, 19, 20, 21, 22, 23, 24, 25, 26, 27, 28, 29, 30, 31, 32, 33, 34, 35, 36, 37, 38, 39, 40, 41, 42, 43, 44, 45, 46, 47, 48, 49, 50, 51, 52, 53, 54, 55, 56, 57, 58, 59, 60, 61] (by decide +kernel) (by decide +kernel)
set_option maxRecDepth 20000 in
theorem gX6_height_X6_countAt : GoodIn wsX6_height (wsV RX6 260 RX6 yX6_countAt wsX6_countAt) := goodIn_app (goodIn_of _ (by decide +kernel)) ggX6_height_X6_countAt
set_option maxRecDepth 20000 in
theorem ggX6_queue_X6_workerNumbered : GoodIn wsX6_queue wsX6_workerNumbered := goodIn_ca (goodIn_r _ [6, 7, 8, 9, 5, 10, 11, 12, 13, 14, 15, 16, 17, 18, 19, 20, 21, 22, 23, 24, 25, 26, 27, 28, 29, 30, 31, 32, 33, 34, 35, 36, 37, 38, 39, 40, 41, 42, 43, 44, 45, 46, 63, 64, 65, 66, 67, 68, 69, 70, 71, 72, 73] (by decide +kernel) (by decide +kernel)) (goodIn_sub (fun _ h => List.mem_cons_of_mem _ (List.mem_append_right _ h)) (by decide +kernel))
set_option maxRecDepth 20000 in
theorem gX6_queue_X6_workerNumbered : GoodIn wsX6_queue (wsV RX6 136 RX6 yX6_workerNumbered wsX6_workerNumbered) := goodIn_app (goodIn_of _ (by decide +kernel)) ggX6_queue_X6_workerNumbered
set_option maxRecDepth 20000 in
theorem ggX6_queue_Jx4a65c_size_8abf5 : GoodIn wsX6_queue wsJx4a65c_size_8abf5 := goodIn_r _ [17, 18, 71, 72, 73] (by decide +kernel) (by decide +kernel)
set_option maxRecDepth 20000 in
theorem gX6_queue_Jx4a65c_size_8abf5 : GoodIn wsX6_queue (wsV RX6 62 RJx4a65c yJx4a65c_size_8abf5 wsJx4a65c_size_8abf5) := goodIn_app (goodIn_of _ (by decide +kernel)) ggX6_queue_Jx4a65c_size_8abf5
set_option maxRecDepth 20000 in
theorem ggX6_queued_X6_workerNumbered : GoodIn wsX6_queued wsX6_workerNumbered := goodIn_ca (goodIn_r _ [7, 8, 9, 10, 6, 11, 12, 13, 14, 15, 16, 17, 18, 19, 20, 21, 22, 23, 24, 25, 26, 27, 28, 29, 30, 31, 32, 33, 34, 35, 36, 37, 38, 39, 40, 41, 42, 43, 44, 45, 46, 47, 75, 76, 77, 78, 79, 80, 81, 82, 83, 84, 85] (by decide +kernel) (by decide +kernel)) (goodIn_sub (fun _ h => List.mem_cons_of_mem _ (List.mem_append_right _ h)) (by decide +kernel))
set_option maxRecDepth 20000 in
theorem gX6_queued_X6_workerNumbered : GoodIn wsX6_queued (wsV RX6 136 RX6 yX6_workerNumbered wsX6_workerNumbered) := goodIn_app (goodIn_of _ (by decide +kernel)) ggX6_queued_X6_workerNumbered
set_option maxRecDepth 20000 in
theorem ggX6_queued_X6_elementOf : GoodIn wsX6_queued wsX6_elementOf := goodIn_ca (goodIn_r _ [50, 51, 14, 15, 16, 17, 18, 19, 20, 21, 6, 22, 23, 24, 25, 26, 27, 28, 29, 30, 31, 32, 33, 34, 35, 36, 37, 38, 39, 40, 41, 83, 84, 85] (by decide +kernel) (by decide +kernel)) (goodIn_sub (fun _ h => List.mem_cons_of_mem _ (List.mem_append_right _ h)) (by decide +kernel))
set_option maxRecDepth 20000 in
theorem gX6_queued_X6_elementOf : GoodIn wsX6_queued (va_wsS RX6 336 yX6_elementOf wsX6_elementOf) := goodIn_app (goodIn_of _ (by decide +kernel)) ggX6_queued_X6_elementOf
set_option maxRecDepth 20000 in
theorem ggX6_seen_X6_truckNumbered : GoodIn wsX6_seen wsX6_truckNumbered := goodIn_ca (goodIn_r _ [7, 8, 9, 10, 11, 12, 13, 14, 15, 16, 17, 18, 19, 20, 21, 22, 23, 24, 25, 26, 27, 28, 29, 30, 31, 32, 33, 34, 50, 51, 52, 53, 54, 55, 56, 57, 58, 59, 60] (by decide +kernel) (by decide +kernel)) (goodIn_sub (fun _ h => List.mem_cons_of_mem _ (List.mem_append_right _ h)) (by decide +kernel))
set_option maxRecDepth 20000 in
theorem gX6_seen_X6_truckNumbered : GoodIn wsX6_seen (wsV RX6 169 RX6 yX6_truckNumbered wsX6_truckNumbered) := goodIn_app (goodIn_of _ (by decide +kernel)) ggX6_seen_X6_truckNumbered
set_option maxRecDepth 20000 in
theorem ggX6_handed_X6_elementOf : GoodIn wsX6_handed wsX6_elementOf := goodIn_ca (goodIn_r _ [6, 7, 8, 9, 10, 11, 12, 13, 14, 15, 5, 16, 17, 18, 19, 20, 21, 22, 23, 24, 25, 26, 27, 28, 29, 30, 31, 32, 33, 34, 35, 51, 52, 53] (by decide +kernel) (by decide +kernel)) (goodIn_sub (fun _ h => List.mem_cons_of_mem _ (List.mem_append_right _ h)) (by decide +kernel))
set_option maxRecDepth 20000 in
theorem gX6_handed_X6_elementOf : GoodIn wsX6_handed (va_wsS RX6 336 yX6_elementOf wsX6_elementOf) := goodIn_app (goodIn_of _ (by decide +kernel)) ggX6_handed_X6_elementOf
set_option maxRecDepth 20000 in
theorem ggX6_isDone_X6_elementOf : GoodIn wsX6_isDone wsX6_elementOf := goodIn_ca (goodIn_r _ [5, 6, 7, 8, 9, 10, 11, 12, 13, 14, 4, 15, 16, 17, 18, 19, 20, 21, 22, 23, 24, 25, 26, 27, 28, 29, 30, 31, 32, 33, 34, 49, 50, 51] (by decide +kernel) (by decide +kernel)) (goodIn_sub (fun _ h => List.mem_cons_of_mem _ (List.mem_append_right _ h)) (by decide +kernel))
set_option maxRecDepth 20000 in
theorem gX6_isDone_X6_elementOf : GoodIn wsX6_isDone (va_wsS RX6 336 yX6_elementOf wsX6_elementOf) := goodIn_app (goodIn_of _ (by decide +kernel)) ggX6_isDone_X6_elementOf
set_option maxRecDepth 20000 in
theorem ggX6_isDone_X2_isMoveMade : GoodIn wsX6_isDone wsX2_isMoveMade := goodIn_r _ [39, 40, 52, 53, 54, 55, 56, 57, 58] (by decide +kernel) (by decide +kernel)
set_option maxRecDepth 20000 in
theorem gX6_isDone_X2_isMoveMade : GoodIn wsX6_isDone (wsV RX6 300 RX2 yX2_isMoveMade wsX2_isMoveMade) := goodIn_app (goodIn_of _ (by decide +kernel)) ggX6_isDone_X2_isMoveMade
set_option maxRecDepth 20000 in
theorem ggX6_moves_Jx4a65c_size_8abf5 : GoodIn wsX6_moves wsJx4a65c_size_8abf5 := goodIn_r _ [6, 7, 16, 17, 18] (by decide +kernel) (by decide +kernel)
set_option maxRecDepth 20000 in
theorem gX6_moves_Jx4a65c_size_8abf5 : GoodIn wsX6_moves (wsV RX6 62 RJx4a65c yJx4a65c_size_8abf5 wsJx4a65c_size_8abf5) := goodIn_app (goodIn_of _ (by decide +kernel)) ggX6_moves_Jx4a65c_size_8abf5
set_option maxRecDepth 20000 in
theorem ggX6_moveAt_X6_elementOf : GoodIn wsX6_moveAt wsX6_elementOf := goodIn_ca (goodIn_r _ [6, 7, 8, 9, 10, 11, 12, 13, 14, 15, 5, 16, 17, 18, 19, 20, 21, 22, 23, 24, 25, 26, 27, 28, 29, 30, 31, 32, 33, 34, 35, 51, 52, 53] (by decide +kernel) (by decide +kernel)) (goodIn_sub (fun _ h => List.mem_cons_of_mem _ (List.mem_append_right _ h)) (by decide +kernel))
set_option maxRecDepth 20000 in
theorem gX6_moveAt_X6_elementOf : GoodIn wsX6_moveAt (va_wsS RX6 336 yX6_elementOf wsX6_elementOf) := goodIn_app (goodIn_of _ (by decide +kernel)) ggX6_moveAt_X6_elementOf
set_option maxRecDepth 20000 in
theorem ggX6_unheard_Jx4a65c_size_8abf5 : GoodIn wsX6_unheard wsJx4a65c_size_8abf5 := goodIn_r _ [7, 8, 17, 18, 19] (by decide +kernel) (by decide +kernel)
set_option maxRecDepth 20000 in
theorem gX6_unheard_Jx4a65c_size_8abf5 : GoodIn wsX6_unheard (wsV RX6 62 RJx4a65c yJx4a65c_size_8abf5 wsJx4a65c_size_8abf5) := goodIn_app (goodIn_of _ (by decide +kernel)) ggX6_unheard_Jx4a65c_size_8abf5
set_option maxRecDepth 20000 in
theorem ggX6_lastLoggedMoveOf_Jx4a65c_size_8abf5 : GoodIn wsX6_lastLoggedMoveOf wsJx4a65c_size_8abf5 := goodIn_r _ [9, 10, 43, 44, 45] (by decide +kernel) (by decide +kernel)
set_option maxRecDepth 20000 in
theorem gX6_lastLoggedMoveOf_Jx4a65c_size_8abf5 : GoodIn wsX6_lastLoggedMoveOf (wsV RX6 62 RJx4a65c yJx4a65c_size_8abf5 wsJx4a65c_size_8abf5) := goodIn_app (goodIn_of _ (by decide +kernel)) ggX6_lastLoggedMoveOf_Jx4a65c_size_8abf5
set_option maxRecDepth 20000 in
theorem ggX6_lastLoggedMoveOf_Jx4a65c_get_915e3 : GoodIn wsX6_lastLoggedMoveOf wsJx4a65c_get_915e3 := goodIn_r _ [14, 10, 15, 16, 17, 18, 19, 20, 21, 22, 23, 24, 25, 8, 26, 27, 43, 44, 45] (by decide +kernel) (by decide +kernel)
set_option maxRecDepth 20000 in
theorem gX6_lastLoggedMoveOf_Jx4a65c_get_915e3 : GoodIn wsX6_lastLoggedMoveOf (wsV RX6 97 RJx4a65c yJx4a65c_get_915e3 wsJx4a65c_get_915e3) := goodIn_app (goodIn_of _ (by decide +kernel)) ggX6_lastLoggedMoveOf_Jx4a65c_get_915e3
set_option maxRecDepth 20000 in
theorem ggX6_countAt_Jx4a65c_size_8abf5 : GoodIn wsX6_countAt wsJx4a65c_size_8abf5 := goodIn_r _ [7, 8, 41, 42, 43] (by decide +kernel) (by decide +kernel)
set_option maxRecDepth 20000 in
theorem gX6_countAt_Jx4a65c_size_8abf5 : GoodIn wsX6_countAt (wsV RX6 62 RJx4a65c yJx4a65c_size_8abf5 wsJx4a65c_size_8abf5) := goodIn_app (goodIn_of _ (by decide +kernel)) ggX6_countAt_Jx4a65c_size_8abf5
set_option maxRecDepth 20000 in
theorem ggX6_countAt_Jx4a65c_get_915e3 : GoodIn wsX6_countAt wsJx4a65c_get_915e3 := goodIn_r _ [12, 8, 13, 14, 15, 16, 17, 18, 19, 20, 21, 22, 23, 6, 24, 25, 41, 42, 43] (by decide +kernel) (by decide +kernel)
set_option maxRecDepth 20000 in
theorem gX6_countAt_Jx4a65c_get_915e3 : GoodIn wsX6_countAt (wsV RX6 97 RJx4a65c yJx4a65c_get_915e3 wsJx4a65c_get_915e3) := goodIn_app (goodIn_of _ (by decide +kernel)) ggX6_countAt_Jx4a65c_get_915e3
set_option maxRecDepth 20000 in
theorem ggX6_countAt_X0_isAt : GoodIn wsX6_countAt wsX0_isAt := goodIn_r _ [30, 31, 32, 44, 45, 46, 47, 48, 49, 50, 51] (by decide +kernel) (by decide +kernel)
set_option maxRecDepth 20000 in
theorem gX6_countAt_X0_isAt : GoodIn wsX6_countAt (wsV RX6 189 RX0 yX0_isAt wsX0_isAt) := goodIn_app (goodIn_of _ (by decide +kernel)) ggX6_countAt_X0_isAt
set_option maxRecDepth 20000 in
theorem ggX6_indexOf_Jx4a65c_size_8abf5 : GoodIn wsX6_indexOf wsJx4a65c_size_8abf5 := goodIn_r _ [5, 6, 24, 25, 26] (by decide +kernel) (by decide +kernel)
set_option maxRecDepth 20000 in
theorem gX6_indexOf_Jx4a65c_size_8abf5 : GoodIn wsX6_indexOf (wsV RX6 62 RJx4a65c yJx4a65c_size_8abf5 wsJx4a65c_size_8abf5) := goodIn_app (goodIn_of _ (by decide +kernel)) ggX6_indexOf_Jx4a65c_size_8abf5
set_option maxRecDepth 20000 in
theorem ggX6_indexOf_Jx4a65c_get_915e3 : GoodIn wsX6_indexOf wsJx4a65c_get_915e3 := goodIn_r _ [10, 6, 11, 12, 13, 14, 15, 16, 17, 18, 19, 20, 21, 4, 22, 23, 24, 25, 26] (by decide +kernel) (by decide +kernel)
set_option maxRecDepth 20000 in
theorem gX6_indexOf_Jx4a65c_get_915e3 : GoodIn wsX6_indexOf (wsV RX6 97 RJx4a65c yJx4a65c_get_915e3 wsJx4a65c_get_915e3) := goodIn_app (goodIn_of _ (by decide +kernel)) ggX6_indexOf_Jx4a65c_get_915e3
set_option maxRecDepth 20000 in
theorem ggX6_elementOf_Jx4a65c_size_8abf5 : GoodIn wsX6_elementOf wsJx4a65c_size_8abf5 := goodIn_r _ [6, 7, 31, 32, 33] (by decide +kernel) (by decide +kernel)
set_option maxRecDepth 20000 in
theorem gX6_elementOf_Jx4a65c_size_8abf5 : GoodIn wsX6_elementOf (wsV RX6 62 RJx4a65c yJx4a65c_size_8abf5 wsJx4a65c_size_8abf5) := goodIn_app (goodIn_of _ (by decide +kernel)) ggX6_elementOf_Jx4a65c_size_8abf5
set_option maxRecDepth 20000 in
theorem ggX6_elementOf_X6_requireOneOf : GoodIn wsX6_elementOf wsX6_requireOneOf := goodIn_ca (goodIn_r _ [11, 12, 13] (by decide +kernel) (by decide +kernel)) (goodIn_sub (fun _ h => List.mem_cons_of_mem _ (List.mem_append_right _ h)) (by decide +kernel))
set_option maxRecDepth 20000 in
theorem gX6_elementOf_X6_requireOneOf : GoodIn wsX6_elementOf (va_wsS RX6 52 yX6_requireOneOf wsX6_requireOneOf) := goodIn_app (goodIn_of _ (by decide +kernel)) ggX6_elementOf_X6_requireOneOf
set_option maxRecDepth 20000 in
theorem ggX6_elementOf_Jx4a65c_get_915e3 : GoodIn wsX6_elementOf wsJx4a65c_get_915e3 := goodIn_r _ [17, 7, 18, 19, 20, 21, 22, 23, 24, 25, 26, 27, 28, 5, 29, 30, 31, 32, 33] (by decide +kernel) (by decide +kernel)
set_option maxRecDepth 20000 in
theorem gX6_elementOf_Jx4a65c_get_915e3 : GoodIn wsX6_elementOf (wsV RX6 97 RJx4a65c yJx4a65c_get_915e3 wsJx4a65c_get_915e3) := goodIn_app (goodIn_of _ (by decide +kernel)) ggX6_elementOf_Jx4a65c_get_915e3
set_option maxRecDepth 20000 in
theorem ggX6_shipNumbered_Jx4a65c_size_8abf5 : GoodIn wsX6_shipNumbered wsJx4a65c_size_8abf5 := goodIn_r _ [10, 11, 44, 45, 46] (by decide +kernel) (by decide +kernel)
set_option maxRecDepth 20000 in
theorem gX6_shipNumbered_Jx4a65c_size_8abf5 : GoodIn wsX6_shipNumbered (wsV RX6 62 RJx4a65c yJx4a65c_size_8abf5 wsJx4a65c_size_8abf5) := goodIn_app (goodIn_of _ (by decide +kernel)) ggX6_shipNumbered_Jx4a65c_size_8abf5
set_option maxRecDepth 20000 in
theorem ggX6_shipNumbered_X6_requireOneOf : GoodIn wsX6_shipNumbered wsX6_requireOneOf := goodIn_ca (goodIn_r _ [15, 1, 2] (by decide +kernel) (by decide +kernel)) (goodIn_sub (fun _ h => List.mem_cons_of_mem _ (List.mem_append_right _ h)) (by decide +kernel))
set_option maxRecDepth 20000 in
theorem gX6_shipNumbered_X6_requireOneOf : GoodIn wsX6_shipNumbered (va_wsS RX6 52 yX6_requireOneOf wsX6_requireOneOf) := goodIn_app (goodIn_of _ (by decide +kernel)) ggX6_shipNumbered_X6_requireOneOf
set_option maxRecDepth 20000 in
theorem ggX6_shipNumbered_Jx4a65c_get_915e3 : GoodIn wsX6_shipNumbered wsJx4a65c_get_915e3 := goodIn_r _ [19, 11, 20, 21, 22, 23, 24, 25, 26, 27, 28, 29, 30, 9, 31, 32, 44, 45, 46] (by decide +kernel) (by decide +kernel)
set_option maxRecDepth 20000 in
theorem gX6_shipNumbered_Jx4a65c_get_915e3 : GoodIn wsX6_shipNumbered (wsV RX6 97 RJx4a65c yJx4a65c_get_915e3 wsJx4a65c_get_915e3) := goodIn_app (goodIn_of _ (by decide +kernel)) ggX6_shipNumbered_Jx4a65c_get_915e3
set_option maxRecDepth 20000 in
theorem ggX6_boxNumbered_Jx4a65c_size_8abf5 : GoodIn wsX6_boxNumbered wsJx4a65c_size_8abf5 := goodIn_r _ [7, 8, 40, 41, 42] (by decide +kernel) (by decide +kernel)
set_option maxRecDepth 20000 in
theorem gX6_boxNumbered_Jx4a65c_size_8abf5 : GoodIn wsX6_boxNumbered (wsV RX6 62 RJx4a65c yJx4a65c_size_8abf5 wsJx4a65c_size_8abf5) := goodIn_app (goodIn_of _ (by decide +kernel)) ggX6_boxNumbered_Jx4a65c_size_8abf5
set_option maxRecDepth 20000 in
theorem ggX6_boxNumbered_X6_requireOneOf : GoodIn wsX6_boxNumbered wsX6_requireOneOf := goodIn_ca (goodIn_r _ [12, 13, 14] (by decide +kernel) (by decide +kernel)) (goodIn_sub (fun _ h => List.mem_cons_of_mem _ (List.mem_append_right _ h)) (by decide +kernel))
set_option maxRecDepth 20000 in
theorem gX6_boxNumbered_X6_requireOneOf : GoodIn wsX6_boxNumbered (va_wsS RX6 52 yX6_requireOneOf wsX6_requireOneOf) := goodIn_app (goodIn_of _ (by decide +kernel)) ggX6_boxNumbered_X6_requireOneOf
set_option maxRecDepth 20000 in
theorem ggX6_boxNumbered_Jx4a65c_get_915e3 : GoodIn wsX6_boxNumbered wsJx4a65c_get_915e3 := goodIn_r _ [18, 8, 19, 20, 21, 22, 23, 24, 25, 26, 27, 28, 29, 6, 30, 31, 40, 41, 42] (by decide +kernel) (by decide +kernel)
set_option maxRecDepth 20000 in
theorem gX6_boxNumbered_Jx4a65c_get_915e3 : GoodIn wsX6_boxNumbered (wsV RX6 97 RJx4a65c yJx4a65c_get_915e3 wsJx4a65c_get_915e3) := goodIn_app (goodIn_of _ (by decide +kernel)) ggX6_boxNumbered_Jx4a65c_get_915e3
set_option maxRecDepth 20000 in
theorem ggX6_craneNumbered_Jx4a65c_size_8abf5 : GoodIn wsX6_craneNumbered wsJx4a65c_size_8abf5 := goodIn_r _ [7, 8, 40, 41, 42] (by decide +kernel) (by decide +kernel)
set_option maxRecDepth 20000 in
theorem gX6_craneNumbered_Jx4a65c_size_8abf5 : GoodIn wsX6_craneNumbered (wsV RX6 62 RJx4a65c yJx4a65c_size_8abf5 wsJx4a65c_size_8abf5) := goodIn_app (goodIn_of _ (by decide +kernel)) ggX6_craneNumbered_Jx4a65c_size_8abf5
set_option maxRecDepth 20000 in
theorem ggX6_craneNumbered_X6_requireOneOf : GoodIn wsX6_craneNumbered wsX6_requireOneOf := goodIn_ca (goodIn_r _ [12, 13, 14] (by decide +kernel) (by decide +kernel)) (goodIn_sub (fun _ h => List.mem_cons_of_mem _ (List.mem_append_right _ h)) (by decide +kernel))
set_option maxRecDepth 20000 in
theorem gX6_craneNumbered_X6_requireOneOf : GoodIn wsX6_craneNumbered (va_wsS RX6 52 yX6_requireOneOf wsX6_requireOneOf) := goodIn_app (goodIn_of _ (by decide +kernel)) ggX6_craneNumbered_X6_requireOneOf
set_option maxRecDepth 20000 in
theorem ggX6_craneNumbered_Jx4a65c_get_915e3 : GoodIn wsX6_craneNumbered wsJx4a65c_get_915e3 := goodIn_r _ [18, 8, 19, 20, 21, 22, 23, 24, 25, 26, 27, 28, 29, 6, 30, 31, 40, 41, 42] (by decide +kernel) (by decide +kernel)
set_option maxRecDepth 20000 in
theorem gX6_craneNumbered_Jx4a65c_get_915e3 : GoodIn wsX6_craneNumbered (wsV RX6 97 RJx4a65c yJx4a65c_get_915e3 wsJx4a65c_get_915e3) := goodIn_app (goodIn_of _ (by decide +kernel)) ggX6_craneNumbered_Jx4a65c_get_915e3
set_option maxRecDepth 20000 in
theorem ggX6_truckNumbered_Jx4a65c_size_8abf5 : GoodIn wsX6_truckNumbered wsJx4a65c_size_8abf5 := goodIn_r _ [9, 10, 36, 37, 38] (by decide +kernel) (by decide +kernel)
set_option maxRecDepth 20000 in
theorem gX6_truckNumbered_Jx4a65c_size_8abf5 : GoodIn wsX6_truckNumbered (wsV RX6 62 RJx4a65c yJx4a65c_size_8abf5 wsJx4a65c_size_8abf5) := goodIn_app (goodIn_of _ (by decide +kernel)) ggX6_truckNumbered_Jx4a65c_size_8abf5
set_option maxRecDepth 20000 in
theorem ggX6_truckNumbered_Jx4a65c_get_915e3 : GoodIn wsX6_truckNumbered wsJx4a65c_get_915e3 := goodIn_r _ [14, 10, 15, 16, 17, 18, 19, 20, 21, 22, 23, 24, 25, 8, 26, 27, 36, 37, 38] (by decide +kernel) (by decide +kernel)
set_option maxRecDepth 20000 in
theorem gX6_truckNumbered_Jx4a65c_get_915e3 : GoodIn wsX6_truckNumbered (wsV RX6 97 RJx4a65c yJx4a65c_get_915e3 wsJx4a65c_get_915e3) := goodIn_app (goodIn_of _ (by decide +kernel)) ggX6_truckNumbered_Jx4a65c_get_915e3
set_option maxRecDepth 20000 in
theorem ggX6_workerNumbered_X6_craneNumbered : GoodIn wsX6_workerNumbered wsX6_craneNumbered := goodIn_ca (goodIn_r _ [5, 6, 7, 8, 9, 10, 11, 12, 13, 14, 15, 4, 16, 17, 18, 19, 20, 21, 22, 23, 24, 25, 26, 27, 28, 29, 30, 31, 32, 33, 34, 35, 42, 43, 44, 45, 46, 47, 48, 49, 50, 51, 52] (by decide +kernel) (by decide +kernel)) (goodIn_sub (fun _ h => List.mem_cons_of_mem _ (List.mem_append_right _ h)) (by decide +kernel))
set_option maxRecDepth 20000 in
theorem gX6_workerNumbered_X6_craneNumbered : GoodIn wsX6_workerNumbered (wsV RX6 221 RX6 yX6_craneNumbered wsX6_craneNumbered) := goodIn_app (goodIn_of _ (by decide +kernel)) ggX6_workerNumbered_X6_craneNumbered
set_option maxRecDepth 20000 in
theorem ggX6_workerNumbered_X6_truckNumbered : GoodIn wsX6_workerNumbered wsX6_truckNumbered := goodIn_ca (goodIn_r _ [39, 17, 18, 40, 41, 8, 9, 10, 11, 12, 13, 19, 20, 21, 22, 23, 24, 25, 26, 27, 28, 29, 30, 31, 32, 33, 34, 35, 42, 43, 44, 45, 46, 47, 48, 49, 50, 51, 52] (by decide +kernel) (by decide +kernel)) (goodIn_sub (fun _ h => List.mem_cons_of_mem _ (List.mem_append_right _ h)) (by decide +kernel))
set_option maxRecDepth 20000 in
theorem gX6_workerNumbered_X6_truckNumbered : GoodIn wsX6_workerNumbered (wsV RX6 169 RX6 yX6_truckNumbered wsX6_truckNumbered) := goodIn_app (goodIn_of _ (by decide +kernel)) ggX6_workerNumbered_X6_truckNumbered
set_option maxRecDepth 20000 in
theorem ggX7_isPlace_X7_in : GoodIn wsX7_isPlace wsX7_in := goodIn_r _ [4] (by decide +kernel) (by decide +kernel)
set_option maxRecDepth 20000 in
theorem gX7_isPlace_X7_in : GoodIn wsX7_isPlace (va_wsS RX7 99 yX7_in wsX7_in) := goodIn_app (goodIn_of _ (by decide +kernel)) ggX7_isPlace_X7_in
set_option maxRecDepth 20000 in
theorem ggX7_isCrane_X7_in : GoodIn wsX7_isCrane wsX7_in := goodIn_r _ [4] (by decide +kernel) (by decide +kernel)
set_option maxRecDepth 20000 in
theorem gX7_isCrane_X7_in : GoodIn wsX7_isCrane (va_wsS RX7 99 yX7_in wsX7_in) := goodIn_app (goodIn_of _ (by decide +kernel)) ggX7_isCrane_X7_in
set_option maxRecDepth 20000 in
theorem ggX7_isWorker_X7_in : GoodIn wsX7_isWorker wsX7_in := goodIn_r _ [4] (by decide +kernel) (by decide +kernel)
set_option maxRecDepth 20000 in
theorem gX7_isWorker_X7_in : GoodIn wsX7_isWorker (va_wsS RX7 99 yX7_in wsX7_in) := goodIn_app (goodIn_of _ (by decide +kernel)) ggX7_isWorker_X7_in
set_option maxRecDepth 20000 in
theorem ggX7_isShip_X7_in : GoodIn wsX7_isShip wsX7_in := goodIn_r _ [6] (by decide +kernel) (by decide +kernel)
set_option maxRecDepth 20000 in
theorem gX7_isShip_X7_in : GoodIn wsX7_isShip (va_wsS RX7 99 yX7_in wsX7_in) := goodIn_app (goodIn_of _ (by decide +kernel)) ggX7_isShip_X7_in
set_option maxRecDepth 20000 in
theorem ggX7_isBox_X7_in : GoodIn wsX7_isBox wsX7_in := goodIn_r _ [5] (by decide +kernel) (by decide +kernel)
set_option maxRecDepth 20000 in
theorem gX7_isBox_X7_in : GoodIn wsX7_isBox (va_wsS RX7 99 yX7_in wsX7_in) := goodIn_app (goodIn_of _ (by decide +kernel)) ggX7_isBox_X7_in
set_option maxRecDepth 20000 in
theorem ggX7_berth_X7_isPlace : GoodIn wsX7_berth wsX7_isPlace := goodIn_r _ [8, 9, 10, 7, 11] (by decide +kernel) (by decide +kernel)
set_option maxRecDepth 20000 in
theorem gX7_berth_X7_isPlace : GoodIn wsX7_berth (va_wsS RX7 109 yX7_isPlace wsX7_isPlace) := goodIn_app (goodIn_of _ (by decide +kernel)) ggX7_berth_X7_isPlace
set_option maxRecDepth 20000 in
theorem ggX7_berth_X7_in : GoodIn wsX7_berth wsX7_in := goodIn_r _ [11] (by decide +kernel) (by decide +kernel)
set_option maxRecDepth 20000 in
theorem gX7_berth_X7_in : GoodIn wsX7_berth (va_wsS RX7 99 yX7_in wsX7_in) := goodIn_app (goodIn_of _ (by decide +kernel)) ggX7_berth_X7_in
set_option maxRecDepth 20000 in
theorem ggX7_berth_X7_isFree : GoodIn wsX7_berth wsX7_isFree := goodIn_r _ [15, 1, 16, 3, 4, 17, 18, 19, 20, 21, 22, 23, 24, 25, 26, 27, 28, 29, 30, 31, 32, 33, 34, 35, 36, 37, 38, 39, 40, 41, 42, 43, 44, 45, 46, 47, 48, 49, 50, 51] (by decide +kernel) (by decide +kernel)
set_option maxRecDepth 20000 in
theorem gX7_berth_X7_isFree : GoodIn wsX7_berth (wsV RX7 113 RX7 yX7_isFree wsX7_isFree) := goodIn_app (goodIn_of _ (by decide +kernel)) ggX7_berth_X7_isFree
set_option maxRecDepth 20000 in
theorem ggX7_box_X7_isShip : GoodIn wsX7_box wsX7_isShip := goodIn_r _ [14, 15, 16, 17, 18, 13, 19, 20, 21, 22, 23, 24, 25, 26, 27, 28, 29, 30, 31, 32, 33, 34, 35, 36, 37, 38, 39, 40, 41, 42, 43, 44, 45, 46, 47, 48, 49, 50, 51, 52, 53, 54] (by decide +kernel) (by decide +kernel)
set_option maxRecDepth 20000 in
theorem gX7_box_X7_isShip : GoodIn wsX7_box (wsV RX7 117 RX7 yX7_isShip wsX7_isShip) := goodIn_app (goodIn_of _ (by decide +kernel)) ggX7_box_X7_isShip
set_option maxRecDepth 20000 in
theorem ggX7_box_X7_in : GoodIn wsX7_box wsX7_in := goodIn_r _ [19] (by decide +kernel) (by decide +kernel)
set_option maxRecDepth 20000 in
theorem gX7_box_X7_in : GoodIn wsX7_box (va_wsS RX7 99 yX7_in wsX7_in) := goodIn_app (goodIn_of _ (by decide +kernel)) ggX7_box_X7_in
set_option maxRecDepth 20000 in
theorem ggX7_leave_X7_isShip : GoodIn wsX7_leave wsX7_isShip := goodIn_r _ [10, 11, 5, 12, 13, 9, 14, 15, 16, 17, 18, 19, 20, 21, 22, 23, 24, 25, 26, 27, 28, 29, 30, 31, 32, 33, 34, 35, 36, 37, 38, 39, 40, 41, 42, 43, 44, 45, 46, 47, 48, 49] (by decide +kernel) (by decide +kernel)
set_option maxRecDepth 20000 in
theorem gX7_leave_X7_isShip : GoodIn wsX7_leave (wsV RX7 117 RX7 yX7_isShip wsX7_isShip) := goodIn_app (goodIn_of _ (by decide +kernel)) ggX7_leave_X7_isShip
set_option maxRecDepth 20000 in
theorem ggX7_freest_X7_firstFor : GoodIn wsX7_freest wsX7_firstFor := goodIn_r _ [6] (by decide +kernel) (by decide +kernel)
set_option maxRecDepth 20000 in
theorem gX7_freest_X7_firstFor : GoodIn wsX7_freest (va_wsS RX7 120 yX7_firstFor wsX7_firstFor) := goodIn_app (goodIn_of _ (by decide +kernel)) ggX7_freest_X7_firstFor
set_option maxRecDepth 20000 in
theorem ggX7_isTarget_X7_in : GoodIn wsX7_isTarget wsX7_in := goodIn_r _ [4] (by decide +kernel) (by decide +kernel)
set_option maxRecDepth 20000 in
theorem gX7_isTarget_X7_in : GoodIn wsX7_isTarget (va_wsS RX7 99 yX7_in wsX7_in) := goodIn_app (goodIn_of _ (by decide +kernel)) ggX7_isTarget_X7_in
set_option maxRecDepth 20000 in
theorem ggX7_send_X7_in : GoodIn wsX7_send wsX7_in := goodIn_r _ [9] (by decide +kernel) (by decide +kernel)
set_option maxRecDepth 20000 in
theorem gX7_send_X7_in : GoodIn wsX7_send (va_wsS RX7 99 yX7_in wsX7_in) := goodIn_app (goodIn_of _ (by decide +kernel)) ggX7_send_X7_in
set_option maxRecDepth 20000 in
theorem ggX7_send_X7_firstFor : GoodIn wsX7_send wsX7_firstFor := goodIn_r _ [12] (by decide +kernel) (by decide +kernel)
set_option maxRecDepth 20000 in
theorem gX7_send_X7_firstFor : GoodIn wsX7_send (va_wsS RX7 120 yX7_firstFor wsX7_firstFor) := goodIn_app (goodIn_of _ (by decide +kernel)) ggX7_send_X7_firstFor
set_option maxRecDepth 20000 in
theorem ggX7_send_X7_isBox : GoodIn wsX7_send wsX7_isBox := goodIn_r _ [16, 17, 6, 7, 8, 9, 32, 33, 34, 35, 36, 37, 38, 39, 40, 41, 42, 43, 44, 45, 46, 47, 48, 49, 50, 51, 52, 53, 54, 55, 56, 57, 58, 59, 60, 61, 62, 63, 64, 65, 66] (by decide +kernel) (by decide +kernel)
set_option maxRecDepth 20000 in
theorem gX7_send_X7_isBox : GoodIn wsX7_send (wsV RX7 124 RX7 yX7_isBox wsX7_isBox) := goodIn_app (goodIn_of _ (by decide +kernel)) ggX7_send_X7_isBox
set_option maxRecDepth 20000 in
theorem ggX7_send_X7_isTarget : GoodIn wsX7_send wsX7_isTarget := goodIn_r _ [20, 6, 7, 8, 9] (by decide +kernel) (by decide +kernel)
set_option maxRecDepth 20000 in
theorem gX7_send_X7_isTarget : GoodIn wsX7_send (va_wsS RX7 127 yX7_isTarget wsX7_isTarget) := goodIn_app (goodIn_of _ (by decide +kernel)) ggX7_send_X7_isTarget
set_option maxRecDepth 20000 in
theorem ggX7_send_X7_freest : GoodIn wsX7_send wsX7_freest := goodIn_r _ [24, 25, 26, 10, 11, 8, 12, 32, 33, 34, 35, 36, 37, 38, 39, 40, 41, 42, 43, 44, 45, 46, 47, 48, 49, 50, 51, 52, 53, 54, 55, 56, 57, 58, 59, 60, 61, 62, 63, 64, 65, 66] (by decide +kernel) (by decide +kernel)
set_option maxRecDepth 20000 in
theorem gX7_send_X7_freest : GoodIn wsX7_send (wsV RX7 133 RX7 yX7_freest wsX7_freest) := goodIn_app (goodIn_of _ (by decide +kernel)) ggX7_send_X7_freest
set_option maxRecDepth 20000 in
theorem ggX7_send_X7_joins : GoodIn wsX7_send wsX7_joins := goodIn_r _ [30, 31, 26, 32, 33, 34, 35, 36, 37, 38, 39, 40, 41, 42, 43, 44, 45, 46, 47, 48, 49, 50, 51, 52, 53, 54, 55, 56, 57, 58, 59, 60, 61, 62, 63, 64, 65, 66] (by decide +kernel) (by decide +kernel)
set_option maxRecDepth 20000 in
theorem gX7_send_X7_joins : GoodIn wsX7_send (wsV RX7 136 RX7 yX7_joins wsX7_joins) := goodIn_app (goodIn_of _ (by decide +kernel)) ggX7_send_X7_joins
set_option maxRecDepth 20000 in
theorem ggX7_acknowledges_X7_quits : GoodIn wsX7_acknowledges wsX7_quits := goodIn_r _ [11, 12, 13, 14, 15, 16, 17, 18, 19, 20, 21, 22, 23, 24, 25, 26, 27, 28, 29, 30, 31, 32, 33, 34, 35, 36, 37, 38, 39, 40, 41, 42, 43, 44, 45, 46, 47, 48] (by decide +kernel) (by decide +kernel)
set_option maxRecDepth 20000 in
theorem gX7_acknowledges_X7_quits : GoodIn wsX7_acknowledges (wsV RX7 140 RX7 yX7_quits wsX7_quits) := goodIn_app (goodIn_of _ (by decide +kernel)) ggX7_acknowledges_X7_quits
set_option maxRecDepth 20000 in
theorem ggX7_lifts_X7_acknowledges : GoodIn wsX7_lifts wsX7_acknowledges := goodIn_r _ [11, 12, 13, 14, 15, 16, 17, 18, 19, 20, 10, 21, 22, 23, 38, 39, 40, 41, 42, 43, 44, 45, 46, 47, 48, 49, 50, 51, 52, 53, 54, 55, 56, 57, 58, 59, 60, 61, 62, 63, 64, 65, 66, 67, 68, 69, 70, 71, 72] (by decide +kernel) (by decide +kernel)
set_option maxRecDepth 20000 in
theorem gX7_lifts_X7_acknowledges : GoodIn wsX7_lifts (wsV RX7 149 RX7 yX7_acknowledges wsX7_acknowledges) := goodIn_app (goodIn_of _ (by decide +kernel)) ggX7_lifts_X7_acknowledges
set_option maxRecDepth 20000 in
theorem ggX7_lifts_X7_canGo : GoodIn wsX7_lifts wsX7_canGo := goodIn_r _ [27, 4, 38, 39, 40, 41, 42, 43, 44, 45, 46, 47, 48, 49, 50, 51, 52, 53, 54, 55, 56, 57, 58, 59, 60, 61, 62, 63, 64, 65, 66, 67, 68, 69, 70, 71, 72] (by decide +kernel) (by decide +kernel)
set_option maxRecDepth 20000 in
theorem gX7_lifts_X7_canGo : GoodIn wsX7_lifts (wsV RX7 153 RX7 yX7_canGo wsX7_canGo) := goodIn_app (goodIn_of _ (by decide +kernel)) ggX7_lifts_X7_canGo
set_option maxRecDepth 20000 in
theorem ggX7_lifts_X7_isTaken : GoodIn wsX7_lifts wsX7_isTaken := goodIn_r _ [31, 32, 2, 3, 38, 39, 40, 41, 42, 43, 44, 45, 46, 47, 48, 49, 50, 51, 52, 53, 54, 55, 56, 57, 58, 59, 60, 61, 62, 63, 64, 65, 66, 67, 68, 69, 70, 71, 72] (by decide +kernel) (by decide +kernel)
set_option maxRecDepth 20000 in
theorem gX7_lifts_X7_isTaken : GoodIn wsX7_lifts (wsV RX7 156 RX7 yX7_isTaken wsX7_isTaken) := goodIn_app (goodIn_of _ (by decide +kernel)) ggX7_lifts_X7_isTaken
set_option maxRecDepth 20000 in
theorem ggX7_lifts_X7_makes : GoodIn wsX7_lifts wsX7_makes := goodIn_r _ [36, 37, 14, 38, 39, 40, 41, 42, 43, 44, 45, 46, 47, 48, 49, 50, 51, 52, 53, 54, 55, 56, 57, 58, 59, 60, 61, 62, 63, 64, 65, 66, 67, 68, 69, 70, 71, 72] (by decide +kernel) (by decide +kernel)
set_option maxRecDepth 20000 in
theorem gX7_lifts_X7_makes : GoodIn wsX7_lifts (wsV RX7 159 RX7 yX7_makes wsX7_makes) := goodIn_app (goodIn_of _ (by decide +kernel)) ggX7_lifts_X7_makes
set_option maxRecDepth 20000 in
theorem ggX7_deliver_X7_isWorker : GoodIn wsX7_deliver wsX7_isWorker := goodIn_r _ [12, 13, 14, 11, 15] (by decide +kernel) (by decide +kernel)
set_option maxRecDepth 20000 in
theorem gX7_deliver_X7_isWorker : GoodIn wsX7_deliver (va_wsS RX7 163 yX7_isWorker wsX7_isWorker) := goodIn_app (goodIn_of _ (by decide +kernel)) ggX7_deliver_X7_isWorker
set_option maxRecDepth 20000 in
theorem ggX7_deliver_X7_quits : GoodIn wsX7_deliver wsX7_quits := goodIn_r _ [19, 2, 3, 60, 61, 62, 63, 64, 65, 66, 67, 68, 69, 70, 71, 72, 73, 74, 75, 76, 77, 78, 79, 80, 81, 82, 83, 84, 85, 86, 87, 88, 89, 90, 91, 92, 93, 94] (by decide +kernel) (by decide +kernel)
set_option maxRecDepth 20000 in
theorem gX7_deliver_X7_quits : GoodIn wsX7_deliver (wsV RX7 140 RX7 yX7_quits wsX7_quits) := goodIn_app (goodIn_of _ (by decide +kernel)) ggX7_deliver_X7_quits
set_option maxRecDepth 20000 in
theorem ggX7_deliver_X7_joins : GoodIn wsX7_deliver wsX7_joins := goodIn_r _ [23, 3, 2, 60, 61, 62, 63, 64, 65, 66, 67, 68, 69, 70, 71, 72, 73, 74, 75, 76, 77, 78, 79, 80, 81, 82, 83, 84, 85, 86, 87, 88, 89, 90, 91, 92, 93, 94] (by decide +kernel) (by decide +kernel)
set_option maxRecDepth 20000 in
theorem gX7_deliver_X7_joins : GoodIn wsX7_deliver (wsV RX7 136 RX7 yX7_joins wsX7_joins) := goodIn_app (goodIn_of _ (by decide +kernel)) ggX7_deliver_X7_joins
set_option maxRecDepth 20000 in
theorem ggX7_deliver_X7_acknowledges : GoodIn wsX7_deliver wsX7_acknowledges := goodIn_r _ [27, 28, 29, 30, 31, 32, 33, 16, 17, 18, 11, 19, 2, 3, 60, 61, 62, 63, 64, 65, 66, 67, 68, 69, 70, 71, 72, 73, 74, 75, 76, 77, 78, 79, 80, 81, 82, 83, 84, 85, 86, 87, 88, 89, 90, 91, 92, 93, 94] (by decide +kernel) (by decide +kernel)
set_option maxRecDepth 20000 in
theorem gX7_deliver_X7_acknowledges : GoodIn wsX7_deliver (wsV RX7 149 RX7 yX7_acknowledges wsX7_acknowledges) := goodIn_app (goodIn_of _ (by decide +kernel)) ggX7_deliver_X7_acknowledges
set_option maxRecDepth 20000 in
theorem ggX7_deliver_X7_isCrane : GoodIn wsX7_deliver wsX7_isCrane := goodIn_r _ [36, 13, 14, 11, 15] (by decide +kernel) (by decide +kernel)
set_option maxRecDepth 20000 in
theorem gX7_deliver_X7_isCrane : GoodIn wsX7_deliver (va_wsS RX7 166 yX7_isCrane wsX7_isCrane) := goodIn_app (goodIn_of _ (by decide +kernel)) ggX7_deliver_X7_isCrane
set_option maxRecDepth 20000 in
theorem ggX7_deliver_X7_lifts : GoodIn wsX7_deliver wsX7_lifts := goodIn_r _ [40, 41, 42, 43, 44, 45, 7, 24, 25, 26, 11, 27, 28, 29, 30, 31, 32, 33, 16, 17, 18, 19, 2, 3, 46, 47, 48, 49, 50, 51, 52, 53, 54, 55, 56, 57, 58, 59, 60, 61, 62, 63, 64, 65, 66, 67, 68, 69, 70, 71, 72, 73, 74, 75, 76, 77, 78, 79, 80, 81, 82, 83, 84, 85, 86, 87, 88, 89, 90, 91, 92, 93, 94] (by decide +kernel) (by decide +kernel)
set_option maxRecDepth 20000 in
theorem gX7_deliver_X7_lifts : GoodIn wsX7_deliver (wsV RX7 169 RX7 yX7_lifts wsX7_lifts) := goodIn_app (goodIn_of _ (by decide +kernel)) ggX7_deliver_X7_lifts
set_option maxRecDepth 20000 in
theorem ggX7_finishes_X7_acknowledges : GoodIn wsX7_finishes wsX7_acknowledges := goodIn_r _ [7, 8, 9, 10, 11, 12, 13, 14, 15, 16, 6, 17, 18, 19, 20, 21, 22, 23, 24, 25, 26, 27, 28, 29, 30, 31, 32, 33, 34, 35, 36, 37, 38, 39, 40, 41, 42, 43, 44, 45, 46, 47, 48, 49, 50, 51, 52, 53, 54] (by decide +kernel) (by decide +kernel)
set_option maxRecDepth 20000 in
theorem gX7_finishes_X7_acknowledges : GoodIn wsX7_finishes (wsV RX7 149 RX7 yX7_acknowledges wsX7_acknowledges) := goodIn_app (goodIn_of _ (by decide +kernel)) ggX7_finishes_X7_acknowledges
set_option maxRecDepth 20000 in
theorem ggX7_puts_X7_makes : GoodIn wsX7_puts wsX7_makes := goodIn_r _ [15, 16, 17, 18, 19, 20, 21, 22, 23, 24, 25, 26, 27, 28, 29, 30, 31, 32, 33, 34, 35, 36, 37, 38, 39, 40, 41, 42, 43, 44, 45, 46, 47, 48, 49, 50, 51, 52] (by decide +kernel) (by decide +kernel)
set_option maxRecDepth 20000 in
theorem gX7_puts_X7_makes : GoodIn wsX7_puts (wsV RX7 159 RX7 yX7_makes wsX7_makes) := goodIn_app (goodIn_of _ (by decide +kernel)) ggX7_puts_X7_makes
set_option maxRecDepth 20000 in
theorem ggX7_act_X7_in : GoodIn wsX7_act wsX7_in := goodIn_r _ [12] (by decide +kernel) (by decide +kernel)
set_option maxRecDepth 20000 in
theorem gX7_act_X7_in : GoodIn wsX7_act (va_wsS RX7 99 yX7_in wsX7_in) := goodIn_app (goodIn_of _ (by decide +kernel)) ggX7_act_X7_in
set_option maxRecDepth 20000 in
theorem ggX7_act_X7_finishes : GoodIn wsX7_act wsX7_finishes := goodIn_r _ [16, 17, 2, 18, 19, 20, 11, 21, 22, 23, 24, 25, 26, 27, 28, 29, 30, 31, 32, 33, 56, 57, 58, 59, 60, 61, 62, 63, 64, 65, 66, 67, 68, 69, 70, 71, 72, 73, 74, 75, 76, 77, 78, 79, 80, 81, 82, 83, 84, 85, 86, 87, 88, 89, 90] (by decide +kernel) (by decide +kernel)
set_option maxRecDepth 20000 in
theorem gX7_act_X7_finishes : GoodIn wsX7_act (wsV RX7 175 RX7 yX7_finishes wsX7_finishes) := goodIn_app (goodIn_of _ (by decide +kernel)) ggX7_act_X7_finishes
set_option maxRecDepth 20000 in
theorem ggX7_act_X7_puts : GoodIn wsX7_act wsX7_puts := goodIn_r _ [37, 3, 5, 8, 7, 4, 6, 38, 39, 40, 41, 42, 43, 44, 11, 45, 46, 24, 56, 57, 58, 59, 60, 61, 62, 63, 64, 65, 66, 67, 68, 69, 70, 71, 72, 73, 74, 75, 76, 77, 78, 79, 80, 81, 82, 83, 84, 85, 86, 87, 88, 89, 90] (by decide +kernel) (by decide +kernel)
set_option maxRecDepth 20000 in
theorem gX7_act_X7_puts : GoodIn wsX7_act (wsV RX7 178 RX7 yX7_puts wsX7_puts) := goodIn_app (goodIn_of _ (by decide +kernel)) ggX7_act_X7_puts
set_option maxRecDepth 20000 in
theorem ggX7_act_X7_isEmpty : GoodIn wsX7_act wsX7_isEmpty := goodIn_r _ [50, 51, 4, 6, 56, 57, 58, 59, 60, 61, 62, 63, 64, 65, 66, 67, 68, 69, 70, 71, 72, 73, 74, 75, 76, 77, 78, 79, 80, 81, 82, 83, 84, 85, 86, 87, 88, 89, 90] (by decide +kernel) (by decide +kernel)
set_option maxRecDepth 20000 in
theorem gX7_act_X7_isEmpty : GoodIn wsX7_act (wsV RX7 181 RX7 yX7_isEmpty wsX7_isEmpty) := goodIn_app (goodIn_of _ (by decide +kernel)) ggX7_act_X7_isEmpty
set_option maxRecDepth 20000 in
theorem ggX7_act_X7_isUppermost : GoodIn wsX7_act wsX7_isUppermost := goodIn_r _ [55, 4, 38, 8, 6, 56, 57, 58, 59, 60, 61, 62, 63, 64, 65, 66, 67, 68, 69, 70, 71, 72, 73, 74, 75, 76, 77, 78, 79, 80, 81, 82, 83, 84, 85, 86, 87, 88, 89, 90] (by decide +kernel) (by decide +kernel)
set_option maxRecDepth 20000 in
theorem gX7_act_X7_isUppermost : GoodIn wsX7_act (wsV RX7 184 RX7 yX7_isUppermost wsX7_isUppermost) := goodIn_app (goodIn_of _ (by decide +kernel)) ggX7_act_X7_isUppermost
set_option maxRecDepth 20000 in
theorem ggX7_lose_X7_isWorker : GoodIn wsX7_lose wsX7_isWorker := goodIn_r _ [7, 8, 9, 6, 10] (by decide +kernel) (by decide +kernel)
set_option maxRecDepth 20000 in
theorem gX7_lose_X7_isWorker : GoodIn wsX7_lose (va_wsS RX7 163 yX7_isWorker wsX7_isWorker) := goodIn_app (goodIn_of _ (by decide +kernel)) ggX7_lose_X7_isWorker
set_option maxRecDepth 20000 in
theorem ggX7_lose_X7_in : GoodIn wsX7_lose wsX7_in := goodIn_r _ [10] (by decide +kernel) (by decide +kernel)
set_option maxRecDepth 20000 in
theorem gX7_lose_X7_in : GoodIn wsX7_lose (va_wsS RX7 99 yX7_in wsX7_in) := goodIn_app (goodIn_of _ (by decide +kernel)) ggX7_lose_X7_in
set_option maxRecDepth 20000 in
theorem ggX7_repeat_X7_isWorker : GoodIn wsX7_repeat wsX7_isWorker := goodIn_r _ [6, 7, 8, 5, 9] (by decide +kernel) (by decide +kernel)
set_option maxRecDepth 20000 in
theorem gX7_repeat_X7_isWorker : GoodIn wsX7_repeat (va_wsS RX7 163 yX7_isWorker wsX7_isWorker) := goodIn_app (goodIn_of _ (by decide +kernel)) ggX7_repeat_X7_isWorker
set_option maxRecDepth 20000 in
theorem ggX7_repeat_X7_isIn : GoodIn wsX7_repeat wsX7_isIn := goodIn_r _ [13, 14, 15, 20, 21, 22, 23, 24, 25, 26, 27, 28, 29, 30, 31, 32, 33, 34, 35, 36, 37, 38, 39, 40, 41, 42, 43, 44, 45, 46, 47, 48, 49, 50, 51, 52, 53, 54] (by decide +kernel) (by decide +kernel)
set_option maxRecDepth 20000 in
theorem gX7_repeat_X7_isIn : GoodIn wsX7_repeat (wsV RX7 187 RX7 yX7_isIn wsX7_isIn) := goodIn_app (goodIn_of _ (by decide +kernel)) ggX7_repeat_X7_isIn
set_option maxRecDepth 20000 in
theorem ggX7_repeat_X7_joins : GoodIn wsX7_repeat wsX7_joins := goodIn_r _ [19, 15, 14, 20, 21, 22, 23, 24, 25, 26, 27, 28, 29, 30, 31, 32, 33, 34, 35, 36, 37, 38, 39, 40, 41, 42, 43, 44, 45, 46, 47, 48, 49, 50, 51, 52, 53, 54] (by decide +kernel) (by decide +kernel)
set_option maxRecDepth 20000 in
theorem gX7_repeat_X7_joins : GoodIn wsX7_repeat (wsV RX7 136 RX7 yX7_joins wsX7_joins) := goodIn_app (goodIn_of _ (by decide +kernel)) ggX7_repeat_X7_joins
set_option maxRecDepth 20000 in
theorem ggX7_silence_X7_isCrane : GoodIn wsX7_silence wsX7_isCrane := goodIn_r _ [6, 7, 8, 5, 9] (by decide +kernel) (by decide +kernel)
set_option maxRecDepth 20000 in
theorem gX7_silence_X7_isCrane : GoodIn wsX7_silence (va_wsS RX7 166 yX7_isCrane wsX7_isCrane) := goodIn_app (goodIn_of _ (by decide +kernel)) ggX7_silence_X7_isCrane
set_option maxRecDepth 20000 in
theorem ggX7_giveAway_X7_isCrane : GoodIn wsX7_giveAway wsX7_isCrane := goodIn_r _ [8, 9, 10, 7, 11] (by decide +kernel) (by decide +kernel)
set_option maxRecDepth 20000 in
theorem gX7_giveAway_X7_isCrane : GoodIn wsX7_giveAway (va_wsS RX7 166 yX7_isCrane wsX7_isCrane) := goodIn_app (goodIn_of _ (by decide +kernel)) ggX7_giveAway_X7_isCrane
set_option maxRecDepth 20000 in
theorem ggX7_giveAway_X7_joins : GoodIn wsX7_giveAway wsX7_joins := goodIn_r _ [15, 4, 3, 16, 17, 18, 19, 20, 21, 22, 23, 24, 25, 26, 27, 28, 29, 30, 31, 32, 33, 34, 35, 36, 37, 38, 39, 40, 41, 42, 43, 44, 45, 46, 47, 48, 49, 50] (by decide +kernel) (by decide +kernel)
set_option maxRecDepth 20000 in
theorem gX7_giveAway_X7_joins : GoodIn wsX7_giveAway (wsV RX7 136 RX7 yX7_joins wsX7_joins) := goodIn_app (goodIn_of _ (by decide +kernel)) ggX7_giveAway_X7_joins
set_option maxRecDepth 20000 in
theorem ggX7_park_X7_isCrane : GoodIn wsX7_park wsX7_isCrane := goodIn_r _ [7, 8, 9, 6, 10] (by decide +kernel) (by decide +kernel)
set_option maxRecDepth 20000 in
theorem gX7_park_X7_isCrane : GoodIn wsX7_park (va_wsS RX7 166 yX7_isCrane wsX7_isCrane) := goodIn_app (goodIn_of _ (by decide +kernel)) ggX7_park_X7_isCrane
set_option maxRecDepth 20000 in
theorem ggX7_park_X7_isPlace : GoodIn wsX7_park wsX7_isPlace := goodIn_r _ [13, 8, 9, 6, 10] (by decide +kernel) (by decide +kernel)
set_option maxRecDepth 20000 in
theorem gX7_park_X7_isPlace : GoodIn wsX7_park (va_wsS RX7 109 yX7_isPlace wsX7_isPlace) := goodIn_app (goodIn_of _ (by decide +kernel)) ggX7_park_X7_isPlace
set_option maxRecDepth 20000 in
theorem ggX7_park_X7_canGo : GoodIn wsX7_park wsX7_canGo := goodIn_r _ [17, 3, 18, 19, 20, 21, 22, 23, 24, 25, 26, 27, 28, 29, 30, 31, 32, 33, 34, 35, 36, 37, 38, 39, 40, 41, 42, 43, 44, 45, 46, 47, 48, 49, 50, 51, 52] (by decide +kernel) (by decide +kernel)
set_option maxRecDepth 20000 in
theorem gX7_park_X7_canGo : GoodIn wsX7_park (wsV RX7 153 RX7 yX7_canGo wsX7_canGo) := goodIn_app (goodIn_of _ (by decide +kernel)) ggX7_park_X7_canGo
set_option maxRecDepth 20000 in
theorem ggX7_canBook_X7_slotsFor : GoodIn wsX7_canBook wsX7_slotsFor := goodIn_r _ [10, 3, 2, 11, 15, 16, 17, 18, 19, 20, 21, 22, 23, 24, 25, 26, 27, 28, 29, 30, 31, 32, 33, 34, 35, 36, 37, 38, 39, 40, 41, 42, 43, 44, 45, 46, 47, 48, 49] (by decide +kernel) (by decide +kernel)
set_option maxRecDepth 20000 in
theorem gX7_canBook_X7_slotsFor : GoodIn wsX7_canBook (wsV RX7 190 RX7 yX7_slotsFor wsX7_slotsFor) := goodIn_app (goodIn_of _ (by decide +kernel)) ggX7_canBook_X7_slotsFor
set_option maxRecDepth 20000 in
theorem ggX7_canBook_X7_in : GoodIn wsX7_canBook wsX7_in := goodIn_r _ [14] (by decide +kernel) (by decide +kernel)
set_option maxRecDepth 20000 in
theorem gX7_canBook_X7_in : GoodIn wsX7_canBook (va_wsS RX7 99 yX7_in wsX7_in) := goodIn_app (goodIn_of _ (by decide +kernel)) ggX7_canBook_X7_in
set_option maxRecDepth 20000 in
theorem ggX7_book_X7_in : GoodIn wsX7_book wsX7_in := goodIn_r _ [8] (by decide +kernel) (by decide +kernel)
set_option maxRecDepth 20000 in
theorem gX7_book_X7_in : GoodIn wsX7_book (va_wsS RX7 99 yX7_in wsX7_in) := goodIn_app (goodIn_of _ (by decide +kernel)) ggX7_book_X7_in
set_option maxRecDepth 20000 in
theorem ggX7_book_X7_isBox : GoodIn wsX7_book wsX7_isBox := goodIn_r _ [12, 13, 5, 6, 7, 8, 25, 26, 27, 28, 29, 30, 31, 32, 33, 34, 35, 36, 37, 38, 39, 40, 41, 42, 43, 44, 45, 46, 47, 48, 49, 50, 51, 52, 53, 54, 55, 56, 57, 58, 59] (by decide +kernel) (by decide +kernel)
set_option maxRecDepth 20000 in
theorem gX7_book_X7_isBox : GoodIn wsX7_book (wsV RX7 124 RX7 yX7_isBox wsX7_isBox) := goodIn_app (goodIn_of _ (by decide +kernel)) ggX7_book_X7_isBox
set_option maxRecDepth 20000 in
theorem ggX7_book_X7_canBook : GoodIn wsX7_book wsX7_canBook := goodIn_r _ [17, 18, 3, 13, 19, 20, 21, 22, 23, 7, 24, 4, 5, 6, 8, 25, 26, 27, 28, 29, 30, 31, 32, 33, 34, 35, 36, 37, 38, 39, 40, 41, 42, 43, 44, 45, 46, 47, 48, 49, 50, 51, 52, 53, 54, 55, 56, 57, 58, 59] (by decide +kernel) (by decide +kernel)
set_option maxRecDepth 20000 in
theorem gX7_book_X7_canBook : GoodIn wsX7_book (wsV RX7 193 RX7 yX7_canBook wsX7_canBook) := goodIn_app (goodIn_of _ (by decide +kernel)) ggX7_book_X7_canBook
set_option maxRecDepth 20000 in
theorem ggX7_book_X7_slotsFor : GoodIn wsX7_book wsX7_slotsFor := goodIn_r _ [24, 13, 3, 4, 25, 26, 27, 28, 29, 30, 31, 32, 33, 34, 35, 36, 37, 38, 39, 40, 41, 42, 43, 44, 45, 46, 47, 48, 49, 50, 51, 52, 53, 54, 55, 56, 57, 58, 59] (by decide +kernel) (by decide +kernel)
set_option maxRecDepth 20000 in
theorem gX7_book_X7_slotsFor : GoodIn wsX7_book (wsV RX7 190 RX7 yX7_slotsFor wsX7_slotsFor) := goodIn_app (goodIn_of _ (by decide +kernel)) ggX7_book_X7_slotsFor
set_option maxRecDepth 20000 in
theorem ggX7_unbook_X7_isBox : GoodIn wsX7_unbook wsX7_isBox := goodIn_r _ [7, 8, 9, 10, 6, 11, 12, 13, 14, 15, 16, 17, 18, 19, 20, 21, 22, 23, 24, 25, 26, 27, 28, 29, 30, 31, 32, 33, 34, 35, 36, 37, 38, 39, 40, 41, 42, 43, 44, 45, 46] (by decide +kernel) (by decide +kernel)
set_option maxRecDepth 20000 in
theorem gX7_unbook_X7_isBox : GoodIn wsX7_unbook (wsV RX7 124 RX7 yX7_isBox wsX7_isBox) := goodIn_app (goodIn_of _ (by decide +kernel)) ggX7_unbook_X7_isBox
set_option maxRecDepth 20000 in
theorem ggX7_advance_X7_in : GoodIn wsX7_advance wsX7_in := goodIn_r _ [8] (by decide +kernel) (by decide +kernel)
set_option maxRecDepth 20000 in
theorem gX7_advance_X7_in : GoodIn wsX7_advance (va_wsS RX7 99 yX7_in wsX7_in) := goodIn_app (goodIn_of _ (by decide +kernel)) ggX7_advance_X7_in
set_option maxRecDepth 20000 in
theorem ggX7_asksBox_X7_isBox : GoodIn wsX7_asksBox wsX7_isBox := goodIn_r _ [6, 7, 8, 9, 5, 10, 11, 12, 13, 14, 15, 16, 17, 18, 19, 20, 21, 22, 23, 24, 25, 26, 27, 28, 29, 30, 31, 32, 33, 34, 35, 36, 37, 38, 39, 40, 41, 42, 43, 44, 45] (by decide +kernel) (by decide +kernel)
set_option maxRecDepth 20000 in
theorem gX7_asksBox_X7_isBox : GoodIn wsX7_asksBox (wsV RX7 124 RX7 yX7_isBox wsX7_isBox) := goodIn_app (goodIn_of _ (by decide +kernel)) ggX7_asksBox_X7_isBox
set_option maxRecDepth 20000 in
theorem ggX7_whereIs_X7_asksBox : GoodIn wsX7_whereIs wsX7_asksBox := goodIn_r _ [9, 10, 11, 12, 13, 8, 14, 15, 16, 17, 18, 19, 20, 21, 22, 23, 24, 25, 26, 27, 28, 29, 30, 31, 32, 33, 34, 35, 36, 37, 38, 39, 40, 41, 42, 43, 44, 45, 46, 47, 48, 49, 50, 51, 52, 53] (by decide +kernel) (by decide +kernel)
set_option maxRecDepth 20000 in
theorem gX7_whereIs_X7_asksBox : GoodIn wsX7_whereIs (wsV RX7 196 RX7 yX7_asksBox wsX7_asksBox) := goodIn_app (goodIn_of _ (by decide +kernel)) ggX7_whereIs_X7_asksBox
set_option maxRecDepth 20000 in
theorem ggX7_whereByLog_X7_asksBox : GoodIn wsX7_whereByLog wsX7_asksBox := goodIn_r _ [12, 13, 14, 15, 16, 11, 17, 18, 19, 20, 21, 22, 23, 24, 25, 26, 27, 28, 29, 30, 31, 32, 33, 34, 35, 36, 37, 38, 39, 40, 41, 42, 43, 44, 45, 46, 47, 48, 49, 50, 51, 52, 53, 54, 55, 56] (by decide +kernel) (by decide +kernel)
set_option maxRecDepth 20000 in
theorem gX7_whereByLog_X7_asksBox : GoodIn wsX7_whereByLog (wsV RX7 196 RX7 yX7_asksBox wsX7_asksBox) := goodIn_app (goodIn_of _ (by decide +kernel)) ggX7_whereByLog_X7_asksBox
set_option maxRecDepth 20000 in
theorem ggX7_liftedBy_X7_asksBox : GoodIn wsX7_liftedBy wsX7_asksBox := goodIn_r _ [6, 7, 8, 9, 10, 5, 11, 12, 13, 14, 15, 16, 17, 18, 19, 20, 21, 22, 23, 24, 25, 26, 27, 28, 29, 30, 31, 32, 33, 34, 35, 36, 37, 38, 39, 40, 41, 42, 43, 44, 45, 46, 47, 48, 49, 50] (by decide +kernel) (by decide +kernel)
set_option maxRecDepth 20000 in
theorem gX7_liftedBy_X7_asksBox : GoodIn wsX7_liftedBy (wsV RX7 196 RX7 yX7_asksBox wsX7_asksBox) := goodIn_app (goodIn_of _ (by decide +kernel)) ggX7_liftedBy_X7_asksBox
set_option maxRecDepth 20000 in
theorem ggX7_bookedFor_X7_asksBox : GoodIn wsX7_bookedFor wsX7_asksBox := goodIn_r _ [6, 7, 8, 9, 10, 5, 11, 12, 13, 14, 15, 16, 17, 18, 19, 20, 21, 22, 23, 24, 25, 26, 27, 28, 29, 30, 31, 32, 33, 34, 35, 36, 37, 38, 39, 40, 41, 42, 43, 44, 45, 46, 47, 48, 49, 50] (by decide +kernel) (by decide +kernel)
set_option maxRecDepth 20000 in
theorem gX7_bookedFor_X7_asksBox : GoodIn wsX7_bookedFor (wsV RX7 196 RX7 yX7_asksBox wsX7_asksBox) := goodIn_app (goodIn_of _ (by decide +kernel)) ggX7_bookedFor_X7_asksBox
set_option maxRecDepth 20000 in
theorem ggX7_placeOf_X7_isCrane : GoodIn wsX7_placeOf wsX7_isCrane := goodIn_r _ [6, 7, 8, 5, 9] (by decide +kernel) (by decide +kernel)
set_option maxRecDepth 20000 in
theorem gX7_placeOf_X7_isCrane : GoodIn wsX7_placeOf (va_wsS RX7 166 yX7_isCrane wsX7_isCrane) := goodIn_app (goodIn_of _ (by decide +kernel)) ggX7_placeOf_X7_isCrane
set_option maxRecDepth 20000 in
theorem ggX7_height_X7_in : GoodIn wsX7_height wsX7_in := goodIn_r _ [6] (by decide +kernel) (by decide +kernel)
set_option maxRecDepth 20000 in
theorem gX7_height_X7_in : GoodIn wsX7_height (va_wsS RX7 99 yX7_in wsX7_in) := goodIn_app (goodIn_of _ (by decide +kernel)) ggX7_height_X7_in
set_option maxRecDepth 20000 in
theorem ggX7_queue_X7_isWorker : GoodIn wsX7_queue wsX7_isWorker := goodIn_r _ [6, 7, 8, 5, 9] (by decide +kernel) (by decide +kernel)
set_option maxRecDepth 20000 in
theorem gX7_queue_X7_isWorker : GoodIn wsX7_queue (va_wsS RX7 163 yX7_isWorker wsX7_isWorker) := goodIn_app (goodIn_of _ (by decide +kernel)) ggX7_queue_X7_isWorker
set_option maxRecDepth 20000 in
theorem ggX7_queued_X7_isWorker : GoodIn wsX7_queued wsX7_isWorker := goodIn_r _ [7, 8, 9, 6, 10] (by decide +kernel) (by decide +kernel)
set_option maxRecDepth 20000 in
theorem gX7_queued_X7_isWorker : GoodIn wsX7_queued (va_wsS RX7 163 yX7_isWorker wsX7_isWorker) := goodIn_app (goodIn_of _ (by decide +kernel)) ggX7_queued_X7_isWorker
set_option maxRecDepth 20000 in
theorem ggX7_queued_X7_in : GoodIn wsX7_queued wsX7_in := goodIn_r _ [10] (by decide +kernel) (by decide +kernel)
set_option maxRecDepth 20000 in
theorem gX7_queued_X7_in : GoodIn wsX7_queued (va_wsS RX7 99 yX7_in wsX7_in) := goodIn_app (goodIn_of _ (by decide +kernel)) ggX7_queued_X7_in
set_option maxRecDepth 20000 in
theorem ggX7_seen_X7_in : GoodIn wsX7_seen wsX7_in := goodIn_r _ [6] (by decide +kernel) (by decide +kernel)
set_option maxRecDepth 20000 in
theorem gX7_seen_X7_in : GoodIn wsX7_seen (va_wsS RX7 99 yX7_in wsX7_in) := goodIn_app (goodIn_of _ (by decide +kernel)) ggX7_seen_X7_in
set_option maxRecDepth 20000 in
theorem ggX7_asksMessage_X7_in : GoodIn wsX7_asksMessage wsX7_in := goodIn_r _ [6] (by decide +kernel) (by decide +kernel)
set_option maxRecDepth 20000 in
theorem gX7_asksMessage_X7_in : GoodIn wsX7_asksMessage (va_wsS RX7 99 yX7_in wsX7_in) := goodIn_app (goodIn_of _ (by decide +kernel)) ggX7_asksMessage_X7_in
set_option maxRecDepth 20000 in
theorem ggX7_handed_X7_asksMessage : GoodIn wsX7_handed wsX7_asksMessage := goodIn_r _ [6, 7, 8, 9, 10, 5, 11, 12, 13, 14, 15, 16, 17, 18, 19, 20, 21, 22, 23, 24, 25, 26, 27, 28, 29, 30, 31, 32, 33, 34, 35, 36, 37, 38, 39, 40, 41, 42, 43, 44, 45, 46] (by decide +kernel) (by decide +kernel)
set_option maxRecDepth 20000 in
theorem gX7_handed_X7_asksMessage : GoodIn wsX7_handed (wsV RX7 199 RX7 yX7_asksMessage wsX7_asksMessage) := goodIn_app (goodIn_of _ (by decide +kernel)) ggX7_handed_X7_asksMessage
set_option maxRecDepth 20000 in
theorem ggX7_isDone_X7_asksMessage : GoodIn wsX7_isDone wsX7_asksMessage := goodIn_r _ [6, 7, 8, 9, 10, 5, 11, 12, 13, 14, 15, 16, 17, 18, 19, 20, 21, 22, 23, 24, 25, 26, 27, 28, 29, 30, 31, 32, 33, 34, 35, 36, 37, 38, 39, 40, 41, 42, 43, 44, 45, 46] (by decide +kernel) (by decide +kernel)
set_option maxRecDepth 20000 in
theorem gX7_isDone_X7_asksMessage : GoodIn wsX7_isDone (wsV RX7 199 RX7 yX7_asksMessage wsX7_asksMessage) := goodIn_app (goodIn_of _ (by decide +kernel)) ggX7_isDone_X7_asksMessage
set_option maxRecDepth 20000 in
theorem ggX7_moveAt_X7_in : GoodIn wsX7_moveAt wsX7_in := goodIn_r _ [7] (by decide +kernel) (by decide +kernel)
set_option maxRecDepth 20000 in
theorem gX7_moveAt_X7_in : GoodIn wsX7_moveAt (va_wsS RX7 99 yX7_in wsX7_in) := goodIn_app (goodIn_of _ (by decide +kernel)) ggX7_moveAt_X7_in
set_option maxRecDepth 20000 in
theorem ggJxc12de_init_da8c8_Jxa1e45_init_da8c8 : GoodIn wsJxc12de_init_da8c8 wsJxa1e45_init_da8c8 := goodIn_r _ [5, 6, 7, 8] (by decide +kernel) (by decide +kernel)
set_option maxRecDepth 20000 in
theorem gJxc12de_init_da8c8_Jxa1e45_init_da8c8 : GoodIn wsJxc12de_init_da8c8 (wsJxa1e45_init_da8c8) := ggJxc12de_init_da8c8_Jxa1e45_init_da8c8
set_option maxRecDepth 20000 in
theorem ggJx4a65c_init_da8c8_Jxc12de_init_da8c8 : GoodIn wsJx4a65c_init_da8c8 wsJxc12de_init_da8c8 := goodIn_r _ [6, 7, 8, 9, 10, 11, 12, 13, 14, 15, 16, 17] (by decide +kernel) (by decide +kernel)
set_option maxRecDepth 20000 in
theorem gJx4a65c_init_da8c8_Jxc12de_init_da8c8 : GoodIn wsJx4a65c_init_da8c8 (wsJxc12de_init_da8c8) := ggJx4a65c_init_da8c8_Jxc12de_init_da8c8
set_option maxRecDepth 20000 in
theorem ggJx4a65c_grow_92f84_J8_newLength_cabcc : GoodIn wsJx4a65c_grow_92f84 wsJ8_newLength_cabcc := goodIn_r _ [11, 12, 4, 5, 6, 13, 14, 15, 10, 16] (by decide +kernel) (by decide +kernel)
set_option maxRecDepth 20000 in
theorem gJx4a65c_grow_92f84_J8_newLength_cabcc : GoodIn wsJx4a65c_grow_92f84 (va_wsS RJx4a65c 73 yJ8_newLength_cabcc wsJ8_newLength_cabcc) := goodIn_app (goodIn_of _ (by decide +kernel)) ggJx4a65c_grow_92f84_J8_newLength_cabcc
set_option maxRecDepth 20000 in
theorem ggJx4a65c_grow_92f84_J7_copyOf_1904c : GoodIn wsJx4a65c_grow_92f84 wsJ7_copyOf_1904c := goodIn_r _ [20, 21, 22, 23, 24, 25, 26, 19, 27, 28, 29, 30, 31, 5, 32, 33, 34, 35, 36] (by decide +kernel) (by decide +kernel)
set_option maxRecDepth 20000 in
theorem gJx4a65c_grow_92f84_J7_copyOf_1904c : GoodIn wsJx4a65c_grow_92f84 (va_wsS RJx4a65c 66 yJ7_copyOf_1904c wsJ7_copyOf_1904c) := goodIn_app (goodIn_of _ (by decide +kernel)) ggJx4a65c_grow_92f84_J7_copyOf_1904c
set_option maxRecDepth 20000 in
theorem ggJx4a65c_grow_d5877_Jx4a65c_grow_92f84 : GoodIn wsJx4a65c_grow_d5877 wsJx4a65c_grow_92f84 := goodIn_r _ [6, 7, 8, 9, 10, 11, 12, 13, 14, 15, 16, 17, 18, 19, 20, 21, 22, 23, 24, 25, 26, 27, 28, 29, 30, 31, 32, 33, 34, 35, 36, 37, 38, 39, 40, 41, 42, 43, 44, 45] (by decide +kernel) (by decide +kernel)
set_option maxRecDepth 20000 in
theorem gJx4a65c_grow_d5877_Jx4a65c_grow_92f84 : GoodIn wsJx4a65c_grow_d5877 (wsV RJx4a65c 69 RJx4a65c yJx4a65c_grow_92f84 wsJx4a65c_grow_92f84) := goodIn_app (goodIn_of _ (by decide +kernel)) ggJx4a65c_grow_d5877_Jx4a65c_grow_92f84
set_option maxRecDepth 20000 in
theorem ggJx4a65c_get_915e3_J15_checkIndex_7cf53 : GoodIn wsJx4a65c_get_915e3 wsJ15_checkIndex_7cf53 := goodIn_r _ [5, 6, 7, 8, 9] (by decide +kernel) (by decide +kernel)
set_option maxRecDepth 20000 in
theorem gJx4a65c_get_915e3_J15_checkIndex_7cf53 : GoodIn wsJx4a65c_get_915e3 (va_wsS RJx4a65c 118 yJ15_checkIndex_7cf53 wsJ15_checkIndex_7cf53) := goodIn_app (goodIn_of _ (by decide +kernel)) ggJx4a65c_get_915e3_J15_checkIndex_7cf53
set_option maxRecDepth 20000 in
theorem ggJx4a65c_get_915e3_Jx4a65c_elementData_915e3 : GoodIn wsJx4a65c_get_915e3 wsJx4a65c_elementData_915e3 := goodIn_r _ [14, 15, 16, 17, 18] (by decide +kernel) (by decide +kernel)
set_option maxRecDepth 20000 in
theorem gJx4a65c_get_915e3_Jx4a65c_elementData_915e3 : GoodIn wsJx4a65c_get_915e3 (wsV RJx4a65c 123 RJx4a65c yJx4a65c_elementData_915e3 wsJx4a65c_elementData_915e3) := goodIn_app (goodIn_of _ (by decide +kernel)) ggJx4a65c_get_915e3_Jx4a65c_elementData_915e3
set_option maxRecDepth 20000 in
theorem ggJx4a65c_add_72be8_Jx4a65c_grow_d5877 : GoodIn wsJx4a65c_add_72be8 wsJx4a65c_grow_d5877 := goodIn_r _ [6, 1, 7, 8, 9, 5, 10, 11, 12, 13, 14, 15, 16, 17, 18, 19, 20, 21, 22, 23, 24, 25, 26, 27, 28, 29, 30, 31, 32, 33, 34, 35, 36, 37, 38, 39, 40, 41, 42, 43, 44, 45, 46, 47, 48, 49] (by decide +kernel) (by decide +kernel)
set_option maxRecDepth 20000 in
theorem gJx4a65c_add_72be8_Jx4a65c_grow_d5877 : GoodIn wsJx4a65c_add_72be8 (wsV RJx4a65c 129 RJx4a65c yJx4a65c_grow_d5877 wsJx4a65c_grow_d5877) := goodIn_app (goodIn_of _ (by decide +kernel)) ggJx4a65c_add_72be8_Jx4a65c_grow_d5877
set_option maxRecDepth 20000 in
theorem ggJx4a65c_add_9ea2d_Jx4a65c_add_72be8 : GoodIn wsJx4a65c_add_9ea2d wsJx4a65c_add_72be8 := goodIn_r _ [9, 4, 10, 11, 12, 8, 13, 14, 15, 16, 17, 3, 18, 19, 20, 21, 22, 23, 24, 25, 26, 27, 28, 29, 30, 31, 32, 33, 34, 35, 36, 37, 38, 39, 40, 41, 42, 43, 44, 45, 46, 47, 48, 49, 50, 51, 52, 53, 54, 55] (by decide +kernel) (by decide +kernel)
set_option maxRecDepth 20000 in
theorem gJx4a65c_add_9ea2d_Jx4a65c_add_72be8 : GoodIn wsJx4a65c_add_9ea2d (wsV RJx4a65c 131 RJx4a65c yJx4a65c_add_72be8 wsJx4a65c_add_72be8) := goodIn_app (goodIn_of _ (by decide +kernel)) ggJx4a65c_add_9ea2d_Jx4a65c_add_72be8
set_option maxRecDepth 20000 in
theorem ggJx4a65c_remove_915e3_J15_checkIndex_7cf53 : GoodIn wsJx4a65c_remove_915e3 wsJ15_checkIndex_7cf53 := goodIn_r _ [6, 7, 8, 9, 10] (by decide +kernel) (by decide +kernel)
set_option maxRecDepth 20000 in
theorem gJx4a65c_remove_915e3_J15_checkIndex_7cf53 : GoodIn wsJx4a65c_remove_915e3 (va_wsS RJx4a65c 118 yJ15_checkIndex_7cf53 wsJ15_checkIndex_7cf53) := goodIn_app (goodIn_of _ (by decide +kernel)) ggJx4a65c_remove_915e3_J15_checkIndex_7cf53
set_option maxRecDepth 20000 in
theorem ggJx4a65c_remove_915e3_Jx4a65c_fastRemove_b59b0 : GoodIn wsJx4a65c_remove_915e3 wsJx4a65c_fastRemove_b59b0 := goodIn_r _ [15, 16, 17, 1, 18, 19, 20, 21, 22, 23, 24] (by decide +kernel) (by decide +kernel)
set_option maxRecDepth 20000 in
theorem gJx4a65c_remove_915e3_Jx4a65c_fastRemove_b59b0 : GoodIn wsJx4a65c_remove_915e3 (wsV RJx4a65c 144 RJx4a65c yJx4a65c_fastRemove_b59b0 wsJx4a65c_fastRemove_b59b0) := goodIn_app (goodIn_of _ (by decide +kernel)) ggJx4a65c_remove_915e3_Jx4a65c_fastRemove_b59b0
set_option maxRecDepth 20000 in
theorem ggJ7_copyOf_1904c_J7_copyOf_6403c : GoodIn wsJ7_copyOf_1904c wsJ7_copyOf_6403c := goodIn_r _ [8, 9, 10, 11, 12, 13, 14, 15, 16, 17, 18] (by decide +kernel) (by decide +kernel)
set_option maxRecDepth 20000 in
theorem gJ7_copyOf_1904c_J7_copyOf_6403c : GoodIn wsJ7_copyOf_1904c (va_wsS RJ7 300 yJ7_copyOf_6403c wsJ7_copyOf_6403c) := goodIn_app (goodIn_of _ (by decide +kernel)) ggJ7_copyOf_1904c_J7_copyOf_6403c
set_option maxRecDepth 20000 in
theorem ggJ15_checkIndex_7cf53_J3_checkIndex_8e157 : GoodIn wsJ15_checkIndex_7cf53 wsJ3_checkIndex_8e157 := goodIn_r _ [4] (by decide +kernel) (by decide +kernel)
set_option maxRecDepth 20000 in
theorem gJ15_checkIndex_7cf53_J3_checkIndex_8e157 : GoodIn wsJ15_checkIndex_7cf53 (va_wsS RJ15 105 yJ3_checkIndex_8e157 wsJ3_checkIndex_8e157) := goodIn_app (goodIn_of _ (by decide +kernel)) ggJ15_checkIndex_7cf53_J3_checkIndex_8e157
set_option maxRecDepth 20000 in
theorem ggJ8_newLength_cabcc_J8_hugeLength_7cf53 : GoodIn wsJ8_newLength_cabcc wsJ8_hugeLength_7cf53 := goodIn_r _ [9, 5] (by decide +kernel) (by decide +kernel)
set_option maxRecDepth 20000 in
theorem gJ8_newLength_cabcc_J8_hugeLength_7cf53 : GoodIn wsJ8_newLength_cabcc (va_wsS RJ8 201 yJ8_hugeLength_7cf53 wsJ8_hugeLength_7cf53) := goodIn_app (goodIn_of _ (by decide +kernel)) ggJ8_newLength_cabcc_J8_hugeLength_7cf53
