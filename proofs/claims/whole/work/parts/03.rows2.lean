theorem dX6_lift_66 : decode cX6_lift 66 = .ok (.iload_n 2, 1) := by decide +kernel
theorem dX6_lift_67 : decode cX6_lift 67 = .ok (.invokevirtual 155, 3) := by decide +kernel
theorem dX6_lift_70 : decode cX6_lift 70 = .ok (.ifCond .eq 6, 3) := by decide +kernel
theorem dX6_lift_73 : decode cX6_lift 73 = .ok (.bipush (-3), 2) := by decide +kernel
theorem dX6_lift_75 : decode cX6_lift 75 = .ok (.ireturn, 1) := by decide +kernel
theorem dX6_lift_76 : decode cX6_lift 76 = .ok (.aload_n 0, 1) := by decide +kernel
theorem dX6_lift_77 : decode cX6_lift 77 = .ok (.getfield 36, 3) := by decide +kernel
theorem dX6_lift_80 : decode cX6_lift 80 = .ok (.aload_n 0, 1) := by decide +kernel
theorem dX6_lift_81 : decode cX6_lift 81 = .ok (.getfield 26, 3) := by decide +kernel
theorem dX6_lift_84 : decode cX6_lift 84 = .ok (.invokevirtual 137, 3) := by decide +kernel
theorem dX6_lift_87 : decode cX6_lift 87 = .ok (.aload_n 0, 1) := by decide +kernel
theorem dX6_lift_88 : decode cX6_lift 88 = .ok (.getfield 26, 3) := by decide +kernel
theorem dX6_lift_91 : decode cX6_lift 91 = .ok (.iload_n 1, 1) := by decide +kernel
theorem dX6_lift_92 : decode cX6_lift 92 = .ok (.iload_n 2, 1) := by decide +kernel
theorem dX6_lift_93 : decode cX6_lift 93 = .ok (.invokevirtual 158, 3) := by decide +kernel
theorem dX6_lift_96 : decode cX6_lift 96 = .ok (.iload_n 3, 1) := by decide +kernel
theorem dX6_lift_97 : decode cX6_lift 97 = .ok (.ireturn, 1) := by decide +kernel
set_option maxRecDepth 20000 in
theorem ggX6_wedge_X5_wedgeRefusal : GoodIn wsX6_wedge wsX5_wedgeRefusal := goodIn_r _ [9, 10, 11, 12, 13, 14, 15, 16, 17, 8, 18, 19, 20, 21, 22, 23, 24, 25, 26, 27, 28, 62, 63, 64, 65, 66, 67, 68, 69, 70, 71] (by decide +kernel) (by decide +kernel)
set_option maxRecDepth 20000 in
theorem gX6_wedge_X5_wedgeRefusal : GoodIn wsX6_wedge (wsV RX6 162 RX5 yX5_wedgeRefusal wsX5_wedgeRefusal) := goodIn_app (goodIn_of _ (by decide +kernel)) ggX6_wedge_X5_wedgeRefusal
set_option maxRecDepth 20000 in
theorem ggX6_wedge_X0_remember : GoodIn wsX6_wedge wsX0_remember := goodIn_r _ [33, 34, 35, 36, 37, 38, 39, 40, 41, 42, 43, 44, 45, 46, 72, 73, 74, 62, 63, 64, 65, 66] (by decide +kernel) (by decide +kernel)
set_option maxRecDepth 20000 in
theorem gX6_wedge_X0_remember : GoodIn wsX6_wedge (wsV RX6 137 RX0 yX0_remember wsX0_remember) := goodIn_app (goodIn_of _ (by decide +kernel)) ggX6_wedge_X0_remember
set_option maxRecDepth 20000 in
theorem ggX6_wedge_X6_bitOf : GoodIn wsX6_wedge wsX6_bitOf := goodIn_r _ [21] (by decide +kernel) (by decide +kernel)
set_option maxRecDepth 20000 in
theorem gX6_wedge_X6_bitOf : GoodIn wsX6_wedge (va_wsS RX6 112 yX6_bitOf wsX6_bitOf) := goodIn_app (goodIn_of _ (by decide +kernel)) ggX6_wedge_X6_bitOf
theorem dX6_wedge_0 : decode cX6_wedge 0 = .ok (.aload_n 0, 1) := by decide +kernel
theorem dX6_wedge_1 : decode cX6_wedge 1 = .ok (.getfield 16, 3) := by decide +kernel
theorem dX6_wedge_4 : decode cX6_wedge 4 = .ok (.aload_n 0, 1) := by decide +kernel
theorem dX6_wedge_5 : decode cX6_wedge 5 = .ok (.getfield 26, 3) := by decide +kernel
theorem dX6_wedge_8 : decode cX6_wedge 8 = .ok (.iload_n 1, 1) := by decide +kernel
theorem dX6_wedge_9 : decode cX6_wedge 9 = .ok (.invokevirtual 162, 3) := by decide +kernel
theorem dX6_wedge_12 : decode cX6_wedge 12 = .ok (.istore_n 2, 1) := by decide +kernel
theorem dX6_wedge_13 : decode cX6_wedge 13 = .ok (.iload_n 2, 1) := by decide +kernel
theorem dX6_wedge_14 : decode cX6_wedge 14 = .ok (.ifCond .eq 5, 3) := by decide +kernel
theorem dX6_wedge_17 : decode cX6_wedge 17 = .ok (.iload_n 2, 1) := by decide +kernel
theorem dX6_wedge_18 : decode cX6_wedge 18 = .ok (.ireturn, 1) := by decide +kernel
theorem dX6_wedge_19 : decode cX6_wedge 19 = .ok (.aload_n 0, 1) := by decide +kernel
theorem dX6_wedge_20 : decode cX6_wedge 20 = .ok (.getfield 36, 3) := by decide +kernel
theorem dX6_wedge_23 : decode cX6_wedge 23 = .ok (.aload_n 0, 1) := by decide +kernel
theorem dX6_wedge_24 : decode cX6_wedge 24 = .ok (.getfield 26, 3) := by decide +kernel
theorem dX6_wedge_27 : decode cX6_wedge 27 = .ok (.invokevirtual 137, 3) := by decide +kernel
theorem dX6_wedge_30 : decode cX6_wedge 30 = .ok (.aload_n 0, 1) := by decide +kernel
theorem dX6_wedge_31 : decode cX6_wedge 31 = .ok (.getfield 26, 3) := by decide +kernel
theorem dX6_wedge_34 : decode cX6_wedge 34 = .ok (.dup, 1) := by decide +kernel
theorem dX6_wedge_35 : decode cX6_wedge 35 = .ok (.getfield 116, 3) := by decide +kernel
theorem dX6_wedge_38 : decode cX6_wedge 38 = .ok (.iconst 1, 1) := by decide +kernel
theorem dX6_wedge_39 : decode cX6_wedge 39 = .ok (.iload_n 1, 1) := by decide +kernel
theorem dX6_wedge_40 : decode cX6_wedge 40 = .ok (.ishl, 1) := by decide +kernel
theorem dX6_wedge_41 : decode cX6_wedge 41 = .ok (.ixor, 1) := by decide +kernel
theorem dX6_wedge_42 : decode cX6_wedge 42 = .ok (.putfield 116, 3) := by decide +kernel
theorem dX6_wedge_45 : decode cX6_wedge 45 = .ok (.aload_n 0, 1) := by decide +kernel
theorem dX6_wedge_46 : decode cX6_wedge 46 = .ok (.getfield 26, 3) := by decide +kernel
theorem dX6_wedge_49 : decode cX6_wedge 49 = .ok (.getfield 116, 3) := by decide +kernel
theorem dX6_wedge_52 : decode cX6_wedge 52 = .ok (.iload_n 1, 1) := by decide +kernel
theorem dX6_wedge_53 : decode cX6_wedge 53 = .ok (.invokestatic 112, 3) := by decide +kernel
theorem dX6_wedge_56 : decode cX6_wedge 56 = .ok (.ireturn, 1) := by decide +kernel
set_option maxRecDepth 20000 in
theorem ggX6_undo_X0_takeBack : GoodIn wsX6_undo wsX0_takeBack := goodIn_r _ [7, 8, 9, 10, 11, 12, 13, 14, 15, 16, 17, 18, 19, 20, 35, 36, 37, 38, 39, 40, 41, 42] (by decide +kernel) (by decide +kernel)
set_option maxRecDepth 20000 in
theorem gX6_undo_X0_takeBack : GoodIn wsX6_undo (wsV RX6 166 RX0 yX0_takeBack wsX0_takeBack) := goodIn_app (goodIn_of _ (by decide +kernel)) ggX6_undo_X0_takeBack
theorem dX6_undo_0 : decode cX6_undo 0 = .ok (.aload_n 0, 1) := by decide +kernel
theorem dX6_undo_1 : decode cX6_undo 1 = .ok (.getfield 36, 3) := by decide +kernel
theorem dX6_undo_4 : decode cX6_undo 4 = .ok (.aload_n 0, 1) := by decide +kernel
theorem dX6_undo_5 : decode cX6_undo 5 = .ok (.getfield 26, 3) := by decide +kernel
theorem dX6_undo_8 : decode cX6_undo 8 = .ok (.invokevirtual 166, 3) := by decide +kernel
theorem dX6_undo_11 : decode cX6_undo 11 = .ok (.ireturn, 1) := by decide +kernel
set_option maxRecDepth 20000 in
theorem ggX6_rolls_X5_has : GoodIn wsX6_rolls wsX5_has := goodIn_r _ [6, 7, 92, 93, 94, 95, 96] (by decide +kernel) (by decide +kernel)
set_option maxRecDepth 20000 in
theorem gX6_rolls_X5_has : GoodIn wsX6_rolls (wsV RX6 119 RX5 yX5_has wsX5_has) := goodIn_app (goodIn_of _ (by decide +kernel)) ggX6_rolls_X5_has
set_option maxRecDepth 20000 in
theorem ggX6_rolls_X6_isWay : GoodIn wsX6_rolls wsX6_isWay := goodIn_r _ [11] (by decide +kernel) (by decide +kernel)
set_option maxRecDepth 20000 in
theorem gX6_rolls_X6_isWay : GoodIn wsX6_rolls (va_wsS RX6 134 yX6_isWay wsX6_isWay) := goodIn_app (goodIn_of _ (by decide +kernel)) ggX6_rolls_X6_isWay
set_option maxRecDepth 20000 in
theorem ggX6_rolls_X6_restOf : GoodIn wsX6_rolls wsX6_restOf := goodIn_r _ [15, 16, 17, 18, 19, 20, 10, 21, 22, 1, 23, 24, 25, 26, 27, 28, 29, 30, 31, 32, 33, 34, 35, 5, 36, 7, 37, 38, 39, 40, 41, 42, 43, 44, 45, 46, 47, 48, 49, 50, 51, 52, 53, 54, 55, 56, 57, 58, 59, 60, 61, 62, 63, 64, 65, 66, 67, 68, 69, 70, 71, 72, 73, 74, 75, 76, 77, 78, 79, 80, 81, 82, 83, 84, 85, 86, 87, 88, 89, 90, 91, 97, 98, 99, 100, 101, 92, 93, 94, 95, 96] (by decide +kernel) (by decide +kernel)
set_option maxRecDepth 20000 in
theorem gX6_rolls_X6_restOf : GoodIn wsX6_rolls (wsV RX6 170 RX6 yX6_restOf wsX6_restOf) := goodIn_app (goodIn_of _ (by decide +kernel)) ggX6_rolls_X6_restOf
theorem dX6_rolls_0 : decode cX6_rolls 0 = .ok (.aload_n 0, 1) := by decide +kernel
theorem dX6_rolls_1 : decode cX6_rolls 1 = .ok (.getfield 16, 3) := by decide +kernel
theorem dX6_rolls_4 : decode cX6_rolls 4 = .ok (.iload_n 1, 1) := by decide +kernel
theorem dX6_rolls_5 : decode cX6_rolls 5 = .ok (.invokevirtual 119, 3) := by decide +kernel
theorem dX6_rolls_8 : decode cX6_rolls 8 = .ok (.ifCond .ne 5, 3) := by decide +kernel
theorem dX6_rolls_11 : decode cX6_rolls 11 = .ok (.iconst (-1), 1) := by decide +kernel
theorem dX6_rolls_12 : decode cX6_rolls 12 = .ok (.ireturn, 1) := by decide +kernel
theorem dX6_rolls_13 : decode cX6_rolls 13 = .ok (.iload_n 2, 1) := by decide +kernel
theorem dX6_rolls_14 : decode cX6_rolls 14 = .ok (.invokestatic 134, 3) := by decide +kernel
theorem dX6_rolls_17 : decode cX6_rolls 17 = .ok (.ifCond .ne 6, 3) := by decide +kernel
theorem dX6_rolls_20 : decode cX6_rolls 20 = .ok (.bipush (-2), 2) := by decide +kernel
theorem dX6_rolls_22 : decode cX6_rolls 22 = .ok (.ireturn, 1) := by decide +kernel
theorem dX6_rolls_23 : decode cX6_rolls 23 = .ok (.aload_n 0, 1) := by decide +kernel
theorem dX6_rolls_24 : decode cX6_rolls 24 = .ok (.iload_n 1, 1) := by decide +kernel
theorem dX6_rolls_25 : decode cX6_rolls 25 = .ok (.iload_n 2, 1) := by decide +kernel
theorem dX6_rolls_26 : decode cX6_rolls 26 = .ok (.invokevirtual 170, 3) := by decide +kernel
theorem dX6_rolls_29 : decode cX6_rolls 29 = .ok (.ireturn, 1) := by decide +kernel
set_option maxRecDepth 20000 in
theorem ggX6_safe_X4_fallen : GoodIn wsX6_safe wsX4_fallen := goodIn_r _ [7, 8, 9, 10, 6, 11, 12, 13, 14, 15, 16, 92, 93, 94, 95, 96] (by decide +kernel) (by decide +kernel)
set_option maxRecDepth 20000 in
theorem gX6_safe_X4_fallen : GoodIn wsX6_safe (wsV RX6 141 RX4 yX4_fallen wsX4_fallen) := goodIn_app (goodIn_of _ (by decide +kernel)) ggX6_safe_X4_fallen
set_option maxRecDepth 20000 in
theorem ggX6_safe_X6_tryTilt : GoodIn wsX6_safe wsX6_tryTilt := goodIn_r _ [21, 2, 1, 22, 23, 24, 25, 6, 26, 16, 27, 28, 29, 30, 31, 32, 33, 34, 35, 36, 37, 38, 39, 40, 41, 42, 43, 44, 20, 45, 46, 47, 48, 49, 50, 51, 52, 53, 54, 55, 56, 57, 58, 59, 60, 61, 62, 63, 64, 65, 66, 67, 68, 69, 70, 71, 72, 73, 74, 75, 76, 77, 78, 79, 80, 81, 82, 83, 84, 85, 86, 87, 88, 89, 90, 91, 92, 93, 94, 95, 96, 97, 98, 99, 100, 101] (by decide +kernel) (by decide +kernel)
set_option maxRecDepth 20000 in
theorem gX6_safe_X6_tryTilt : GoodIn wsX6_safe (wsV RX6 173 RX6 yX6_tryTilt wsX6_tryTilt) := goodIn_app (goodIn_of _ (by decide +kernel)) ggX6_safe_X6_tryTilt
theorem dX6_safe_0 : decode cX6_safe 0 = .ok (.iconst 0, 1) := by decide +kernel
theorem dX6_safe_1 : decode cX6_safe 1 = .ok (.istore_n 1, 1) := by decide +kernel
theorem dX6_safe_2 : decode cX6_safe 2 = .ok (.aload_n 0, 1) := by decide +kernel
theorem dX6_safe_3 : decode cX6_safe 3 = .ok (.getfield 26, 3) := by decide +kernel
theorem dX6_safe_6 : decode cX6_safe 6 = .ok (.invokevirtual 141, 3) := by decide +kernel
theorem dX6_safe_9 : decode cX6_safe 9 = .ok (.istore_n 2, 1) := by decide +kernel
theorem dX6_safe_10 : decode cX6_safe 10 = .ok (.iconst 0, 1) := by decide +kernel
theorem dX6_safe_11 : decode cX6_safe 11 = .ok (.istore_n 3, 1) := by decide +kernel
theorem dX6_safe_12 : decode cX6_safe 12 = .ok (.iload_n 3, 1) := by decide +kernel
theorem dX6_safe_13 : decode cX6_safe 13 = .ok (.iconst 4, 1) := by decide +kernel
theorem dX6_safe_14 : decode cX6_safe 14 = .ok (.if_icmp .ge 31, 3) := by decide +kernel
theorem dX6_safe_17 : decode cX6_safe 17 = .ok (.aload_n 0, 1) := by decide +kernel
theorem dX6_safe_18 : decode cX6_safe 18 = .ok (.iload_n 3, 1) := by decide +kernel
theorem dX6_safe_19 : decode cX6_safe 19 = .ok (.invokevirtual 173, 3) := by decide +kernel
theorem dX6_safe_22 : decode cX6_safe 22 = .ok (.aload_n 0, 1) := by decide +kernel
theorem dX6_safe_23 : decode cX6_safe 23 = .ok (.getfield 30, 3) := by decide +kernel
theorem dX6_safe_26 : decode cX6_safe 26 = .ok (.invokevirtual 141, 3) := by decide +kernel
theorem dX6_safe_29 : decode cX6_safe 29 = .ok (.iload_n 2, 1) := by decide +kernel
theorem dX6_safe_30 : decode cX6_safe 30 = .ok (.if_icmp .ne 9, 3) := by decide +kernel
theorem dX6_safe_33 : decode cX6_safe 33 = .ok (.iload_n 1, 1) := by decide +kernel
theorem dX6_safe_34 : decode cX6_safe 34 = .ok (.iconst 1, 1) := by decide +kernel
theorem dX6_safe_35 : decode cX6_safe 35 = .ok (.iload_n 3, 1) := by decide +kernel
theorem dX6_safe_36 : decode cX6_safe 36 = .ok (.ishl, 1) := by decide +kernel
theorem dX6_safe_37 : decode cX6_safe 37 = .ok (.ior, 1) := by decide +kernel
theorem dX6_safe_38 : decode cX6_safe 38 = .ok (.istore_n 1, 1) := by decide +kernel
theorem dX6_safe_39 : decode cX6_safe 39 = .ok (.iinc 3 1, 3) := by decide +kernel
theorem dX6_safe_42 : decode cX6_safe 42 = .ok (.goto (-30), 3) := by decide +kernel
theorem dX6_safe_45 : decode cX6_safe 45 = .ok (.iload_n 1, 1) := by decide +kernel
theorem dX6_safe_46 : decode cX6_safe 46 = .ok (.ireturn, 1) := by decide +kernel
set_option maxRecDepth 20000 in
theorem ggX6_fewest_X5_has : GoodIn wsX6_fewest wsX5_has := goodIn_r _ [10, 11, 117, 118, 119, 120, 121] (by decide +kernel) (by decide +kernel)
set_option maxRecDepth 20000 in
theorem gX6_fewest_X5_has : GoodIn wsX6_fewest (wsV RX6 119 RX5 yX5_has wsX5_has) := goodIn_app (goodIn_of _ (by decide +kernel)) ggX6_fewest_X5_has
set_option maxRecDepth 20000 in
theorem ggX6_fewest_X2_findFewest : GoodIn wsX6_fewest wsX2_findFewest := goodIn_r _ [16, 17, 18, 19, 20, 21, 22, 23, 24, 25, 26, 27, 28, 29, 30, 31, 32, 15, 33, 34, 35, 36, 37, 38, 39, 40, 9, 41, 42, 43, 44, 45, 46, 47, 48, 49, 50, 51, 52, 53, 54, 11, 55, 56, 57, 58, 59, 60, 61, 62, 63, 64, 65, 66, 67, 68, 69, 70, 71, 72, 73, 74, 75, 76, 77, 78, 79, 80, 81, 82, 83, 84, 85, 86, 87, 88, 89, 90, 91, 92, 93, 94, 95, 96, 97, 98, 113, 114, 115, 116, 122, 123, 124, 125, 126, 117, 118, 119, 120, 121] (by decide +kernel) (by decide +kernel)
set_option maxRecDepth 20000 in
theorem gX6_fewest_X2_findFewest : GoodIn wsX6_fewest (wsV RX6 177 RX2 yX2_findFewest wsX2_findFewest) := goodIn_app (goodIn_of _ (by decide +kernel)) ggX6_fewest_X2_findFewest
theorem dX6_fewest_0 : decode cX6_fewest 0 = .ok (.aload_n 0, 1) := by decide +kernel
theorem dX6_fewest_1 : decode cX6_fewest 1 = .ok (.getfield 16, 3) := by decide +kernel
theorem dX6_fewest_4 : decode cX6_fewest 4 = .ok (.iload_n 1, 1) := by decide +kernel
theorem dX6_fewest_5 : decode cX6_fewest 5 = .ok (.invokevirtual 119, 3) := by decide +kernel
theorem dX6_fewest_8 : decode cX6_fewest 8 = .ok (.ifCond .ne 5, 3) := by decide +kernel
theorem dX6_fewest_11 : decode cX6_fewest 11 = .ok (.iconst (-1), 1) := by decide +kernel
theorem dX6_fewest_12 : decode cX6_fewest 12 = .ok (.ireturn, 1) := by decide +kernel
theorem dX6_fewest_13 : decode cX6_fewest 13 = .ok (.aload_n 0, 1) := by decide +kernel
theorem dX6_fewest_14 : decode cX6_fewest 14 = .ok (.getfield 54, 3) := by decide +kernel
theorem dX6_fewest_17 : decode cX6_fewest 17 = .ok (.aload_n 0, 1) := by decide +kernel
theorem dX6_fewest_18 : decode cX6_fewest 18 = .ok (.getfield 16, 3) := by decide +kernel
theorem dX6_fewest_21 : decode cX6_fewest 21 = .ok (.aload_n 0, 1) := by decide +kernel
theorem dX6_fewest_22 : decode cX6_fewest 22 = .ok (.getfield 26, 3) := by decide +kernel
theorem dX6_fewest_25 : decode cX6_fewest 25 = .ok (.iload_n 1, 1) := by decide +kernel
theorem dX6_fewest_26 : decode cX6_fewest 26 = .ok (.invokevirtual 177, 3) := by decide +kernel
theorem dX6_fewest_29 : decode cX6_fewest 29 = .ok (.ifCond .ne 6, 3) := by decide +kernel
theorem dX6_fewest_32 : decode cX6_fewest 32 = .ok (.bipush (-9), 2) := by decide +kernel
theorem dX6_fewest_34 : decode cX6_fewest 34 = .ok (.ireturn, 1) := by decide +kernel
theorem dX6_fewest_35 : decode cX6_fewest 35 = .ok (.iload_n 2, 1) := by decide +kernel
theorem dX6_fewest_36 : decode cX6_fewest 36 = .ok (.ifCond .eq 13, 3) := by decide +kernel
theorem dX6_fewest_39 : decode cX6_fewest 39 = .ok (.aload_n 0, 1) := by decide +kernel
theorem dX6_fewest_40 : decode cX6_fewest 40 = .ok (.getfield 54, 3) := by decide +kernel
theorem dX6_fewest_43 : decode cX6_fewest 43 = .ok (.getfield 181, 3) := by decide +kernel
theorem dX6_fewest_46 : decode cX6_fewest 46 = .ok (.goto 10, 3) := by decide +kernel
theorem dX6_fewest_49 : decode cX6_fewest 49 = .ok (.aload_n 0, 1) := by decide +kernel
theorem dX6_fewest_50 : decode cX6_fewest 50 = .ok (.getfield 54, 3) := by decide +kernel
theorem dX6_fewest_53 : decode cX6_fewest 53 = .ok (.getfield 184, 3) := by decide +kernel
theorem dX6_fewest_56 : decode cX6_fewest 56 = .ok (.ireturn, 1) := by decide +kernel
set_option maxRecDepth 20000 in
theorem ggX6_reach_X5_has : GoodIn wsX6_reach wsX5_has := goodIn_r _ [8, 9, 95, 96, 97, 98, 99] (by decide +kernel) (by decide +kernel)
set_option maxRecDepth 20000 in
theorem gX6_reach_X5_has : GoodIn wsX6_reach (wsV RX6 119 RX5 yX5_has wsX5_has) := goodIn_app (goodIn_of _ (by decide +kernel)) ggX6_reach_X5_has
set_option maxRecDepth 20000 in
theorem ggX6_reach_X2_findReach : GoodIn wsX6_reach wsX2_findReach := goodIn_r _ [14, 15, 16, 17, 18, 19, 20, 21, 22, 23, 24, 25, 26, 27, 28, 13, 29, 30, 31, 32, 33, 34, 35, 36, 7, 37, 9, 38, 39, 40, 41, 42, 43, 44, 45, 46, 47, 48, 49, 50, 51, 52, 53, 54, 55, 56, 57, 58, 59, 60, 61, 62, 63, 64, 65, 66, 67, 68, 69, 70, 71, 72, 73, 74, 75, 76, 77, 78, 79, 80, 100, 101, 102, 103, 104, 105, 106, 107, 108, 95, 96, 97, 98, 99] (by decide +kernel) (by decide +kernel)
set_option maxRecDepth 20000 in
theorem gX6_reach_X2_findReach : GoodIn wsX6_reach (wsV RX6 187 RX2 yX2_findReach wsX2_findReach) := goodIn_app (goodIn_of _ (by decide +kernel)) ggX6_reach_X2_findReach
theorem dX6_reach_0 : decode cX6_reach 0 = .ok (.aload_n 0, 1) := by decide +kernel
theorem dX6_reach_1 : decode cX6_reach 1 = .ok (.getfield 16, 3) := by decide +kernel
theorem dX6_reach_4 : decode cX6_reach 4 = .ok (.iload_n 1, 1) := by decide +kernel
theorem dX6_reach_5 : decode cX6_reach 5 = .ok (.invokevirtual 119, 3) := by decide +kernel
theorem dX6_reach_8 : decode cX6_reach 8 = .ok (.ifCond .ne 5, 3) := by decide +kernel
theorem dX6_reach_11 : decode cX6_reach 11 = .ok (.iconst (-1), 1) := by decide +kernel
theorem dX6_reach_12 : decode cX6_reach 12 = .ok (.ireturn, 1) := by decide +kernel
theorem dX6_reach_13 : decode cX6_reach 13 = .ok (.aload_n 0, 1) := by decide +kernel
theorem dX6_reach_14 : decode cX6_reach 14 = .ok (.getfield 54, 3) := by decide +kernel
theorem dX6_reach_17 : decode cX6_reach 17 = .ok (.aload_n 0, 1) := by decide +kernel
theorem dX6_reach_18 : decode cX6_reach 18 = .ok (.getfield 16, 3) := by decide +kernel
theorem dX6_reach_21 : decode cX6_reach 21 = .ok (.aload_n 0, 1) := by decide +kernel
theorem dX6_reach_22 : decode cX6_reach 22 = .ok (.getfield 26, 3) := by decide +kernel
theorem dX6_reach_25 : decode cX6_reach 25 = .ok (.iload_n 1, 1) := by decide +kernel
theorem dX6_reach_26 : decode cX6_reach 26 = .ok (.invokevirtual 187, 3) := by decide +kernel
theorem dX6_reach_29 : decode cX6_reach 29 = .ok (.ireturn, 1) := by decide +kernel
set_option maxRecDepth 20000 in
theorem ggX6_best_X2_findBest : GoodIn wsX6_best wsX2_findBest := goodIn_r _ [10, 11, 12, 13, 14, 15, 16, 17, 18, 19, 20, 21, 22, 23, 24, 25, 26, 9, 27, 28, 29, 30, 31, 32, 33, 34, 35, 36, 37, 38, 39, 40, 41, 42, 43, 44, 45, 46, 47, 48, 49, 50, 51, 52, 53, 54, 55, 56, 57, 58, 59, 60, 61, 62, 63, 64, 65, 66, 67, 68, 69, 70, 71, 72, 73, 74, 75, 76, 77, 78, 79, 80, 81, 82, 83, 84, 85, 86, 87, 88, 89, 90, 91, 92, 93, 94, 95, 96, 97, 98, 99, 100, 101, 102, 103, 104, 105, 106, 107, 108, 123, 124, 125, 126, 127, 128, 129, 130, 131, 132, 133, 134, 135, 136] (by decide +kernel) (by decide +kernel)
set_option maxRecDepth 20000 in
theorem gX6_best_X2_findBest : GoodIn wsX6_best (wsV RX6 191 RX2 yX2_findBest wsX2_findBest) := goodIn_app (goodIn_of _ (by decide +kernel)) ggX6_best_X2_findBest
theorem dX6_best_0 : decode cX6_best 0 = .ok (.iload_n 1, 1) := by decide +kernel
theorem dX6_best_1 : decode cX6_best 1 = .ok (.iconst 1, 1) := by decide +kernel
theorem dX6_best_2 : decode cX6_best 2 = .ok (.if_icmp .lt 8, 3) := by decide +kernel
theorem dX6_best_5 : decode cX6_best 5 = .ok (.iload_n 1, 1) := by decide +kernel
theorem dX6_best_6 : decode cX6_best 6 = .ok (.iconst 4, 1) := by decide +kernel
theorem dX6_best_7 : decode cX6_best 7 = .ok (.if_icmp .le 6, 3) := by decide +kernel
theorem dX6_best_10 : decode cX6_best 10 = .ok (.bipush (-2), 2) := by decide +kernel
theorem dX6_best_12 : decode cX6_best 12 = .ok (.ireturn, 1) := by decide +kernel
theorem dX6_best_13 : decode cX6_best 13 = .ok (.aload_n 0, 1) := by decide +kernel
theorem dX6_best_14 : decode cX6_best 14 = .ok (.getfield 54, 3) := by decide +kernel
theorem dX6_best_17 : decode cX6_best 17 = .ok (.aload_n 0, 1) := by decide +kernel
theorem dX6_best_18 : decode cX6_best 18 = .ok (.getfield 16, 3) := by decide +kernel
theorem dX6_best_21 : decode cX6_best 21 = .ok (.aload_n 0, 1) := by decide +kernel
theorem dX6_best_22 : decode cX6_best 22 = .ok (.getfield 26, 3) := by decide +kernel
theorem dX6_best_25 : decode cX6_best 25 = .ok (.iload_n 1, 1) := by decide +kernel
theorem dX6_best_26 : decode cX6_best 26 = .ok (.invokevirtual 191, 3) := by decide +kernel
theorem dX6_best_29 : decode cX6_best 29 = .ok (.iload_n 2, 1) := by decide +kernel
theorem dX6_best_30 : decode cX6_best 30 = .ok (.ifCond .eq 13, 3) := by decide +kernel
theorem dX6_best_33 : decode cX6_best 33 = .ok (.aload_n 0, 1) := by decide +kernel
theorem dX6_best_34 : decode cX6_best 34 = .ok (.getfield 54, 3) := by decide +kernel
theorem dX6_best_37 : decode cX6_best 37 = .ok (.getfield 181, 3) := by decide +kernel
theorem dX6_best_40 : decode cX6_best 40 = .ok (.goto 10, 3) := by decide +kernel
theorem dX6_best_43 : decode cX6_best 43 = .ok (.aload_n 0, 1) := by decide +kernel
theorem dX6_best_44 : decode cX6_best 44 = .ok (.getfield 54, 3) := by decide +kernel
theorem dX6_best_47 : decode cX6_best 47 = .ok (.getfield 184, 3) := by decide +kernel
theorem dX6_best_50 : decode cX6_best 50 = .ok (.ireturn, 1) := by decide +kernel
set_option maxRecDepth 20000 in
theorem ggX6_saves_X5_has : GoodIn wsX6_saves wsX5_has := goodIn_r _ [7, 8, 117, 118, 119, 120, 121] (by decide +kernel) (by decide +kernel)
set_option maxRecDepth 20000 in
theorem gX6_saves_X5_has : GoodIn wsX6_saves (wsV RX6 119 RX5 yX5_has wsX5_has) := goodIn_app (goodIn_of _ (by decide +kernel)) ggX6_saves_X5_has
set_option maxRecDepth 20000 in
theorem ggX6_saves_X6_isWay : GoodIn wsX6_saves wsX6_isWay := goodIn_r _ [12] (by decide +kernel) (by decide +kernel)
set_option maxRecDepth 20000 in
theorem gX6_saves_X6_isWay : GoodIn wsX6_saves (va_wsS RX6 134 yX6_isWay wsX6_isWay) := goodIn_app (goodIn_of _ (by decide +kernel)) ggX6_saves_X6_isWay
set_option maxRecDepth 20000 in
theorem ggX6_saves_X4_isIn : GoodIn wsX6_saves wsX4_isIn := goodIn_r _ [17, 18, 122, 123, 124, 125, 126] (by decide +kernel) (by decide +kernel)
set_option maxRecDepth 20000 in
theorem gX6_saves_X4_isIn : GoodIn wsX6_saves (wsV RX6 195 RX4 yX4_isIn wsX4_isIn) := goodIn_app (goodIn_of _ (by decide +kernel)) ggX6_saves_X4_isIn
set_option maxRecDepth 20000 in
theorem ggX6_saves_X6_restOf : GoodIn wsX6_saves wsX6_restOf := goodIn_r _ [22, 23, 24, 25, 26, 27, 11, 28, 2, 1, 29, 30, 31, 16, 32, 18, 33, 34, 35, 36, 37, 38, 39, 6, 40, 8, 41, 42, 43, 44, 45, 46, 47, 48, 49, 50, 51, 52, 53, 54, 55, 56, 57, 58, 59, 60, 61, 62, 63, 64, 65, 66, 67, 68, 69, 70, 71, 72, 73, 74, 75, 76, 77, 78, 79, 80, 81, 103, 104, 105, 106, 107, 108, 109, 110, 111, 112, 113, 114, 115, 116, 122, 123, 124, 125, 126, 117, 118, 119, 120, 121] (by decide +kernel) (by decide +kernel)
set_option maxRecDepth 20000 in
theorem gX6_saves_X6_restOf : GoodIn wsX6_saves (wsV RX6 170 RX6 yX6_restOf wsX6_restOf) := goodIn_app (goodIn_of _ (by decide +kernel)) ggX6_saves_X6_restOf
set_option maxRecDepth 20000 in
theorem ggX6_saves_X6_leastSaving : GoodIn wsX6_saves wsX6_leastSaving := goodIn_r _ [85, 2, 86, 1, 23, 87, 50, 11, 51, 88, 89, 90, 6, 91, 63, 64, 48, 49, 92, 93, 94, 95, 62, 96, 97, 98, 99, 100, 101, 102, 29, 30, 31, 16, 32, 18, 33, 34, 35, 36, 37, 38, 39, 40, 8, 41, 42, 43, 44, 45, 46, 47, 52, 53, 54, 55, 56, 57, 58, 59, 60, 61, 65, 66, 67, 68, 69, 70, 71, 72, 73, 74, 75, 76, 77, 78, 79, 80, 81, 13, 14, 15, 17, 103, 104, 105, 106, 107, 108, 109, 110, 111, 112, 113, 114, 115, 116, 122, 123, 124, 125, 126, 117, 118, 119, 120, 121] (by decide +kernel) (by decide +kernel)
set_option maxRecDepth 20000 in
theorem gX6_saves_X6_leastSaving : GoodIn wsX6_saves (wsV RX6 198 RX6 yX6_leastSaving wsX6_leastSaving) := goodIn_app (goodIn_of _ (by decide +kernel)) ggX6_saves_X6_leastSaving
theorem dX6_saves_0 : decode cX6_saves 0 = .ok (.aload_n 0, 1) := by decide +kernel
theorem dX6_saves_1 : decode cX6_saves 1 = .ok (.getfield 16, 3) := by decide +kernel
theorem dX6_saves_4 : decode cX6_saves 4 = .ok (.iload_n 1, 1) := by decide +kernel
theorem dX6_saves_5 : decode cX6_saves 5 = .ok (.invokevirtual 119, 3) := by decide +kernel
theorem dX6_saves_8 : decode cX6_saves 8 = .ok (.ifCond .ne 5, 3) := by decide +kernel
theorem dX6_saves_11 : decode cX6_saves 11 = .ok (.iconst (-1), 1) := by decide +kernel
theorem dX6_saves_12 : decode cX6_saves 12 = .ok (.ireturn, 1) := by decide +kernel
theorem dX6_saves_13 : decode cX6_saves 13 = .ok (.iload_n 2, 1) := by decide +kernel
theorem dX6_saves_14 : decode cX6_saves 14 = .ok (.invokestatic 134, 3) := by decide +kernel
theorem dX6_saves_17 : decode cX6_saves 17 = .ok (.ifCond .ne 6, 3) := by decide +kernel
theorem dX6_saves_20 : decode cX6_saves 20 = .ok (.bipush (-2), 2) := by decide +kernel
theorem dX6_saves_22 : decode cX6_saves 22 = .ok (.ireturn, 1) := by decide +kernel
theorem dX6_saves_23 : decode cX6_saves 23 = .ok (.aload_n 0, 1) := by decide +kernel
theorem dX6_saves_24 : decode cX6_saves 24 = .ok (.getfield 26, 3) := by decide +kernel
theorem dX6_saves_27 : decode cX6_saves 27 = .ok (.iload_n 1, 1) := by decide +kernel
theorem dX6_saves_28 : decode cX6_saves 28 = .ok (.invokevirtual 195, 3) := by decide +kernel
theorem dX6_saves_31 : decode cX6_saves 31 = .ok (.ifCond .eq 6, 3) := by decide +kernel
theorem dX6_saves_34 : decode cX6_saves 34 = .ok (.bipush (-3), 2) := by decide +kernel
theorem dX6_saves_36 : decode cX6_saves 36 = .ok (.ireturn, 1) := by decide +kernel
theorem dX6_saves_37 : decode cX6_saves 37 = .ok (.aload_n 0, 1) := by decide +kernel
theorem dX6_saves_38 : decode cX6_saves 38 = .ok (.iload_n 1, 1) := by decide +kernel
theorem dX6_saves_39 : decode cX6_saves 39 = .ok (.iload_n 2, 1) := by decide +kernel
theorem dX6_saves_40 : decode cX6_saves 40 = .ok (.invokevirtual 170, 3) := by decide +kernel
theorem dX6_saves_43 : decode cX6_saves 43 = .ok (.bipush 100, 2) := by decide +kernel
theorem dX6_saves_45 : decode cX6_saves 45 = .ok (.if_icmp .ge 6, 3) := by decide +kernel
theorem dX6_saves_48 : decode cX6_saves 48 = .ok (.bipush 25, 2) := by decide +kernel
theorem dX6_saves_50 : decode cX6_saves 50 = .ok (.ireturn, 1) := by decide +kernel
theorem dX6_saves_51 : decode cX6_saves 51 = .ok (.aload_n 0, 1) := by decide +kernel
theorem dX6_saves_52 : decode cX6_saves 52 = .ok (.iload_n 1, 1) := by decide +kernel
theorem dX6_saves_53 : decode cX6_saves 53 = .ok (.iload_n 2, 1) := by decide +kernel
theorem dX6_saves_54 : decode cX6_saves 54 = .ok (.invokevirtual 198, 3) := by decide +kernel
theorem dX6_saves_57 : decode cX6_saves 57 = .ok (.ireturn, 1) := by decide +kernel
set_option maxRecDepth 20000 in
theorem ggX6_judge_X4_take : GoodIn wsX6_judge wsX4_take := goodIn_r _ [8, 9, 10, 11, 12, 13, 115, 116, 117, 118, 119] (by decide +kernel) (by decide +kernel)
set_option maxRecDepth 20000 in
theorem gX6_judge_X4_take : GoodIn wsX6_judge (wsV RX6 203 RX4 yX4_take wsX4_take) := goodIn_app (goodIn_of _ (by decide +kernel)) ggX6_judge_X4_take
set_option maxRecDepth 20000 in
theorem ggX6_judge_X6_doTold : GoodIn wsX6_judge wsX6_doTold := goodIn_r _ [18, 19, 2, 20, 21, 17, 22, 23, 24, 25, 26, 27, 28, 29, 30, 31, 32, 33, 34, 35, 36, 37, 38, 39, 40, 41, 42, 43, 44, 45, 46, 47, 48, 49, 50, 51, 52, 53, 54, 55, 56, 57, 58, 59, 60, 7, 61, 10, 9, 11, 62, 63, 64, 65, 66, 67, 68, 69, 70, 71, 72, 73, 74, 75, 76, 77, 78, 79, 80, 81, 82, 83, 84, 85, 86, 87, 88, 89, 90, 91, 92, 93, 94, 95, 96, 97, 98, 99, 100, 101, 102, 103, 104, 105, 106, 107, 108, 109, 110, 111, 112, 113, 114, 120, 121, 122, 123, 124, 115, 116, 117, 118, 119] (by decide +kernel) (by decide +kernel)
set_option maxRecDepth 20000 in
theorem gX6_judge_X6_doTold : GoodIn wsX6_judge (wsV RX6 206 RX6 yX6_doTold wsX6_doTold) := goodIn_app (goodIn_of _ (by decide +kernel)) ggX6_judge_X6_doTold
theorem dX6_judge_0 : decode cX6_judge 0 = .ok (.iload_n 1, 1) := by decide +kernel
theorem dX6_judge_1 : decode cX6_judge 1 = .ok (.iconst 1, 1) := by decide +kernel
theorem dX6_judge_2 : decode cX6_judge 2 = .ok (.if_icmp .lt 14, 3) := by decide +kernel
theorem dX6_judge_5 : decode cX6_judge 5 = .ok (.iload_n 1, 1) := by decide +kernel
theorem dX6_judge_6 : decode cX6_judge 6 = .ok (.iconst 4, 1) := by decide +kernel
theorem dX6_judge_7 : decode cX6_judge 7 = .ok (.if_icmp .gt 9, 3) := by decide +kernel
theorem dX6_judge_10 : decode cX6_judge 10 = .ok (.lload_n 2, 1) := by decide +kernel
theorem dX6_judge_11 : decode cX6_judge 11 = .ok (.lconst 0, 1) := by decide +kernel
theorem dX6_judge_12 : decode cX6_judge 12 = .ok (.lcmp, 1) := by decide +kernel
theorem dX6_judge_13 : decode cX6_judge 13 = .ok (.ifCond .ge 6, 3) := by decide +kernel
theorem dX6_judge_16 : decode cX6_judge 16 = .ok (.bipush (-2), 2) := by decide +kernel
theorem dX6_judge_18 : decode cX6_judge 18 = .ok (.ireturn, 1) := by decide +kernel
theorem dX6_judge_19 : decode cX6_judge 19 = .ok (.lconst 1, 1) := by decide +kernel
theorem dX6_judge_20 : decode cX6_judge 20 = .ok (.lstore 4, 2) := by decide +kernel
theorem dX6_judge_22 : decode cX6_judge 22 = .ok (.iconst 0, 1) := by decide +kernel
theorem dX6_judge_23 : decode cX6_judge 23 = .ok (.istore 6, 2) := by decide +kernel
theorem dX6_judge_25 : decode cX6_judge 25 = .ok (.iload 6, 2) := by decide +kernel
theorem dX6_judge_27 : decode cX6_judge 27 = .ok (.iload_n 1, 1) := by decide +kernel
theorem dX6_judge_28 : decode cX6_judge 28 = .ok (.if_icmp .ge 17, 3) := by decide +kernel
theorem dX6_judge_31 : decode cX6_judge 31 = .ok (.lload 4, 2) := by decide +kernel
theorem dX6_judge_33 : decode cX6_judge 33 = .ok (.ldc2_w 201, 3) := by decide +kernel
theorem dX6_judge_36 : decode cX6_judge 36 = .ok (.lmul, 1) := by decide +kernel
theorem dX6_judge_37 : decode cX6_judge 37 = .ok (.lstore 4, 2) := by decide +kernel
theorem dX6_judge_39 : decode cX6_judge 39 = .ok (.iinc 6 1, 3) := by decide +kernel
theorem dX6_judge_42 : decode cX6_judge 42 = .ok (.goto (-17), 3) := by decide +kernel
theorem dX6_judge_45 : decode cX6_judge 45 = .ok (.lload_n 2, 1) := by decide +kernel
theorem dX6_judge_46 : decode cX6_judge 46 = .ok (.lload 4, 2) := by decide +kernel
theorem dX6_judge_48 : decode cX6_judge 48 = .ok (.lcmp, 1) := by decide +kernel
theorem dX6_judge_49 : decode cX6_judge 49 = .ok (.ifCond .lt 6, 3) := by decide +kernel
theorem dX6_judge_52 : decode cX6_judge 52 = .ok (.bipush (-2), 2) := by decide +kernel
theorem dX6_judge_54 : decode cX6_judge 54 = .ok (.ireturn, 1) := by decide +kernel
theorem dX6_judge_55 : decode cX6_judge 55 = .ok (.aload_n 0, 1) := by decide +kernel
theorem dX6_judge_56 : decode cX6_judge 56 = .ok (.getfield 30, 3) := by decide +kernel
theorem dX6_judge_59 : decode cX6_judge 59 = .ok (.aload_n 0, 1) := by decide +kernel
theorem dX6_judge_60 : decode cX6_judge 60 = .ok (.getfield 26, 3) := by decide +kernel
theorem dX6_judge_63 : decode cX6_judge 63 = .ok (.invokevirtual 203, 3) := by decide +kernel
theorem dX6_judge_66 : decode cX6_judge 66 = .ok (.iconst 0, 1) := by decide +kernel
theorem dX6_judge_67 : decode cX6_judge 67 = .ok (.istore 6, 2) := by decide +kernel
theorem dX6_judge_69 : decode cX6_judge 69 = .ok (.iload 6, 2) := by decide +kernel
theorem dX6_judge_71 : decode cX6_judge 71 = .ok (.iload_n 1, 1) := by decide +kernel
theorem dX6_judge_72 : decode cX6_judge 72 = .ok (.if_icmp .ge 36, 3) := by decide +kernel
theorem dX6_judge_75 : decode cX6_judge 75 = .ok (.lload 4, 2) := by decide +kernel
theorem dX6_judge_77 : decode cX6_judge 77 = .ok (.ldc2_w 201, 3) := by decide +kernel
theorem dX6_judge_80 : decode cX6_judge 80 = .ok (.ldiv, 1) := by decide +kernel
theorem dX6_judge_81 : decode cX6_judge 81 = .ok (.lstore 4, 2) := by decide +kernel
theorem dX6_judge_83 : decode cX6_judge 83 = .ok (.aload_n 0, 1) := by decide +kernel
theorem dX6_judge_84 : decode cX6_judge 84 = .ok (.lload_n 2, 1) := by decide +kernel
theorem dX6_judge_85 : decode cX6_judge 85 = .ok (.lload 4, 2) := by decide +kernel
theorem dX6_judge_87 : decode cX6_judge 87 = .ok (.ldiv, 1) := by decide +kernel
theorem dX6_judge_88 : decode cX6_judge 88 = .ok (.ldc2_w 201, 3) := by decide +kernel
theorem dX6_judge_91 : decode cX6_judge 91 = .ok (.lrem, 1) := by decide +kernel
theorem dX6_judge_92 : decode cX6_judge 92 = .ok (.l2i, 1) := by decide +kernel
theorem dX6_judge_93 : decode cX6_judge 93 = .ok (.invokevirtual 206, 3) := by decide +kernel
theorem dX6_judge_96 : decode cX6_judge 96 = .ok (.ifCond .ne 6, 3) := by decide +kernel
theorem dX6_judge_99 : decode cX6_judge 99 = .ok (.iload 6, 2) := by decide +kernel
theorem dX6_judge_101 : decode cX6_judge 101 = .ok (.ireturn, 1) := by decide +kernel
theorem dX6_judge_102 : decode cX6_judge 102 = .ok (.iinc 6 1, 3) := by decide +kernel
theorem dX6_judge_105 : decode cX6_judge 105 = .ok (.goto (-36), 3) := by decide +kernel
theorem dX6_judge_108 : decode cX6_judge 108 = .ok (.bipush (-9), 2) := by decide +kernel
theorem dX6_judge_110 : decode cX6_judge 110 = .ok (.ireturn, 1) := by decide +kernel
set_option maxRecDepth 20000 in
theorem ggX6_see_X6_isCell : GoodIn wsX6_see wsX6_isCell := goodIn_r _ [5] (by decide +kernel) (by decide +kernel)
set_option maxRecDepth 20000 in
theorem gX6_see_X6_isCell : GoodIn wsX6_see (va_wsS RX6 99 yX6_isCell wsX6_isCell) := goodIn_app (goodIn_of _ (by decide +kernel)) ggX6_see_X6_isCell
set_option maxRecDepth 20000 in
theorem ggX6_see_X6_isWay : GoodIn wsX6_see wsX6_isWay := goodIn_r _ [8] (by decide +kernel) (by decide +kernel)
set_option maxRecDepth 20000 in
theorem gX6_see_X6_isWay : GoodIn wsX6_see (va_wsS RX6 134 yX6_isWay wsX6_isWay) := goodIn_app (goodIn_of _ (by decide +kernel)) ggX6_see_X6_isWay
set_option maxRecDepth 20000 in
theorem ggX6_see_X3_add : GoodIn wsX6_see wsX3_add := goodIn_r _ [13, 14, 15, 16, 17, 32, 33, 34, 35] (by decide +kernel) (by decide +kernel)
set_option maxRecDepth 20000 in
theorem gX6_see_X3_add : GoodIn wsX6_see (wsV RX6 209 RX3 yX3_add wsX3_add) := goodIn_app (goodIn_of _ (by decide +kernel)) ggX6_see_X3_add
theorem dX6_see_0 : decode cX6_see 0 = .ok (.iload_n 1, 1) := by decide +kernel
theorem dX6_see_1 : decode cX6_see 1 = .ok (.invokestatic 99, 3) := by decide +kernel
theorem dX6_see_4 : decode cX6_see 4 = .ok (.ifCond .ne 5, 3) := by decide +kernel
theorem dX6_see_7 : decode cX6_see 7 = .ok (.iconst (-1), 1) := by decide +kernel
theorem dX6_see_8 : decode cX6_see 8 = .ok (.ireturn, 1) := by decide +kernel
theorem dX6_see_9 : decode cX6_see 9 = .ok (.iload_n 2, 1) := by decide +kernel
theorem dX6_see_10 : decode cX6_see 10 = .ok (.invokestatic 134, 3) := by decide +kernel
theorem dX6_see_13 : decode cX6_see 13 = .ok (.ifCond .eq 13, 3) := by decide +kernel
theorem dX6_see_16 : decode cX6_see 16 = .ok (.iload_n 3, 1) := by decide +kernel
theorem dX6_see_17 : decode cX6_see 17 = .ok (.ifCond .lt 9, 3) := by decide +kernel
theorem dX6_see_20 : decode cX6_see 20 = .ok (.iload_n 3, 1) := by decide +kernel
theorem dX6_see_21 : decode cX6_see 21 = .ok (.bipush 25, 2) := by decide +kernel
theorem dX6_see_23 : decode cX6_see 23 = .ok (.if_icmp .le 6, 3) := by decide +kernel
theorem dX6_see_26 : decode cX6_see 26 = .ok (.bipush (-2), 2) := by decide +kernel
theorem dX6_see_28 : decode cX6_see 28 = .ok (.ireturn, 1) := by decide +kernel
theorem dX6_see_29 : decode cX6_see 29 = .ok (.aload_n 0, 1) := by decide +kernel
theorem dX6_see_30 : decode cX6_see 30 = .ok (.getfield 47, 3) := by decide +kernel
theorem dX6_see_33 : decode cX6_see 33 = .ok (.iload_n 1, 1) := by decide +kernel
theorem dX6_see_34 : decode cX6_see 34 = .ok (.iload_n 2, 1) := by decide +kernel
theorem dX6_see_35 : decode cX6_see 35 = .ok (.iload_n 3, 1) := by decide +kernel
theorem dX6_see_36 : decode cX6_see 36 = .ok (.invokevirtual 209, 3) := by decide +kernel
theorem dX6_see_39 : decode cX6_see 39 = .ok (.ireturn, 1) := by decide +kernel
theorem dX6_unsee_0 : decode cX6_unsee 0 = .ok (.aload_n 0, 1) := by decide +kernel
theorem dX6_unsee_1 : decode cX6_unsee 1 = .ok (.getfield 47, 3) := by decide +kernel
theorem dX6_unsee_4 : decode cX6_unsee 4 = .ok (.getfield 213, 3) := by decide +kernel
theorem dX6_unsee_7 : decode cX6_unsee 7 = .ok (.istore_n 1, 1) := by decide +kernel
theorem dX6_unsee_8 : decode cX6_unsee 8 = .ok (.aload_n 0, 1) := by decide +kernel
theorem dX6_unsee_9 : decode cX6_unsee 9 = .ok (.getfield 47, 3) := by decide +kernel
theorem dX6_unsee_12 : decode cX6_unsee 12 = .ok (.iconst 0, 1) := by decide +kernel
theorem dX6_unsee_13 : decode cX6_unsee 13 = .ok (.putfield 213, 3) := by decide +kernel
theorem dX6_unsee_16 : decode cX6_unsee 16 = .ok (.iload_n 1, 1) := by decide +kernel
theorem dX6_unsee_17 : decode cX6_unsee 17 = .ok (.ireturn, 1) := by decide +kernel
set_option maxRecDepth 20000 in
theorem ggX6_hidden_X5_isPlain : GoodIn wsX6_hidden wsX5_isPlain := goodIn_r _ [7, 8, 9, 10, 11, 41, 42, 43, 44, 45] (by decide +kernel) (by decide +kernel)
set_option maxRecDepth 20000 in
theorem gX6_hidden_X5_isPlain : GoodIn wsX6_hidden (wsV RX6 216 RX5 yX5_isPlain wsX5_isPlain) := goodIn_app (goodIn_of _ (by decide +kernel)) ggX6_hidden_X5_isPlain
set_option maxRecDepth 20000 in
theorem ggX6_hidden_X3_agree : GoodIn wsX6_hidden wsX3_agree := goodIn_r _ [16, 17, 18, 19, 20, 21, 9, 10, 11, 22, 23, 15, 24, 25, 26, 41, 42, 43, 44, 45, 46, 47, 48, 49] (by decide +kernel) (by decide +kernel)
set_option maxRecDepth 20000 in
theorem gX6_hidden_X3_agree : GoodIn wsX6_hidden (wsV RX6 219 RX3 yX3_agree wsX3_agree) := goodIn_app (goodIn_of _ (by decide +kernel)) ggX6_hidden_X3_agree
theorem dX6_hidden_0 : decode cX6_hidden 0 = .ok (.iconst 0, 1) := by decide +kernel
theorem dX6_hidden_1 : decode cX6_hidden 1 = .ok (.istore_n 1, 1) := by decide +kernel
theorem dX6_hidden_2 : decode cX6_hidden 2 = .ok (.iconst 0, 1) := by decide +kernel
theorem dX6_hidden_3 : decode cX6_hidden 3 = .ok (.istore_n 2, 1) := by decide +kernel
theorem dX6_hidden_4 : decode cX6_hidden 4 = .ok (.iload_n 2, 1) := by decide +kernel
theorem dX6_hidden_5 : decode cX6_hidden 5 = .ok (.bipush 25, 2) := by decide +kernel
theorem dX6_hidden_7 : decode cX6_hidden 7 = .ok (.if_icmp .ge 41, 3) := by decide +kernel
theorem dX6_hidden_10 : decode cX6_hidden 10 = .ok (.aload_n 0, 1) := by decide +kernel
theorem dX6_hidden_11 : decode cX6_hidden 11 = .ok (.getfield 16, 3) := by decide +kernel
theorem dX6_hidden_14 : decode cX6_hidden 14 = .ok (.iload_n 2, 1) := by decide +kernel
theorem dX6_hidden_15 : decode cX6_hidden 15 = .ok (.invokevirtual 216, 3) := by decide +kernel
theorem dX6_hidden_18 : decode cX6_hidden 18 = .ok (.ifCond .eq 24, 3) := by decide +kernel
theorem dX6_hidden_21 : decode cX6_hidden 21 = .ok (.aload_n 0, 1) := by decide +kernel
theorem dX6_hidden_22 : decode cX6_hidden 22 = .ok (.getfield 47, 3) := by decide +kernel
theorem dX6_hidden_25 : decode cX6_hidden 25 = .ok (.aload_n 0, 1) := by decide +kernel
theorem dX6_hidden_26 : decode cX6_hidden 26 = .ok (.getfield 16, 3) := by decide +kernel
theorem dX6_hidden_29 : decode cX6_hidden 29 = .ok (.iload_n 2, 1) := by decide +kernel
theorem dX6_hidden_30 : decode cX6_hidden 30 = .ok (.invokevirtual 219, 3) := by decide +kernel
theorem dX6_hidden_33 : decode cX6_hidden 33 = .ok (.ifCond .eq 9, 3) := by decide +kernel
theorem dX6_hidden_36 : decode cX6_hidden 36 = .ok (.iload_n 1, 1) := by decide +kernel
theorem dX6_hidden_37 : decode cX6_hidden 37 = .ok (.iconst 1, 1) := by decide +kernel
theorem dX6_hidden_38 : decode cX6_hidden 38 = .ok (.iload_n 2, 1) := by decide +kernel
theorem dX6_hidden_39 : decode cX6_hidden 39 = .ok (.ishl, 1) := by decide +kernel
theorem dX6_hidden_40 : decode cX6_hidden 40 = .ok (.ior, 1) := by decide +kernel
theorem dX6_hidden_41 : decode cX6_hidden 41 = .ok (.istore_n 1, 1) := by decide +kernel
theorem dX6_hidden_42 : decode cX6_hidden 42 = .ok (.iinc 2 1, 3) := by decide +kernel
theorem dX6_hidden_45 : decode cX6_hidden 45 = .ok (.goto (-41), 3) := by decide +kernel
theorem dX6_hidden_48 : decode cX6_hidden 48 = .ok (.iload_n 1, 1) := by decide +kernel
theorem dX6_hidden_49 : decode cX6_hidden 49 = .ok (.ireturn, 1) := by decide +kernel
set_option maxRecDepth 20000 in
theorem ggX6_share_X5_has : GoodIn wsX6_share wsX5_has := goodIn_r _ [9, 10, 147, 148, 149, 150, 151] (by decide +kernel) (by decide +kernel)
set_option maxRecDepth 20000 in
theorem gX6_share_X5_has : GoodIn wsX6_share (wsV RX6 119 RX5 yX5_has wsX5_has) := goodIn_app (goodIn_of _ (by decide +kernel)) ggX6_share_X5_has
set_option maxRecDepth 20000 in
theorem ggX6_share_X6_weighGroups : GoodIn wsX6_share wsX6_weighGroups := goodIn_r _ [15, 1, 2, 16, 17, 18, 4, 19, 20, 21, 22, 23, 24, 25, 26, 27, 28, 29, 30, 31, 14, 32, 33, 34, 35, 36, 37, 38, 39, 40, 41, 42, 43, 44, 45, 46, 47, 48, 49, 50, 51, 52, 53, 54, 55, 56, 57, 58, 59, 60, 61, 62, 63, 64, 65, 66, 67, 68, 69, 70, 71, 8, 72, 73, 74, 75, 76, 77, 78, 79, 80, 81, 82, 83, 84, 85, 86, 87, 88, 89, 90, 10, 91, 92, 93, 94, 95, 96, 97, 98, 99, 100, 101, 102, 103, 104, 105, 106, 107, 108, 109, 110, 111, 112, 113, 114, 115, 116, 117, 118, 119, 120, 121, 122, 123, 124, 125, 133, 134, 135, 136, 137, 138, 139, 140, 141, 142, 143, 144, 145, 146, 147, 148, 149, 150, 151, 152, 153, 154, 155, 156, 157, 158, 159, 160] (by decide +kernel) (by decide +kernel)
set_option maxRecDepth 20000 in
theorem gX6_share_X6_weighGroups : GoodIn wsX6_share (wsV RX6 223 RX6 yX6_weighGroups wsX6_weighGroups) := goodIn_app (goodIn_of _ (by decide +kernel)) ggX6_share_X6_weighGroups
set_option maxRecDepth 20000 in
theorem ggX6_share_X6_bitOf : GoodIn wsX6_share wsX6_bitOf := goodIn_r _ [32] (by decide +kernel) (by decide +kernel)
set_option maxRecDepth 20000 in
theorem gX6_share_X6_bitOf : GoodIn wsX6_share (va_wsS RX6 112 yX6_bitOf wsX6_bitOf) := goodIn_app (goodIn_of _ (by decide +kernel)) ggX6_share_X6_bitOf
set_option maxRecDepth 20000 in
theorem ggX6_share_J6_bitCount_0f7a4 : GoodIn wsX6_share wsJ6_bitCount_0f7a4 := goodIn_r _ [78, 79, 80, 81] (by decide +kernel) (by decide +kernel)
set_option maxRecDepth 20000 in
theorem gX6_share_J6_bitCount_0f7a4 : GoodIn wsX6_share (va_wsS RX6 90 yJ6_bitCount_0f7a4 wsJ6_bitCount_0f7a4) := goodIn_app (goodIn_of _ (by decide +kernel)) ggX6_share_J6_bitCount_0f7a4
set_option maxRecDepth 20000 in
theorem ggX6_share_X6_tellFraction : GoodIn wsX6_share wsX6_tellFraction := goodIn_r _ [129, 130, 131, 55, 132] (by decide +kernel) (by decide +kernel)
set_option maxRecDepth 20000 in
theorem gX6_share_X6_tellFraction : GoodIn wsX6_share (va_wsS RX6 229 yX6_tellFraction wsX6_tellFraction) := goodIn_app (goodIn_of _ (by decide +kernel)) ggX6_share_X6_tellFraction
theorem dX6_share_0 : decode cX6_share 0 = .ok (.aload_n 0, 1) := by decide +kernel
theorem dX6_share_1 : decode cX6_share 1 = .ok (.getfield 16, 3) := by decide +kernel
theorem dX6_share_4 : decode cX6_share 4 = .ok (.iload_n 1, 1) := by decide +kernel
theorem dX6_share_5 : decode cX6_share 5 = .ok (.invokevirtual 119, 3) := by decide +kernel
theorem dX6_share_8 : decode cX6_share 8 = .ok (.ifCond .ne 5, 3) := by decide +kernel
theorem dX6_share_11 : decode cX6_share 11 = .ok (.iconst (-1), 1) := by decide +kernel
theorem dX6_share_12 : decode cX6_share 12 = .ok (.ireturn, 1) := by decide +kernel
theorem dX6_share_13 : decode cX6_share 13 = .ok (.aload_n 0, 1) := by decide +kernel
theorem dX6_share_14 : decode cX6_share 14 = .ok (.invokevirtual 223, 3) := by decide +kernel
theorem dX6_share_17 : decode cX6_share 17 = .ok (.iconst 0, 1) := by decide +kernel
theorem dX6_share_18 : decode cX6_share 18 = .ok (.istore_n 3, 1) := by decide +kernel
theorem dX6_share_19 : decode cX6_share 19 = .ok (.iconst 0, 1) := by decide +kernel
theorem dX6_share_20 : decode cX6_share 20 = .ok (.istore 4, 2) := by decide +kernel
theorem dX6_share_22 : decode cX6_share 22 = .ok (.iload 4, 2) := by decide +kernel
theorem dX6_share_24 : decode cX6_share 24 = .ok (.iconst 1, 1) := by decide +kernel
theorem dX6_share_25 : decode cX6_share 25 = .ok (.aload_n 0, 1) := by decide +kernel
theorem dX6_share_26 : decode cX6_share 26 = .ok (.getfield 16, 3) := by decide +kernel
theorem dX6_share_29 : decode cX6_share 29 = .ok (.getfield 96, 3) := by decide +kernel
theorem dX6_share_32 : decode cX6_share 32 = .ok (.ishl, 1) := by decide +kernel
theorem dX6_share_33 : decode cX6_share 33 = .ok (.if_icmp .ge 75, 3) := by decide +kernel
theorem dX6_share_36 : decode cX6_share 36 = .ok (.iload 4, 2) := by decide +kernel
theorem dX6_share_38 : decode cX6_share 38 = .ok (.iload_n 1, 1) := by decide +kernel
theorem dX6_share_39 : decode cX6_share 39 = .ok (.invokestatic 112, 3) := by decide +kernel
theorem dX6_share_42 : decode cX6_share 42 = .ok (.ifCond .ne 60, 3) := by decide +kernel
theorem dX6_share_45 : decode cX6_share 45 = .ok (.iload 4, 2) := by decide +kernel
theorem dX6_share_47 : decode cX6_share 47 = .ok (.invokestatic 90, 3) := by decide +kernel
theorem dX6_share_50 : decode cX6_share 50 = .ok (.istore 5, 2) := by decide +kernel
theorem dX6_share_52 : decode cX6_share 52 = .ok (.getstatic 226, 3) := by decide +kernel
theorem dX6_share_55 : decode cX6_share 55 = .ok (.iload 5, 2) := by decide +kernel
theorem dX6_share_57 : decode cX6_share 57 = .ok (.iaload, 1) := by decide +kernel
theorem dX6_share_58 : decode cX6_share 58 = .ok (.getstatic 226, 3) := by decide +kernel
theorem dX6_share_61 : decode cX6_share 61 = .ok (.aload_n 0, 1) := by decide +kernel
theorem dX6_share_62 : decode cX6_share 62 = .ok (.getfield 16, 3) := by decide +kernel
theorem dX6_share_65 : decode cX6_share 65 = .ok (.getfield 96, 3) := by decide +kernel
theorem dX6_share_68 : decode cX6_share 68 = .ok (.iload 5, 2) := by decide +kernel
theorem dX6_share_70 : decode cX6_share 70 = .ok (.isub, 1) := by decide +kernel
theorem dX6_share_71 : decode cX6_share 71 = .ok (.iconst 1, 1) := by decide +kernel
theorem dX6_share_72 : decode cX6_share 72 = .ok (.isub, 1) := by decide +kernel
theorem dX6_share_73 : decode cX6_share 73 = .ok (.iaload, 1) := by decide +kernel
theorem dX6_share_74 : decode cX6_share 74 = .ok (.imul, 1) := by decide +kernel
theorem dX6_share_75 : decode cX6_share 75 = .ok (.istore 6, 2) := by decide +kernel
theorem dX6_share_77 : decode cX6_share 77 = .ok (.iload_n 3, 1) := by decide +kernel
theorem dX6_share_78 : decode cX6_share 78 = .ok (.iload 6, 2) := by decide +kernel
theorem dX6_share_80 : decode cX6_share 80 = .ok (.aload_n 0, 1) := by decide +kernel
theorem dX6_share_81 : decode cX6_share 81 = .ok (.getfield 65, 3) := by decide +kernel
theorem dX6_share_84 : decode cX6_share 84 = .ok (.iload 4, 2) := by decide +kernel
theorem dX6_share_86 : decode cX6_share 86 = .ok (.iconst 1, 1) := by decide +kernel
theorem dX6_share_87 : decode cX6_share 87 = .ok (.iload_n 1, 1) := by decide +kernel
theorem dX6_share_88 : decode cX6_share 88 = .ok (.ishl, 1) := by decide +kernel
theorem dX6_share_89 : decode cX6_share 89 = .ok (.ior, 1) := by decide +kernel
theorem dX6_share_90 : decode cX6_share 90 = .ok (.iaload, 1) := by decide +kernel
theorem dX6_share_91 : decode cX6_share 91 = .ok (.aload_n 0, 1) := by decide +kernel
theorem dX6_share_92 : decode cX6_share 92 = .ok (.getfield 65, 3) := by decide +kernel
theorem dX6_share_95 : decode cX6_share 95 = .ok (.iload 4, 2) := by decide +kernel
theorem dX6_share_97 : decode cX6_share 97 = .ok (.iaload, 1) := by decide +kernel
theorem dX6_share_98 : decode cX6_share 98 = .ok (.isub, 1) := by decide +kernel
theorem dX6_share_99 : decode cX6_share 99 = .ok (.imul, 1) := by decide +kernel
theorem dX6_share_100 : decode cX6_share 100 = .ok (.iadd, 1) := by decide +kernel
theorem dX6_share_101 : decode cX6_share 101 = .ok (.istore_n 3, 1) := by decide +kernel
theorem dX6_share_102 : decode cX6_share 102 = .ok (.iinc 4 1, 3) := by decide +kernel
theorem dX6_share_105 : decode cX6_share 105 = .ok (.goto (-83), 3) := by decide +kernel
theorem dX6_share_108 : decode cX6_share 108 = .ok (.iload_n 3, 1) := by decide +kernel
theorem dX6_share_109 : decode cX6_share 109 = .ok (.getstatic 226, 3) := by decide +kernel
theorem dX6_share_112 : decode cX6_share 112 = .ok (.aload_n 0, 1) := by decide +kernel
theorem dX6_share_113 : decode cX6_share 113 = .ok (.getfield 16, 3) := by decide +kernel
theorem dX6_share_116 : decode cX6_share 116 = .ok (.getfield 96, 3) := by decide +kernel
theorem dX6_share_119 : decode cX6_share 119 = .ok (.iaload, 1) := by decide +kernel
theorem dX6_share_120 : decode cX6_share 120 = .ok (.iload_n 2, 1) := by decide +kernel
theorem dX6_share_121 : decode cX6_share 121 = .ok (.invokestatic 229, 3) := by decide +kernel
theorem dX6_share_124 : decode cX6_share 124 = .ok (.ireturn, 1) := by decide +kernel
set_option maxRecDepth 20000 in
theorem ggX6_rests_X6_weighPairs : GoodIn wsX6_rests wsX6_weighPairs := goodIn_r _ [6, 7, 8, 1, 9, 10, 11, 5, 12, 13, 14, 15, 16, 17, 18, 19, 20, 21, 22, 23, 24, 25, 26, 27, 28, 29, 30, 31, 32, 33, 34, 35, 36, 37, 38, 39, 40, 41, 42, 43, 44, 45, 46, 47, 48, 49, 50, 51, 52, 53, 54, 55, 56, 57, 58, 59, 60, 61, 62, 63, 64, 65, 66, 67, 68, 69, 70, 71, 72, 73, 74, 75, 76, 77, 78, 79, 80, 81, 82, 83, 84, 85, 90, 91, 92, 93, 94, 95, 96, 97, 98, 99, 100, 101, 102, 103, 104, 105, 106, 107, 108, 109, 110, 111, 112, 113, 114, 115] (by decide +kernel) (by decide +kernel)
set_option maxRecDepth 20000 in
theorem gX6_rests_X6_weighPairs : GoodIn wsX6_rests (wsV RX6 233 RX6 yX6_weighPairs wsX6_weighPairs) := goodIn_app (goodIn_of _ (by decide +kernel)) ggX6_rests_X6_weighPairs
set_option maxRecDepth 20000 in
theorem ggX6_rests_X1_isAtRest : GoodIn wsX6_rests wsX1_isAtRest := goodIn_r _ [89, 84, 85, 114, 115] (by decide +kernel) (by decide +kernel)
set_option maxRecDepth 20000 in
theorem gX6_rests_X1_isAtRest : GoodIn wsX6_rests (wsV RX6 236 RX1 yX1_isAtRest wsX1_isAtRest) := goodIn_app (goodIn_of _ (by decide +kernel)) ggX6_rests_X1_isAtRest
theorem dX6_rests_0 : decode cX6_rests 0 = .ok (.iload_n 1, 1) := by decide +kernel
theorem dX6_rests_1 : decode cX6_rests 1 = .ok (.ifCond .lt 8, 3) := by decide +kernel
theorem dX6_rests_4 : decode cX6_rests 4 = .ok (.iload_n 1, 1) := by decide +kernel
theorem dX6_rests_5 : decode cX6_rests 5 = .ok (.iconst 1, 1) := by decide +kernel
theorem dX6_rests_6 : decode cX6_rests 6 = .ok (.if_icmp .le 6, 3) := by decide +kernel
theorem dX6_rests_9 : decode cX6_rests 9 = .ok (.bipush (-2), 2) := by decide +kernel
theorem dX6_rests_11 : decode cX6_rests 11 = .ok (.ireturn, 1) := by decide +kernel
theorem dX6_rests_12 : decode cX6_rests 12 = .ok (.aload_n 0, 1) := by decide +kernel
theorem dX6_rests_13 : decode cX6_rests 13 = .ok (.invokevirtual 233, 3) := by decide +kernel
theorem dX6_rests_16 : decode cX6_rests 16 = .ok (.iconst 0, 1) := by decide +kernel
theorem dX6_rests_17 : decode cX6_rests 17 = .ok (.istore_n 2, 1) := by decide +kernel
theorem dX6_rests_18 : decode cX6_rests 18 = .ok (.bipush (-9), 2) := by decide +kernel
theorem dX6_rests_20 : decode cX6_rests 20 = .ok (.istore_n 3, 1) := by decide +kernel
theorem dX6_rests_21 : decode cX6_rests 21 = .ok (.iconst 0, 1) := by decide +kernel
theorem dX6_rests_22 : decode cX6_rests 22 = .ok (.istore 4, 2) := by decide +kernel
theorem dX6_rests_24 : decode cX6_rests 24 = .ok (.iload 4, 2) := by decide +kernel
theorem dX6_rests_26 : decode cX6_rests 26 = .ok (.iconst 4, 1) := by decide +kernel
theorem dX6_rests_27 : decode cX6_rests 27 = .ok (.if_icmp .ge 58, 3) := by decide +kernel
theorem dX6_rests_30 : decode cX6_rests 30 = .ok (.iconst 0, 1) := by decide +kernel
theorem dX6_rests_31 : decode cX6_rests 31 = .ok (.istore 5, 2) := by decide +kernel
theorem dX6_rests_33 : decode cX6_rests 33 = .ok (.iload 5, 2) := by decide +kernel
theorem dX6_rests_35 : decode cX6_rests 35 = .ok (.iconst 4, 1) := by decide +kernel
theorem dX6_rests_36 : decode cX6_rests 36 = .ok (.if_icmp .ge 43, 3) := by decide +kernel
theorem dX6_rests_39 : decode cX6_rests 39 = .ok (.aload_n 0, 1) := by decide +kernel
theorem dX6_rests_40 : decode cX6_rests 40 = .ok (.getfield 61, 3) := by decide +kernel
theorem dX6_rests_43 : decode cX6_rests 43 = .ok (.iload 4, 2) := by decide +kernel
theorem dX6_rests_45 : decode cX6_rests 45 = .ok (.iload 5, 2) := by decide +kernel
theorem dX6_rests_47 : decode cX6_rests 47 = .ok (.invokevirtual 236, 3) := by decide +kernel
theorem dX6_rests_50 : decode cX6_rests 50 = .ok (.ifCond .eq 23, 3) := by decide +kernel
theorem dX6_rests_53 : decode cX6_rests 53 = .ok (.iload_n 2, 1) := by decide +kernel
theorem dX6_rests_54 : decode cX6_rests 54 = .ok (.ifCond .ne 14, 3) := by decide +kernel
theorem dX6_rests_57 : decode cX6_rests 57 = .ok (.bipush 10, 2) := by decide +kernel
theorem dX6_rests_59 : decode cX6_rests 59 = .ok (.iload 4, 2) := by decide +kernel
theorem dX6_rests_61 : decode cX6_rests 61 = .ok (.imul, 1) := by decide +kernel
theorem dX6_rests_62 : decode cX6_rests 62 = .ok (.iload 5, 2) := by decide +kernel
theorem dX6_rests_64 : decode cX6_rests 64 = .ok (.iadd, 1) := by decide +kernel
theorem dX6_rests_65 : decode cX6_rests 65 = .ok (.goto 4, 3) := by decide +kernel
theorem dX6_rests_68 : decode cX6_rests 68 = .ok (.iload_n 3, 1) := by decide +kernel
theorem dX6_rests_69 : decode cX6_rests 69 = .ok (.istore_n 3, 1) := by decide +kernel
theorem dX6_rests_70 : decode cX6_rests 70 = .ok (.iinc 2 1, 3) := by decide +kernel
theorem dX6_rests_73 : decode cX6_rests 73 = .ok (.iinc 5 1, 3) := by decide +kernel
theorem dX6_rests_76 : decode cX6_rests 76 = .ok (.goto (-43), 3) := by decide +kernel
theorem dX6_rests_79 : decode cX6_rests 79 = .ok (.iinc 4 1, 3) := by decide +kernel
theorem dX6_rests_82 : decode cX6_rests 82 = .ok (.goto (-58), 3) := by decide +kernel
theorem dX6_rests_85 : decode cX6_rests 85 = .ok (.iload_n 1, 1) := by decide +kernel
theorem dX6_rests_86 : decode cX6_rests 86 = .ok (.ifCond .ne 7, 3) := by decide +kernel
theorem dX6_rests_89 : decode cX6_rests 89 = .ok (.iload_n 2, 1) := by decide +kernel
theorem dX6_rests_90 : decode cX6_rests 90 = .ok (.goto 4, 3) := by decide +kernel
theorem dX6_rests_93 : decode cX6_rests 93 = .ok (.iload_n 3, 1) := by decide +kernel
theorem dX6_rests_94 : decode cX6_rests 94 = .ok (.ireturn, 1) := by decide +kernel
set_option maxRecDepth 20000 in
theorem ggX6_fails_X5_has : GoodIn wsX6_fails wsX5_has := goodIn_r _ [7, 8, 106, 107, 108, 109, 110] (by decide +kernel) (by decide +kernel)
set_option maxRecDepth 20000 in
theorem gX6_fails_X5_has : GoodIn wsX6_fails (wsV RX6 119 RX5 yX5_has wsX5_has) := goodIn_app (goodIn_of _ (by decide +kernel)) ggX6_fails_X5_has
set_option maxRecDepth 20000 in
theorem ggX6_fails_X6_isRow : GoodIn wsX6_fails wsX6_isRow := goodIn_r _ [12, 2, 13, 14, 11, 15] (by decide +kernel) (by decide +kernel)
set_option maxRecDepth 20000 in
theorem gX6_fails_X6_isRow : GoodIn wsX6_fails (va_wsS RX6 240 yX6_isRow wsX6_isRow) := goodIn_app (goodIn_of _ (by decide +kernel)) ggX6_fails_X6_isRow
set_option maxRecDepth 20000 in
theorem ggX6_fails_X6_weightOf : GoodIn wsX6_fails wsX6_weightOf := goodIn_r _ [18, 19, 20, 11, 21] (by decide +kernel) (by decide +kernel)
set_option maxRecDepth 20000 in
theorem gX6_fails_X6_weightOf : GoodIn wsX6_fails (va_wsS RX6 243 yX6_weightOf wsX6_weightOf) := goodIn_app (goodIn_of _ (by decide +kernel)) ggX6_fails_X6_weightOf
set_option maxRecDepth 20000 in
theorem ggX6_fails_X6_isInBehind : GoodIn wsX6_fails wsX6_isInBehind := goodIn_r _ [25, 26, 27, 1, 2, 28, 29, 30, 31, 32, 33, 34, 35, 36, 37, 19, 20, 11, 21, 38, 39, 40, 6, 41, 8, 42, 43, 44, 45, 46, 47, 48, 49, 50, 51, 52, 53, 54, 55, 56, 57, 58, 59, 60, 61, 62, 63, 64, 65, 66, 67, 68, 69, 70, 71, 72, 73, 74, 75, 76, 77, 78, 79, 80, 81, 82, 83, 84, 92, 93, 94, 95, 96, 97, 98, 99, 100, 101, 102, 103, 104, 105, 111, 112, 113, 114, 115, 106, 107, 108, 109, 110] (by decide +kernel) (by decide +kernel)
set_option maxRecDepth 20000 in
theorem gX6_fails_X6_isInBehind : GoodIn wsX6_fails (wsV RX6 246 RX6 yX6_isInBehind wsX6_isInBehind) := goodIn_app (goodIn_of _ (by decide +kernel)) ggX6_fails_X6_isInBehind
set_option maxRecDepth 20000 in
theorem ggX6_fails_X6_tellFraction : GoodIn wsX6_fails wsX6_tellFraction := goodIn_r _ [87, 88, 89, 90, 91] (by decide +kernel) (by decide +kernel)
set_option maxRecDepth 20000 in
theorem gX6_fails_X6_tellFraction : GoodIn wsX6_fails (va_wsS RX6 229 yX6_tellFraction wsX6_tellFraction) := goodIn_app (goodIn_of _ (by decide +kernel)) ggX6_fails_X6_tellFraction
theorem dX6_fails_0 : decode cX6_fails 0 = .ok (.aload_n 0, 1) := by decide +kernel
theorem dX6_fails_1 : decode cX6_fails 1 = .ok (.getfield 16, 3) := by decide +kernel
theorem dX6_fails_4 : decode cX6_fails 4 = .ok (.iload_n 1, 1) := by decide +kernel
theorem dX6_fails_5 : decode cX6_fails 5 = .ok (.invokevirtual 119, 3) := by decide +kernel
theorem dX6_fails_8 : decode cX6_fails 8 = .ok (.ifCond .ne 5, 3) := by decide +kernel
theorem dX6_fails_11 : decode cX6_fails 11 = .ok (.iconst (-1), 1) := by decide +kernel
theorem dX6_fails_12 : decode cX6_fails 12 = .ok (.ireturn, 1) := by decide +kernel
theorem dX6_fails_13 : decode cX6_fails 13 = .ok (.iload_n 2, 1) := by decide +kernel
theorem dX6_fails_14 : decode cX6_fails 14 = .ok (.iconst 1, 1) := by decide +kernel
theorem dX6_fails_15 : decode cX6_fails 15 = .ok (.if_icmp .lt 28, 3) := by decide +kernel
theorem dX6_fails_18 : decode cX6_fails 18 = .ok (.iload_n 2, 1) := by decide +kernel
theorem dX6_fails_19 : decode cX6_fails 19 = .ok (.iconst 4, 1) := by decide +kernel
theorem dX6_fails_20 : decode cX6_fails 20 = .ok (.if_icmp .gt 23, 3) := by decide +kernel
theorem dX6_fails_23 : decode cX6_fails 23 = .ok (.iload_n 2, 1) := by decide +kernel
theorem dX6_fails_24 : decode cX6_fails 24 = .ok (.iload_n 3, 1) := by decide +kernel
theorem dX6_fails_25 : decode cX6_fails 25 = .ok (.invokestatic 240, 3) := by decide +kernel
theorem dX6_fails_28 : decode cX6_fails 28 = .ok (.ifCond .eq 15, 3) := by decide +kernel
theorem dX6_fails_31 : decode cX6_fails 31 = .ok (.iload 4, 2) := by decide +kernel
theorem dX6_fails_33 : decode cX6_fails 33 = .ok (.ifCond .lt 10, 3) := by decide +kernel
theorem dX6_fails_36 : decode cX6_fails 36 = .ok (.iload 4, 2) := by decide +kernel
theorem dX6_fails_38 : decode cX6_fails 38 = .ok (.bipush 10, 2) := by decide +kernel
theorem dX6_fails_40 : decode cX6_fails 40 = .ok (.if_icmp .le 6, 3) := by decide +kernel
theorem dX6_fails_43 : decode cX6_fails 43 = .ok (.bipush (-2), 2) := by decide +kernel
theorem dX6_fails_45 : decode cX6_fails 45 = .ok (.ireturn, 1) := by decide +kernel
theorem dX6_fails_46 : decode cX6_fails 46 = .ok (.iconst 0, 1) := by decide +kernel
theorem dX6_fails_47 : decode cX6_fails 47 = .ok (.istore 6, 2) := by decide +kernel
theorem dX6_fails_49 : decode cX6_fails 49 = .ok (.iconst 0, 1) := by decide +kernel
theorem dX6_fails_50 : decode cX6_fails 50 = .ok (.istore 7, 2) := by decide +kernel
theorem dX6_fails_52 : decode cX6_fails 52 = .ok (.iload 7, 2) := by decide +kernel
theorem dX6_fails_54 : decode cX6_fails 54 = .ok (.iconst 1, 1) := by decide +kernel
theorem dX6_fails_55 : decode cX6_fails 55 = .ok (.iload_n 2, 1) := by decide +kernel
theorem dX6_fails_56 : decode cX6_fails 56 = .ok (.ishl, 1) := by decide +kernel
theorem dX6_fails_57 : decode cX6_fails 57 = .ok (.if_icmp .ge 43, 3) := by decide +kernel
theorem dX6_fails_60 : decode cX6_fails 60 = .ok (.iload_n 2, 1) := by decide +kernel
theorem dX6_fails_61 : decode cX6_fails 61 = .ok (.iload 7, 2) := by decide +kernel
theorem dX6_fails_63 : decode cX6_fails 63 = .ok (.iload 4, 2) := by decide +kernel
theorem dX6_fails_65 : decode cX6_fails 65 = .ok (.invokestatic 243, 3) := by decide +kernel
theorem dX6_fails_68 : decode cX6_fails 68 = .ok (.istore 8, 2) := by decide +kernel
theorem dX6_fails_70 : decode cX6_fails 70 = .ok (.iload 8, 2) := by decide +kernel
theorem dX6_fails_72 : decode cX6_fails 72 = .ok (.ifCond .le 22, 3) := by decide +kernel
theorem dX6_fails_75 : decode cX6_fails 75 = .ok (.aload_n 0, 1) := by decide +kernel
theorem dX6_fails_76 : decode cX6_fails 76 = .ok (.iload_n 1, 1) := by decide +kernel
theorem dX6_fails_77 : decode cX6_fails 77 = .ok (.iload_n 2, 1) := by decide +kernel
theorem dX6_fails_78 : decode cX6_fails 78 = .ok (.iload_n 3, 1) := by decide +kernel
theorem dX6_fails_79 : decode cX6_fails 79 = .ok (.iload 7, 2) := by decide +kernel
theorem dX6_fails_81 : decode cX6_fails 81 = .ok (.invokevirtual 246, 3) := by decide +kernel
theorem dX6_fails_84 : decode cX6_fails 84 = .ok (.ifCond .eq 10, 3) := by decide +kernel
theorem dX6_fails_87 : decode cX6_fails 87 = .ok (.iload 6, 2) := by decide +kernel
theorem dX6_fails_89 : decode cX6_fails 89 = .ok (.iload 8, 2) := by decide +kernel
theorem dX6_fails_91 : decode cX6_fails 91 = .ok (.iadd, 1) := by decide +kernel
theorem dX6_fails_92 : decode cX6_fails 92 = .ok (.istore 6, 2) := by decide +kernel
theorem dX6_fails_94 : decode cX6_fails 94 = .ok (.iinc 7 1, 3) := by decide +kernel
theorem dX6_fails_97 : decode cX6_fails 97 = .ok (.goto (-45), 3) := by decide +kernel
theorem dX6_fails_100 : decode cX6_fails 100 = .ok (.iload 6, 2) := by decide +kernel
theorem dX6_fails_102 : decode cX6_fails 102 = .ok (.getstatic 250, 3) := by decide +kernel
theorem dX6_fails_105 : decode cX6_fails 105 = .ok (.iload_n 2, 1) := by decide +kernel
theorem dX6_fails_106 : decode cX6_fails 106 = .ok (.iaload, 1) := by decide +kernel
theorem dX6_fails_107 : decode cX6_fails 107 = .ok (.iload 5, 2) := by decide +kernel
theorem dX6_fails_109 : decode cX6_fails 109 = .ok (.invokestatic 229, 3) := by decide +kernel
theorem dX6_fails_112 : decode cX6_fails 112 = .ok (.ireturn, 1) := by decide +kernel
theorem dX6_seed_0 : decode cX6_seed 0 = .ok (.aload_n 0, 1) := by decide +kernel
theorem dX6_seed_1 : decode cX6_seed 1 = .ok (.getfield 253, 3) := by decide +kernel
theorem dX6_seed_4 : decode cX6_seed 4 = .ok (.lstore_n 3, 1) := by decide +kernel
theorem dX6_seed_5 : decode cX6_seed 5 = .ok (.aload_n 0, 1) := by decide +kernel
theorem dX6_seed_6 : decode cX6_seed 6 = .ok (.lload_n 1, 1) := by decide +kernel
theorem dX6_seed_7 : decode cX6_seed 7 = .ok (.putfield 253, 3) := by decide +kernel
theorem dX6_seed_10 : decode cX6_seed 10 = .ok (.lload_n 3, 1) := by decide +kernel
theorem dX6_seed_11 : decode cX6_seed 11 = .ok (.lreturn, 1) := by decide +kernel
set_option maxRecDepth 20000 in
theorem ggX6_days_X4_take : GoodIn wsX6_days wsX4_take := goodIn_r _ [12, 13, 14, 15, 16, 17, 111, 112, 113, 114, 115] (by decide +kernel) (by decide +kernel)
set_option maxRecDepth 20000 in
theorem gX6_days_X4_take : GoodIn wsX6_days (wsV RX6 203 RX4 yX4_take wsX4_take) := goodIn_app (goodIn_of _ (by decide +kernel)) ggX6_days_X4_take
set_option maxRecDepth 20000 in
theorem ggX6_days_X5_turnWedge : GoodIn wsX6_days wsX5_turnWedge := goodIn_r _ [22, 23, 24, 25, 26, 21, 27, 28, 29, 30, 31, 32, 33, 34, 35, 36, 37, 38, 39, 40, 41, 42, 43, 44, 45, 111, 112, 113, 114, 115, 116, 117, 118, 119, 120] (by decide +kernel) (by decide +kernel)
set_option maxRecDepth 20000 in
theorem gX6_days_X5_turnWedge : GoodIn wsX6_days (wsV RX6 263 RX5 yX5_turnWedge wsX5_turnWedge) := goodIn_app (goodIn_of _ (by decide +kernel)) ggX6_days_X5_turnWedge
set_option maxRecDepth 20000 in
theorem ggX6_days_X5_roll : GoodIn wsX6_days wsX5_roll := goodIn_r _ [49, 50, 51, 52, 53, 54, 21, 55, 56, 57, 29, 30, 31, 37, 38, 58, 59, 60, 61, 62, 63, 64, 65, 66, 67, 36, 28, 23, 68, 69, 70, 71, 72, 73, 74, 75, 11, 76, 14, 13, 15, 77, 78, 79, 80, 81, 82, 83, 84, 116, 117, 118, 119, 120, 111, 112, 113, 114, 115] (by decide +kernel) (by decide +kernel)
set_option maxRecDepth 20000 in
theorem gX6_days_X5_roll : GoodIn wsX6_days (wsV RX6 144 RX5 yX5_roll wsX5_roll) := goodIn_app (goodIn_of _ (by decide +kernel)) ggX6_days_X5_roll
set_option maxRecDepth 20000 in
theorem ggX6_days_X4_fallen : GoodIn wsX6_days wsX4_fallen := goodIn_r _ [88, 89, 90, 91, 11, 92, 93, 94, 95, 96, 13, 111, 112, 113, 114, 115] (by decide +kernel) (by decide +kernel)
set_option maxRecDepth 20000 in
theorem gX6_days_X4_fallen : GoodIn wsX6_days (wsV RX6 141 RX4 yX4_fallen wsX4_fallen) := goodIn_app (goodIn_of _ (by decide +kernel)) ggX6_days_X4_fallen
theorem dX6_days_0 : decode cX6_days 0 = .ok (.iload_n 1, 1) := by decide +kernel
theorem dX6_days_1 : decode cX6_days 1 = .ok (.iconst 1, 1) := by decide +kernel
theorem dX6_days_2 : decode cX6_days 2 = .ok (.if_icmp .lt 9, 3) := by decide +kernel
theorem dX6_days_5 : decode cX6_days 5 = .ok (.iload_n 1, 1) := by decide +kernel
theorem dX6_days_6 : decode cX6_days 6 = .ok (.bipush 30, 2) := by decide +kernel
theorem dX6_days_8 : decode cX6_days 8 = .ok (.if_icmp .le 6, 3) := by decide +kernel
theorem dX6_days_11 : decode cX6_days 11 = .ok (.bipush (-2), 2) := by decide +kernel
theorem dX6_days_13 : decode cX6_days 13 = .ok (.ireturn, 1) := by decide +kernel
theorem dX6_days_14 : decode cX6_days 14 = .ok (.aload_n 0, 1) := by decide +kernel
theorem dX6_days_15 : decode cX6_days 15 = .ok (.getfield 30, 3) := by decide +kernel
theorem dX6_days_18 : decode cX6_days 18 = .ok (.aload_n 0, 1) := by decide +kernel
theorem dX6_days_19 : decode cX6_days 19 = .ok (.getfield 26, 3) := by decide +kernel
theorem dX6_days_22 : decode cX6_days 22 = .ok (.invokevirtual 203, 3) := by decide +kernel
theorem dX6_days_25 : decode cX6_days 25 = .ok (.iconst 0, 1) := by decide +kernel
theorem dX6_days_26 : decode cX6_days 26 = .ok (.istore_n 2, 1) := by decide +kernel
theorem dX6_days_27 : decode cX6_days 27 = .ok (.iconst 0, 1) := by decide +kernel
theorem dX6_days_28 : decode cX6_days 28 = .ok (.istore_n 3, 1) := by decide +kernel
theorem dX6_days_29 : decode cX6_days 29 = .ok (.iload_n 3, 1) := by decide +kernel
theorem dX6_days_30 : decode cX6_days 30 = .ok (.iload_n 1, 1) := by decide +kernel
theorem dX6_days_31 : decode cX6_days 31 = .ok (.if_icmp .ge 89, 3) := by decide +kernel
theorem dX6_days_34 : decode cX6_days 34 = .ok (.aload_n 0, 1) := by decide +kernel
theorem dX6_days_35 : decode cX6_days 35 = .ok (.aload_n 0, 1) := by decide +kernel
theorem dX6_days_36 : decode cX6_days 36 = .ok (.getfield 253, 3) := by decide +kernel
theorem dX6_days_39 : decode cX6_days 39 = .ok (.ldc2_w 257, 3) := by decide +kernel
theorem dX6_days_42 : decode cX6_days 42 = .ok (.lmul, 1) := by decide +kernel
theorem dX6_days_43 : decode cX6_days 43 = .ok (.ldc2_w 259, 3) := by decide +kernel
theorem dX6_days_46 : decode cX6_days 46 = .ok (.ladd, 1) := by decide +kernel
theorem dX6_days_47 : decode cX6_days 47 = .ok (.putfield 253, 3) := by decide +kernel
theorem dX6_days_50 : decode cX6_days 50 = .ok (.aload_n 0, 1) := by decide +kernel
theorem dX6_days_51 : decode cX6_days 51 = .ok (.getfield 253, 3) := by decide +kernel
theorem dX6_days_54 : decode cX6_days 54 = .ok (.bipush 33, 2) := by decide +kernel
theorem dX6_days_56 : decode cX6_days 56 = .ok (.lushr, 1) := by decide +kernel
theorem dX6_days_57 : decode cX6_days 57 = .ok (.ldc2_w 261, 3) := by decide +kernel
theorem dX6_days_60 : decode cX6_days 60 = .ok (.lrem, 1) := by decide +kernel
theorem dX6_days_61 : decode cX6_days 61 = .ok (.l2i, 1) := by decide +kernel
theorem dX6_days_62 : decode cX6_days 62 = .ok (.istore 4, 2) := by decide +kernel
theorem dX6_days_64 : decode cX6_days 64 = .ok (.iload 4, 2) := by decide +kernel
theorem dX6_days_66 : decode cX6_days 66 = .ok (.bipush 25, 2) := by decide +kernel
theorem dX6_days_68 : decode cX6_days 68 = .ok (.if_icmp .ge 20, 3) := by decide +kernel
theorem dX6_days_71 : decode cX6_days 71 = .ok (.aload_n 0, 1) := by decide +kernel
theorem dX6_days_72 : decode cX6_days 72 = .ok (.getfield 16, 3) := by decide +kernel
theorem dX6_days_75 : decode cX6_days 75 = .ok (.aload_n 0, 1) := by decide +kernel
theorem dX6_days_76 : decode cX6_days 76 = .ok (.getfield 30, 3) := by decide +kernel
theorem dX6_days_79 : decode cX6_days 79 = .ok (.iload 4, 2) := by decide +kernel
theorem dX6_days_81 : decode cX6_days 81 = .ok (.invokevirtual 263, 3) := by decide +kernel
theorem dX6_days_84 : decode cX6_days 84 = .ok (.pop, 1) := by decide +kernel
theorem dX6_days_85 : decode cX6_days 85 = .ok (.goto 19, 3) := by decide +kernel
theorem dX6_days_88 : decode cX6_days 88 = .ok (.aload_n 0, 1) := by decide +kernel
theorem dX6_days_89 : decode cX6_days 89 = .ok (.getfield 16, 3) := by decide +kernel
theorem dX6_days_92 : decode cX6_days 92 = .ok (.aload_n 0, 1) := by decide +kernel
theorem dX6_days_93 : decode cX6_days 93 = .ok (.getfield 30, 3) := by decide +kernel
theorem dX6_days_96 : decode cX6_days 96 = .ok (.iload 4, 2) := by decide +kernel
theorem dX6_days_98 : decode cX6_days 98 = .ok (.bipush 25, 2) := by decide +kernel
theorem dX6_days_100 : decode cX6_days 100 = .ok (.isub, 1) := by decide +kernel
theorem dX6_days_101 : decode cX6_days 101 = .ok (.invokevirtual 144, 3) := by decide +kernel
theorem dX6_days_104 : decode cX6_days 104 = .ok (.iload_n 2, 1) := by decide +kernel
theorem dX6_days_105 : decode cX6_days 105 = .ok (.aload_n 0, 1) := by decide +kernel
theorem dX6_days_106 : decode cX6_days 106 = .ok (.getfield 30, 3) := by decide +kernel
theorem dX6_days_109 : decode cX6_days 109 = .ok (.invokevirtual 141, 3) := by decide +kernel
theorem dX6_days_112 : decode cX6_days 112 = .ok (.iadd, 1) := by decide +kernel
theorem dX6_days_113 : decode cX6_days 113 = .ok (.istore_n 2, 1) := by decide +kernel
theorem dX6_days_114 : decode cX6_days 114 = .ok (.iinc 3 1, 3) := by decide +kernel
theorem dX6_days_117 : decode cX6_days 117 = .ok (.goto (-88), 3) := by decide +kernel
theorem dX6_days_120 : decode cX6_days 120 = .ok (.iload_n 2, 1) := by decide +kernel
theorem dX6_days_121 : decode cX6_days 121 = .ok (.ireturn, 1) := by decide +kernel
set_option maxRecDepth 20000 in
theorem ggX6_keep_X6_isSlot : GoodIn wsX6_keep wsX6_isSlot := goodIn_r _ [8] (by decide +kernel) (by decide +kernel)
set_option maxRecDepth 20000 in
theorem gX6_keep_X6_isSlot : GoodIn wsX6_keep (va_wsS RX6 266 yX6_isSlot wsX6_isSlot) := goodIn_app (goodIn_of _ (by decide +kernel)) ggX6_keep_X6_isSlot
set_option maxRecDepth 20000 in
theorem ggX6_keep_X4_take : GoodIn wsX6_keep wsX4_take := goodIn_r _ [13, 14, 15, 16, 17, 18, 33, 34, 35, 36, 37] (by decide +kernel) (by decide +kernel)
set_option maxRecDepth 20000 in
theorem gX6_keep_X4_take : GoodIn wsX6_keep (wsV RX6 203 RX4 yX4_take wsX4_take) := goodIn_app (goodIn_of _ (by decide +kernel)) ggX6_keep_X4_take
theorem dX6_keep_0 : decode cX6_keep 0 = .ok (.iload_n 1, 1) := by decide +kernel
theorem dX6_keep_1 : decode cX6_keep 1 = .ok (.invokestatic 266, 3) := by decide +kernel
theorem dX6_keep_4 : decode cX6_keep 4 = .ok (.ifCond .ne 5, 3) := by decide +kernel
theorem dX6_keep_7 : decode cX6_keep 7 = .ok (.iconst (-1), 1) := by decide +kernel
theorem dX6_keep_8 : decode cX6_keep 8 = .ok (.ireturn, 1) := by decide +kernel
theorem dX6_keep_9 : decode cX6_keep 9 = .ok (.aload_n 0, 1) := by decide +kernel
theorem dX6_keep_10 : decode cX6_keep 10 = .ok (.getfield 40, 3) := by decide +kernel
theorem dX6_keep_13 : decode cX6_keep 13 = .ok (.iload_n 1, 1) := by decide +kernel
theorem dX6_keep_14 : decode cX6_keep 14 = .ok (.aaload, 1) := by decide +kernel
theorem dX6_keep_15 : decode cX6_keep 15 = .ok (.aload_n 0, 1) := by decide +kernel
theorem dX6_keep_16 : decode cX6_keep 16 = .ok (.getfield 26, 3) := by decide +kernel
theorem dX6_keep_19 : decode cX6_keep 19 = .ok (.invokevirtual 203, 3) := by decide +kernel
theorem dX6_keep_22 : decode cX6_keep 22 = .ok (.aload_n 0, 1) := by decide +kernel
theorem dX6_keep_23 : decode cX6_keep 23 = .ok (.dup, 1) := by decide +kernel
theorem dX6_keep_24 : decode cX6_keep 24 = .ok (.getfield 84, 3) := by decide +kernel
theorem dX6_keep_27 : decode cX6_keep 27 = .ok (.iconst 1, 1) := by decide +kernel
theorem dX6_keep_28 : decode cX6_keep 28 = .ok (.iload_n 1, 1) := by decide +kernel
theorem dX6_keep_29 : decode cX6_keep 29 = .ok (.ishl, 1) := by decide +kernel
theorem dX6_keep_30 : decode cX6_keep 30 = .ok (.ior, 1) := by decide +kernel
theorem dX6_keep_31 : decode cX6_keep 31 = .ok (.putfield 84, 3) := by decide +kernel
theorem dX6_keep_34 : decode cX6_keep 34 = .ok (.aload_n 0, 1) := by decide +kernel
theorem dX6_keep_35 : decode cX6_keep 35 = .ok (.getfield 26, 3) := by decide +kernel
theorem dX6_keep_38 : decode cX6_keep 38 = .ok (.getfield 148, 3) := by decide +kernel
theorem dX6_keep_41 : decode cX6_keep 41 = .ok (.ireturn, 1) := by decide +kernel
set_option maxRecDepth 20000 in
theorem ggX6_again_X6_isSlot : GoodIn wsX6_again wsX6_isSlot := goodIn_r _ [9] (by decide +kernel) (by decide +kernel)
set_option maxRecDepth 20000 in
theorem gX6_again_X6_isSlot : GoodIn wsX6_again (va_wsS RX6 266 yX6_isSlot wsX6_isSlot) := goodIn_app (goodIn_of _ (by decide +kernel)) ggX6_again_X6_isSlot
set_option maxRecDepth 20000 in
theorem ggX6_again_X6_bitOf : GoodIn wsX6_again wsX6_bitOf := goodIn_r _ [12] (by decide +kernel) (by decide +kernel)
set_option maxRecDepth 20000 in
theorem gX6_again_X6_bitOf : GoodIn wsX6_again (va_wsS RX6 112 yX6_bitOf wsX6_bitOf) := goodIn_app (goodIn_of _ (by decide +kernel)) ggX6_again_X6_bitOf
set_option maxRecDepth 20000 in
theorem ggX6_again_X4_take : GoodIn wsX6_again wsX4_take := goodIn_r _ [17, 18, 19, 20, 21, 22, 44, 45, 46, 47, 48] (by decide +kernel) (by decide +kernel)
set_option maxRecDepth 20000 in
theorem gX6_again_X4_take : GoodIn wsX6_again (wsV RX6 203 RX4 yX4_take wsX4_take) := goodIn_app (goodIn_of _ (by decide +kernel)) ggX6_again_X4_take
set_option maxRecDepth 20000 in
theorem ggX6_again_X0_forget : GoodIn wsX6_again wsX0_forget := goodIn_r _ [27, 28, 29, 49, 50, 51] (by decide +kernel) (by decide +kernel)
set_option maxRecDepth 20000 in
theorem gX6_again_X0_forget : GoodIn wsX6_again (wsV RX6 81 RX0 yX0_forget wsX0_forget) := goodIn_app (goodIn_of _ (by decide +kernel)) ggX6_again_X0_forget
theorem dX6_again_0 : decode cX6_again 0 = .ok (.iload_n 1, 1) := by decide +kernel
theorem dX6_again_1 : decode cX6_again 1 = .ok (.invokestatic 266, 3) := by decide +kernel
theorem dX6_again_4 : decode cX6_again 4 = .ok (.ifCond .ne 5, 3) := by decide +kernel
theorem dX6_again_7 : decode cX6_again 7 = .ok (.iconst (-1), 1) := by decide +kernel
theorem dX6_again_8 : decode cX6_again 8 = .ok (.ireturn, 1) := by decide +kernel
theorem dX6_again_9 : decode cX6_again 9 = .ok (.aload_n 0, 1) := by decide +kernel
theorem dX6_again_10 : decode cX6_again 10 = .ok (.getfield 84, 3) := by decide +kernel
theorem dX6_again_13 : decode cX6_again 13 = .ok (.iload_n 1, 1) := by decide +kernel
theorem dX6_again_14 : decode cX6_again 14 = .ok (.invokestatic 112, 3) := by decide +kernel
theorem dX6_again_17 : decode cX6_again 17 = .ok (.ifCond .ne 6, 3) := by decide +kernel
theorem dX6_again_20 : decode cX6_again 20 = .ok (.bipush (-3), 2) := by decide +kernel
theorem dX6_again_22 : decode cX6_again 22 = .ok (.ireturn, 1) := by decide +kernel
theorem dX6_again_23 : decode cX6_again 23 = .ok (.aload_n 0, 1) := by decide +kernel
theorem dX6_again_24 : decode cX6_again 24 = .ok (.getfield 26, 3) := by decide +kernel
theorem dX6_again_27 : decode cX6_again 27 = .ok (.aload_n 0, 1) := by decide +kernel
theorem dX6_again_28 : decode cX6_again 28 = .ok (.getfield 40, 3) := by decide +kernel
theorem dX6_again_31 : decode cX6_again 31 = .ok (.iload_n 1, 1) := by decide +kernel
theorem dX6_again_32 : decode cX6_again 32 = .ok (.aaload, 1) := by decide +kernel
theorem dX6_again_33 : decode cX6_again 33 = .ok (.invokevirtual 203, 3) := by decide +kernel
theorem dX6_again_36 : decode cX6_again 36 = .ok (.aload_n 0, 1) := by decide +kernel
theorem dX6_again_37 : decode cX6_again 37 = .ok (.getfield 36, 3) := by decide +kernel
theorem dX6_again_40 : decode cX6_again 40 = .ok (.invokevirtual 81, 3) := by decide +kernel
theorem dX6_again_43 : decode cX6_again 43 = .ok (.aload_n 0, 1) := by decide +kernel
theorem dX6_again_44 : decode cX6_again 44 = .ok (.getfield 26, 3) := by decide +kernel
theorem dX6_again_47 : decode cX6_again 47 = .ok (.getfield 148, 3) := by decide +kernel
theorem dX6_again_50 : decode cX6_again 50 = .ok (.ireturn, 1) := by decide +kernel
theorem dX6_count_0 : decode cX6_count 0 = .ok (.iload_n 1, 1) := by decide +kernel
theorem dX6_count_1 : decode cX6_count 1 = .ok (.tableswitch 164 0 11 #[63, 68, 76, 86, 96, 106, 116, 124, 132, 140, 148, 156], 63) := by decide +kernel
theorem dX6_count_64 : decode cX6_count 64 = .ok (.aload_n 0, 1) := by decide +kernel
theorem dX6_count_65 : decode cX6_count 65 = .ok (.getfield 69, 3) := by decide +kernel
theorem dX6_count_68 : decode cX6_count 68 = .ok (.ireturn, 1) := by decide +kernel
theorem dX6_count_69 : decode cX6_count 69 = .ok (.aload_n 0, 1) := by decide +kernel
theorem dX6_count_70 : decode cX6_count 70 = .ok (.getfield 16, 3) := by decide +kernel
theorem dX6_count_73 : decode cX6_count 73 = .ok (.getfield 96, 3) := by decide +kernel
theorem dX6_count_76 : decode cX6_count 76 = .ok (.ireturn, 1) := by decide +kernel
theorem dX6_count_77 : decode cX6_count 77 = .ok (.aload_n 0, 1) := by decide +kernel
theorem dX6_count_78 : decode cX6_count 78 = .ok (.getfield 16, 3) := by decide +kernel
theorem dX6_count_81 : decode cX6_count 81 = .ok (.getfield 87, 3) := by decide +kernel
theorem dX6_count_84 : decode cX6_count 84 = .ok (.iconst 1, 1) := by decide +kernel
theorem dX6_count_85 : decode cX6_count 85 = .ok (.iaload, 1) := by decide +kernel
theorem dX6_count_86 : decode cX6_count 86 = .ok (.ireturn, 1) := by decide +kernel
theorem dX6_count_87 : decode cX6_count 87 = .ok (.aload_n 0, 1) := by decide +kernel
theorem dX6_count_88 : decode cX6_count 88 = .ok (.getfield 16, 3) := by decide +kernel
theorem dX6_count_91 : decode cX6_count 91 = .ok (.getfield 87, 3) := by decide +kernel
theorem dX6_count_94 : decode cX6_count 94 = .ok (.iconst 2, 1) := by decide +kernel
theorem dX6_count_95 : decode cX6_count 95 = .ok (.iaload, 1) := by decide +kernel
theorem dX6_count_96 : decode cX6_count 96 = .ok (.ireturn, 1) := by decide +kernel
theorem dX6_count_97 : decode cX6_count 97 = .ok (.aload_n 0, 1) := by decide +kernel
theorem dX6_count_98 : decode cX6_count 98 = .ok (.getfield 16, 3) := by decide +kernel
theorem dX6_count_101 : decode cX6_count 101 = .ok (.getfield 87, 3) := by decide +kernel
theorem dX6_count_104 : decode cX6_count 104 = .ok (.iconst 3, 1) := by decide +kernel
theorem dX6_count_105 : decode cX6_count 105 = .ok (.iaload, 1) := by decide +kernel
theorem dX6_count_106 : decode cX6_count 106 = .ok (.ireturn, 1) := by decide +kernel
theorem dX6_count_107 : decode cX6_count 107 = .ok (.aload_n 0, 1) := by decide +kernel
theorem dX6_count_108 : decode cX6_count 108 = .ok (.getfield 16, 3) := by decide +kernel
theorem dX6_count_111 : decode cX6_count 111 = .ok (.getfield 87, 3) := by decide +kernel
theorem dX6_count_114 : decode cX6_count 114 = .ok (.iconst 4, 1) := by decide +kernel
theorem dX6_count_115 : decode cX6_count 115 = .ok (.iaload, 1) := by decide +kernel
theorem dX6_count_116 : decode cX6_count 116 = .ok (.ireturn, 1) := by decide +kernel
theorem dX6_count_117 : decode cX6_count 117 = .ok (.aload_n 0, 1) := by decide +kernel
theorem dX6_count_118 : decode cX6_count 118 = .ok (.getfield 26, 3) := by decide +kernel
theorem dX6_count_121 : decode cX6_count 121 = .ok (.getfield 269, 3) := by decide +kernel
theorem dX6_count_124 : decode cX6_count 124 = .ok (.ireturn, 1) := by decide +kernel
theorem dX6_count_125 : decode cX6_count 125 = .ok (.aload_n 0, 1) := by decide +kernel
theorem dX6_count_126 : decode cX6_count 126 = .ok (.getfield 26, 3) := by decide +kernel
theorem dX6_count_129 : decode cX6_count 129 = .ok (.getfield 109, 3) := by decide +kernel
theorem dX6_count_132 : decode cX6_count 132 = .ok (.ireturn, 1) := by decide +kernel
theorem dX6_count_133 : decode cX6_count 133 = .ok (.aload_n 0, 1) := by decide +kernel
theorem dX6_count_134 : decode cX6_count 134 = .ok (.getfield 26, 3) := by decide +kernel
theorem dX6_count_137 : decode cX6_count 137 = .ok (.getfield 116, 3) := by decide +kernel
theorem dX6_count_140 : decode cX6_count 140 = .ok (.ireturn, 1) := by decide +kernel
theorem dX6_count_141 : decode cX6_count 141 = .ok (.aload_n 0, 1) := by decide +kernel
theorem dX6_count_142 : decode cX6_count 142 = .ok (.getfield 26, 3) := by decide +kernel
theorem dX6_count_145 : decode cX6_count 145 = .ok (.getfield 148, 3) := by decide +kernel
theorem dX6_count_148 : decode cX6_count 148 = .ok (.ireturn, 1) := by decide +kernel
theorem dX6_count_149 : decode cX6_count 149 = .ok (.aload_n 0, 1) := by decide +kernel
theorem dX6_count_150 : decode cX6_count 150 = .ok (.getfield 36, 3) := by decide +kernel
theorem dX6_count_153 : decode cX6_count 153 = .ok (.getfield 272, 3) := by decide +kernel
theorem dX6_count_156 : decode cX6_count 156 = .ok (.ireturn, 1) := by decide +kernel
theorem dX6_count_157 : decode cX6_count 157 = .ok (.aload_n 0, 1) := by decide +kernel
theorem dX6_count_158 : decode cX6_count 158 = .ok (.getfield 47, 3) := by decide +kernel
theorem dX6_count_161 : decode cX6_count 161 = .ok (.getfield 213, 3) := by decide +kernel
theorem dX6_count_164 : decode cX6_count 164 = .ok (.ireturn, 1) := by decide +kernel
theorem dX6_count_165 : decode cX6_count 165 = .ok (.bipush (-2), 2) := by decide +kernel
theorem dX6_count_167 : decode cX6_count 167 = .ok (.ireturn, 1) := by decide +kernel
set_option maxRecDepth 20000 in
theorem ggX6_readText_X5_clear : GoodIn wsX6_readText wsX5_clear := goodIn_r _ [8, 9, 10, 11, 70, 71, 72, 73, 74] (by decide +kernel) (by decide +kernel)
set_option maxRecDepth 20000 in
theorem gX6_readText_X5_clear : GoodIn wsX6_readText (wsV RX6 273 RX5 yX5_clear wsX5_clear) := goodIn_app (goodIn_of _ (by decide +kernel)) ggX6_readText_X5_clear
set_option maxRecDepth 20000 in
theorem ggX6_readText_X6_partTold : GoodIn wsX6_readText wsX6_partTold := goodIn_r _ [15] (by decide +kernel) (by decide +kernel)
set_option maxRecDepth 20000 in
theorem gX6_readText_X6_partTold : GoodIn wsX6_readText (va_wsS RX6 276 yX6_partTold wsX6_partTold) := goodIn_app (goodIn_of _ (by decide +kernel)) ggX6_readText_X6_partTold
set_option maxRecDepth 20000 in
theorem ggX6_readText_X5_hasRoom : GoodIn wsX6_readText wsX5_hasRoom := goodIn_r _ [19, 9, 20, 21, 22, 23, 24, 25, 26, 70, 71, 72, 73, 74] (by decide +kernel) (by decide +kernel)
set_option maxRecDepth 20000 in
theorem gX6_readText_X5_hasRoom : GoodIn wsX6_readText (wsV RX6 279 RX5 yX5_hasRoom wsX5_hasRoom) := goodIn_app (goodIn_of _ (by decide +kernel)) ggX6_readText_X5_hasRoom
set_option maxRecDepth 20000 in
theorem ggX6_readText_X6_readPart : GoodIn wsX6_readText wsX6_readPart := goodIn_r _ [30, 2, 3, 1, 31, 32, 14, 33, 34, 35, 36, 7, 37, 9, 38, 39, 40, 41, 42, 43, 44, 45, 46, 47, 10, 48, 49, 50, 51, 52, 53, 11, 54, 55, 56, 57, 58, 59, 60, 61, 62, 63, 64, 65, 66, 67, 68, 69, 70, 71, 72, 73, 74] (by decide +kernel) (by decide +kernel)
set_option maxRecDepth 20000 in
theorem gX6_readText_X6_readPart : GoodIn wsX6_readText (wsV RX6 282 RX6 yX6_readPart wsX6_readPart) := goodIn_app (goodIn_of _ (by decide +kernel)) ggX6_readText_X6_readPart
theorem dX6_readText_0 : decode cX6_readText 0 = .ok (.aload_n 0, 1) := by decide +kernel
theorem dX6_readText_1 : decode cX6_readText 1 = .ok (.getfield 20, 3) := by decide +kernel
theorem dX6_readText_4 : decode cX6_readText 4 = .ok (.invokevirtual 273, 3) := by decide +kernel
theorem dX6_readText_7 : decode cX6_readText 7 = .ok (.aload_n 0, 1) := by decide +kernel
theorem dX6_readText_8 : decode cX6_readText 8 = .ok (.getfield 69, 3) := by decide +kernel
theorem dX6_readText_11 : decode cX6_readText 11 = .ok (.ifCond .eq 14, 3) := by decide +kernel
theorem dX6_readText_14 : decode cX6_readText 14 = .ok (.aload_n 0, 1) := by decide +kernel
theorem dX6_readText_15 : decode cX6_readText 15 = .ok (.getfield 9, 3) := by decide +kernel
theorem dX6_readText_18 : decode cX6_readText 18 = .ok (.iconst 0, 1) := by decide +kernel
theorem dX6_readText_19 : decode cX6_readText 19 = .ok (.caload, 1) := by decide +kernel
theorem dX6_readText_20 : decode cX6_readText 20 = .ok (.bipush 84, 2) := by decide +kernel
theorem dX6_readText_22 : decode cX6_readText 22 = .ok (.if_icmp .eq 5, 3) := by decide +kernel
theorem dX6_readText_25 : decode cX6_readText 25 = .ok (.iconst 0, 1) := by decide +kernel
theorem dX6_readText_26 : decode cX6_readText 26 = .ok (.ireturn, 1) := by decide +kernel
theorem dX6_readText_27 : decode cX6_readText 27 = .ok (.iconst 1, 1) := by decide +kernel
theorem dX6_readText_28 : decode cX6_readText 28 = .ok (.istore_n 1, 1) := by decide +kernel
theorem dX6_readText_29 : decode cX6_readText 29 = .ok (.iload_n 1, 1) := by decide +kernel
theorem dX6_readText_30 : decode cX6_readText 30 = .ok (.aload_n 0, 1) := by decide +kernel
theorem dX6_readText_31 : decode cX6_readText 31 = .ok (.getfield 69, 3) := by decide +kernel
theorem dX6_readText_34 : decode cX6_readText 34 = .ok (.if_icmp .ge 72, 3) := by decide +kernel
theorem dX6_readText_37 : decode cX6_readText 37 = .ok (.aload_n 0, 1) := by decide +kernel
theorem dX6_readText_38 : decode cX6_readText 38 = .ok (.getfield 9, 3) := by decide +kernel
theorem dX6_readText_41 : decode cX6_readText 41 = .ok (.iload_n 1, 1) := by decide +kernel
theorem dX6_readText_42 : decode cX6_readText 42 = .ok (.caload, 1) := by decide +kernel
theorem dX6_readText_43 : decode cX6_readText 43 = .ok (.invokestatic 276, 3) := by decide +kernel
theorem dX6_readText_46 : decode cX6_readText 46 = .ok (.istore_n 2, 1) := by decide +kernel
theorem dX6_readText_47 : decode cX6_readText 47 = .ok (.iload_n 2, 1) := by decide +kernel
theorem dX6_readText_48 : decode cX6_readText 48 = .ok (.ifCond .lt 14, 3) := by decide +kernel
theorem dX6_readText_51 : decode cX6_readText 51 = .ok (.aload_n 0, 1) := by decide +kernel
theorem dX6_readText_52 : decode cX6_readText 52 = .ok (.getfield 20, 3) := by decide +kernel
theorem dX6_readText_55 : decode cX6_readText 55 = .ok (.iload_n 2, 1) := by decide +kernel
theorem dX6_readText_56 : decode cX6_readText 56 = .ok (.invokevirtual 279, 3) := by decide +kernel
theorem dX6_readText_59 : decode cX6_readText 59 = .ok (.ifCond .ne 5, 3) := by decide +kernel
theorem dX6_readText_62 : decode cX6_readText 62 = .ok (.iload_n 1, 1) := by decide +kernel
theorem dX6_readText_63 : decode cX6_readText 63 = .ok (.ireturn, 1) := by decide +kernel
theorem dX6_readText_64 : decode cX6_readText 64 = .ok (.iload_n 2, 1) := by decide +kernel
theorem dX6_readText_65 : decode cX6_readText 65 = .ok (.ifCond .ne 9, 3) := by decide +kernel
theorem dX6_readText_68 : decode cX6_readText 68 = .ok (.iload_n 1, 1) := by decide +kernel
theorem dX6_readText_69 : decode cX6_readText 69 = .ok (.iconst 2, 1) := by decide +kernel
theorem dX6_readText_70 : decode cX6_readText 70 = .ok (.iadd, 1) := by decide +kernel
theorem dX6_readText_71 : decode cX6_readText 71 = .ok (.goto 6, 3) := by decide +kernel
theorem dX6_readText_74 : decode cX6_readText 74 = .ok (.iload_n 1, 1) := by decide +kernel
theorem dX6_readText_75 : decode cX6_readText 75 = .ok (.iconst 1, 1) := by decide +kernel
theorem dX6_readText_76 : decode cX6_readText 76 = .ok (.iadd, 1) := by decide +kernel
theorem dX6_readText_77 : decode cX6_readText 77 = .ok (.istore_n 3, 1) := by decide +kernel
theorem dX6_readText_78 : decode cX6_readText 78 = .ok (.aload_n 0, 1) := by decide +kernel
theorem dX6_readText_79 : decode cX6_readText 79 = .ok (.iload_n 2, 1) := by decide +kernel
theorem dX6_readText_80 : decode cX6_readText 80 = .ok (.iload_n 1, 1) := by decide +kernel
theorem dX6_readText_81 : decode cX6_readText 81 = .ok (.iconst 1, 1) := by decide +kernel
theorem dX6_readText_82 : decode cX6_readText 82 = .ok (.iadd, 1) := by decide +kernel
theorem dX6_readText_83 : decode cX6_readText 83 = .ok (.iload_n 3, 1) := by decide +kernel
theorem dX6_readText_84 : decode cX6_readText 84 = .ok (.invokevirtual 282, 3) := by decide +kernel
theorem dX6_readText_87 : decode cX6_readText 87 = .ok (.istore 4, 2) := by decide +kernel
theorem dX6_readText_89 : decode cX6_readText 89 = .ok (.iload 4, 2) := by decide +kernel
theorem dX6_readText_91 : decode cX6_readText 91 = .ok (.bipush (-9), 2) := by decide +kernel
theorem dX6_readText_93 : decode cX6_readText 93 = .ok (.if_icmp .eq 6, 3) := by decide +kernel
theorem dX6_readText_96 : decode cX6_readText 96 = .ok (.iload 4, 2) := by decide +kernel
theorem dX6_readText_98 : decode cX6_readText 98 = .ok (.ireturn, 1) := by decide +kernel
theorem dX6_readText_99 : decode cX6_readText 99 = .ok (.iload_n 3, 1) := by decide +kernel
theorem dX6_readText_100 : decode cX6_readText 100 = .ok (.iconst 1, 1) := by decide +kernel
theorem dX6_readText_101 : decode cX6_readText 101 = .ok (.iadd, 1) := by decide +kernel
theorem dX6_readText_102 : decode cX6_readText 102 = .ok (.istore_n 1, 1) := by decide +kernel
theorem dX6_readText_103 : decode cX6_readText 103 = .ok (.goto (-74), 3) := by decide +kernel
theorem dX6_readText_106 : decode cX6_readText 106 = .ok (.bipush (-9), 2) := by decide +kernel
theorem dX6_readText_108 : decode cX6_readText 108 = .ok (.ireturn, 1) := by decide +kernel
set_option maxRecDepth 20000 in
theorem ggX6_readPart_X6_isCell : GoodIn wsX6_readPart wsX6_isCell := goodIn_r _ [7] (by decide +kernel) (by decide +kernel)
set_option maxRecDepth 20000 in
theorem gX6_readPart_X6_isCell : GoodIn wsX6_readPart (va_wsS RX6 99 yX6_isCell wsX6_isCell) := goodIn_app (goodIn_of _ (by decide +kernel)) ggX6_readPart_X6_isCell
set_option maxRecDepth 20000 in
theorem ggX6_readPart_X5_isUntold : GoodIn wsX6_readPart wsX5_isUntold := goodIn_r _ [12, 13, 14, 6, 15, 16, 17, 18, 11, 19, 48, 49, 50, 51, 52] (by decide +kernel) (by decide +kernel)
set_option maxRecDepth 20000 in
theorem gX6_readPart_X5_isUntold : GoodIn wsX6_readPart (wsV RX6 285 RX5 yX5_isUntold wsX5_isUntold) := goodIn_app (goodIn_of _ (by decide +kernel)) ggX6_readPart_X5_isUntold
set_option maxRecDepth 20000 in
theorem ggX6_readPart_X5_tell : GoodIn wsX6_readPart wsX5_tell := goodIn_r _ [23, 13, 24, 25, 26, 27, 28, 29, 11, 30, 31, 32, 6, 33, 48, 49, 50, 51, 52] (by decide +kernel) (by decide +kernel)
set_option maxRecDepth 20000 in
theorem gX6_readPart_X5_tell : GoodIn wsX6_readPart (wsV RX6 288 RX5 yX5_tell wsX5_tell) := goodIn_app (goodIn_of _ (by decide +kernel)) ggX6_readPart_X5_tell
theorem dX6_readPart_0 : decode cX6_readPart 0 = .ok (.iload_n 2, 1) := by decide +kernel
theorem dX6_readPart_1 : decode cX6_readPart 1 = .ok (.aload_n 0, 1) := by decide +kernel
theorem dX6_readPart_2 : decode cX6_readPart 2 = .ok (.getfield 69, 3) := by decide +kernel
theorem dX6_readPart_5 : decode cX6_readPart 5 = .ok (.if_icmp .lt 8, 3) := by decide +kernel
theorem dX6_readPart_8 : decode cX6_readPart 8 = .ok (.aload_n 0, 1) := by decide +kernel
theorem dX6_readPart_9 : decode cX6_readPart 9 = .ok (.getfield 69, 3) := by decide +kernel
theorem dX6_readPart_12 : decode cX6_readPart 12 = .ok (.ireturn, 1) := by decide +kernel
theorem dX6_readPart_13 : decode cX6_readPart 13 = .ok (.aload_n 0, 1) := by decide +kernel
theorem dX6_readPart_14 : decode cX6_readPart 14 = .ok (.getfield 9, 3) := by decide +kernel
theorem dX6_readPart_17 : decode cX6_readPart 17 = .ok (.iload_n 2, 1) := by decide +kernel
theorem dX6_readPart_18 : decode cX6_readPart 18 = .ok (.caload, 1) := by decide +kernel
theorem dX6_readPart_19 : decode cX6_readPart 19 = .ok (.bipush 97, 2) := by decide +kernel
theorem dX6_readPart_21 : decode cX6_readPart 21 = .ok (.isub, 1) := by decide +kernel
theorem dX6_readPart_22 : decode cX6_readPart 22 = .ok (.istore 4, 2) := by decide +kernel
theorem dX6_readPart_24 : decode cX6_readPart 24 = .ok (.iload 4, 2) := by decide +kernel
theorem dX6_readPart_26 : decode cX6_readPart 26 = .ok (.invokestatic 99, 3) := by decide +kernel
theorem dX6_readPart_29 : decode cX6_readPart 29 = .ok (.ifCond .eq 15, 3) := by decide +kernel
theorem dX6_readPart_32 : decode cX6_readPart 32 = .ok (.aload_n 0, 1) := by decide +kernel
theorem dX6_readPart_33 : decode cX6_readPart 33 = .ok (.getfield 20, 3) := by decide +kernel
theorem dX6_readPart_36 : decode cX6_readPart 36 = .ok (.iload 4, 2) := by decide +kernel
theorem dX6_readPart_38 : decode cX6_readPart 38 = .ok (.invokevirtual 285, 3) := by decide +kernel
theorem dX6_readPart_41 : decode cX6_readPart 41 = .ok (.ifCond .ne 5, 3) := by decide +kernel
theorem dX6_readPart_44 : decode cX6_readPart 44 = .ok (.iload_n 2, 1) := by decide +kernel
theorem dX6_readPart_45 : decode cX6_readPart 45 = .ok (.ireturn, 1) := by decide +kernel
theorem dX6_readPart_46 : decode cX6_readPart 46 = .ok (.iconst 0, 1) := by decide +kernel
theorem dX6_readPart_47 : decode cX6_readPart 47 = .ok (.istore 5, 2) := by decide +kernel
theorem dX6_readPart_49 : decode cX6_readPart 49 = .ok (.iload_n 3, 1) := by decide +kernel
theorem dX6_readPart_50 : decode cX6_readPart 50 = .ok (.iload_n 2, 1) := by decide +kernel
theorem dX6_readPart_51 : decode cX6_readPart 51 = .ok (.if_icmp .le 40, 3) := by decide +kernel
theorem dX6_readPart_54 : decode cX6_readPart 54 = .ok (.iload_n 3, 1) := by decide +kernel
theorem dX6_readPart_55 : decode cX6_readPart 55 = .ok (.aload_n 0, 1) := by decide +kernel
theorem dX6_readPart_56 : decode cX6_readPart 56 = .ok (.getfield 69, 3) := by decide +kernel
theorem dX6_readPart_59 : decode cX6_readPart 59 = .ok (.if_icmp .lt 8, 3) := by decide +kernel
theorem dX6_readPart_62 : decode cX6_readPart 62 = .ok (.aload_n 0, 1) := by decide +kernel
theorem dX6_readPart_63 : decode cX6_readPart 63 = .ok (.getfield 69, 3) := by decide +kernel
theorem dX6_readPart_66 : decode cX6_readPart 66 = .ok (.ireturn, 1) := by decide +kernel
theorem dX6_readPart_67 : decode cX6_readPart 67 = .ok (.aload_n 0, 1) := by decide +kernel
theorem dX6_readPart_68 : decode cX6_readPart 68 = .ok (.getfield 9, 3) := by decide +kernel
theorem dX6_readPart_71 : decode cX6_readPart 71 = .ok (.iload_n 3, 1) := by decide +kernel
theorem dX6_readPart_72 : decode cX6_readPart 72 = .ok (.caload, 1) := by decide +kernel
theorem dX6_readPart_73 : decode cX6_readPart 73 = .ok (.bipush 48, 2) := by decide +kernel
theorem dX6_readPart_75 : decode cX6_readPart 75 = .ok (.isub, 1) := by decide +kernel
theorem dX6_readPart_76 : decode cX6_readPart 76 = .ok (.istore 5, 2) := by decide +kernel
theorem dX6_readPart_78 : decode cX6_readPart 78 = .ok (.iload 5, 2) := by decide +kernel
theorem dX6_readPart_80 : decode cX6_readPart 80 = .ok (.ifCond .lt 9, 3) := by decide +kernel
theorem dX6_readPart_83 : decode cX6_readPart 83 = .ok (.iload 5, 2) := by decide +kernel
theorem dX6_readPart_85 : decode cX6_readPart 85 = .ok (.iconst 4, 1) := by decide +kernel
theorem dX6_readPart_86 : decode cX6_readPart 86 = .ok (.if_icmp .lt 5, 3) := by decide +kernel
theorem dX6_readPart_89 : decode cX6_readPart 89 = .ok (.iload_n 3, 1) := by decide +kernel
theorem dX6_readPart_90 : decode cX6_readPart 90 = .ok (.ireturn, 1) := by decide +kernel
theorem dX6_readPart_91 : decode cX6_readPart 91 = .ok (.aload_n 0, 1) := by decide +kernel
theorem dX6_readPart_92 : decode cX6_readPart 92 = .ok (.getfield 20, 3) := by decide +kernel
theorem dX6_readPart_95 : decode cX6_readPart 95 = .ok (.iload_n 1, 1) := by decide +kernel
theorem dX6_readPart_96 : decode cX6_readPart 96 = .ok (.iload 4, 2) := by decide +kernel
theorem dX6_readPart_98 : decode cX6_readPart 98 = .ok (.iload 5, 2) := by decide +kernel
theorem dX6_readPart_100 : decode cX6_readPart 100 = .ok (.invokevirtual 288, 3) := by decide +kernel
theorem dX6_readPart_103 : decode cX6_readPart 103 = .ok (.bipush (-9), 2) := by decide +kernel
theorem dX6_readPart_105 : decode cX6_readPart 105 = .ok (.ireturn, 1) := by decide +kernel
theorem dX6_partTold_0 : decode cX6_partTold 0 = .ok (.iload_n 0, 1) := by decide +kernel
theorem dX6_partTold_1 : decode cX6_partTold 1 = .ok (.lookupswitch 61 #[(70, 57), (77, 51), (78, 59), (79, 55), (87, 53)], 51) := by decide +kernel
theorem dX6_partTold_52 : decode cX6_partTold 52 = .ok (.iconst 0, 1) := by decide +kernel
theorem dX6_partTold_53 : decode cX6_partTold 53 = .ok (.ireturn, 1) := by decide +kernel
theorem dX6_partTold_54 : decode cX6_partTold 54 = .ok (.iconst 1, 1) := by decide +kernel
theorem dX6_partTold_55 : decode cX6_partTold 55 = .ok (.ireturn, 1) := by decide +kernel
theorem dX6_partTold_56 : decode cX6_partTold 56 = .ok (.iconst 2, 1) := by decide +kernel
theorem dX6_partTold_57 : decode cX6_partTold 57 = .ok (.ireturn, 1) := by decide +kernel
theorem dX6_partTold_58 : decode cX6_partTold 58 = .ok (.iconst 3, 1) := by decide +kernel
theorem dX6_partTold_59 : decode cX6_partTold 59 = .ok (.ireturn, 1) := by decide +kernel
theorem dX6_partTold_60 : decode cX6_partTold 60 = .ok (.iconst 4, 1) := by decide +kernel
theorem dX6_partTold_61 : decode cX6_partTold 61 = .ok (.ireturn, 1) := by decide +kernel
theorem dX6_partTold_62 : decode cX6_partTold 62 = .ok (.bipush (-9), 2) := by decide +kernel
theorem dX6_partTold_64 : decode cX6_partTold 64 = .ok (.ireturn, 1) := by decide +kernel
set_option maxRecDepth 20000 in
theorem ggX6_tryTilt_X4_take : GoodIn wsX6_tryTilt wsX4_take := goodIn_r _ [8, 9, 10, 11, 12, 13, 76, 77, 78, 79, 80] (by decide +kernel) (by decide +kernel)
set_option maxRecDepth 20000 in
theorem gX6_tryTilt_X4_take : GoodIn wsX6_tryTilt (wsV RX6 203 RX4 yX4_take wsX4_take) := goodIn_app (goodIn_of _ (by decide +kernel)) ggX6_tryTilt_X4_take
set_option maxRecDepth 20000 in
theorem ggX6_tryTilt_X5_roll : GoodIn wsX6_tryTilt wsX5_roll := goodIn_r _ [18, 19, 20, 21, 22, 23, 17, 24, 25, 26, 27, 28, 29, 30, 31, 32, 33, 34, 35, 36, 37, 38, 39, 40, 41, 42, 43, 44, 45, 46, 47, 48, 49, 50, 51, 52, 7, 53, 10, 9, 11, 54, 55, 56, 57, 58, 59, 60, 61, 81, 82, 83, 84, 85, 76, 77, 78, 79, 80] (by decide +kernel) (by decide +kernel)
set_option maxRecDepth 20000 in
theorem gX6_tryTilt_X5_roll : GoodIn wsX6_tryTilt (wsV RX6 144 RX5 yX5_roll wsX5_roll) := goodIn_app (goodIn_of _ (by decide +kernel)) ggX6_tryTilt_X5_roll
theorem dX6_tryTilt_0 : decode cX6_tryTilt 0 = .ok (.aload_n 0, 1) := by decide +kernel
theorem dX6_tryTilt_1 : decode cX6_tryTilt 1 = .ok (.getfield 30, 3) := by decide +kernel
theorem dX6_tryTilt_4 : decode cX6_tryTilt 4 = .ok (.aload_n 0, 1) := by decide +kernel
theorem dX6_tryTilt_5 : decode cX6_tryTilt 5 = .ok (.getfield 26, 3) := by decide +kernel
theorem dX6_tryTilt_8 : decode cX6_tryTilt 8 = .ok (.invokevirtual 203, 3) := by decide +kernel
theorem dX6_tryTilt_11 : decode cX6_tryTilt 11 = .ok (.aload_n 0, 1) := by decide +kernel
theorem dX6_tryTilt_12 : decode cX6_tryTilt 12 = .ok (.getfield 16, 3) := by decide +kernel
theorem dX6_tryTilt_15 : decode cX6_tryTilt 15 = .ok (.aload_n 0, 1) := by decide +kernel
theorem dX6_tryTilt_16 : decode cX6_tryTilt 16 = .ok (.getfield 30, 3) := by decide +kernel
theorem dX6_tryTilt_19 : decode cX6_tryTilt 19 = .ok (.iload_n 1, 1) := by decide +kernel
theorem dX6_tryTilt_20 : decode cX6_tryTilt 20 = .ok (.invokevirtual 144, 3) := by decide +kernel
theorem dX6_tryTilt_23 : decode cX6_tryTilt 23 = .ok (.return_, 1) := by decide +kernel
set_option maxRecDepth 20000 in
theorem ggX6_restOf_X6_tryTilt : GoodIn wsX6_restOf wsX6_tryTilt := goodIn_r _ [7, 1, 8, 9, 10, 11, 12, 13, 14, 15, 16, 17, 18, 19, 20, 21, 22, 23, 24, 25, 26, 27, 28, 29, 30, 31, 32, 33, 6, 34, 35, 36, 37, 38, 39, 40, 41, 42, 43, 44, 45, 46, 47, 48, 49, 50, 51, 52, 53, 54, 55, 56, 57, 58, 59, 60, 61, 62, 63, 64, 65, 66, 67, 68, 69, 70, 71, 72, 73, 74, 75, 76, 77, 78, 79, 80, 81, 82, 83, 84, 85, 86, 87, 88, 89, 90] (by decide +kernel) (by decide +kernel)
set_option maxRecDepth 20000 in
theorem gX6_restOf_X6_tryTilt : GoodIn wsX6_restOf (wsV RX6 173 RX6 yX6_tryTilt wsX6_tryTilt) := goodIn_app (goodIn_of _ (by decide +kernel)) ggX6_restOf_X6_tryTilt
theorem dX6_restOf_0 : decode cX6_restOf 0 = .ok (.aload_n 0, 1) := by decide +kernel
theorem dX6_restOf_1 : decode cX6_restOf 1 = .ok (.iload_n 2, 1) := by decide +kernel
theorem dX6_restOf_2 : decode cX6_restOf 2 = .ok (.invokevirtual 173, 3) := by decide +kernel
theorem dX6_restOf_5 : decode cX6_restOf 5 = .ok (.aload_n 0, 1) := by decide +kernel
theorem dX6_restOf_6 : decode cX6_restOf 6 = .ok (.getfield 30, 3) := by decide +kernel
theorem dX6_restOf_9 : decode cX6_restOf 9 = .ok (.getfield 125, 3) := by decide +kernel
theorem dX6_restOf_12 : decode cX6_restOf 12 = .ok (.iload_n 1, 1) := by decide +kernel
theorem dX6_restOf_13 : decode cX6_restOf 13 = .ok (.iaload, 1) := by decide +kernel
theorem dX6_restOf_14 : decode cX6_restOf 14 = .ok (.ireturn, 1) := by decide +kernel
set_option maxRecDepth 20000 in
theorem ggX6_waysElsewhere_X6_restOf : GoodIn wsX6_waysElsewhere wsX6_restOf := goodIn_r _ [7, 8, 2, 9, 10, 11, 6, 12, 1, 13, 14, 15, 16, 17, 18, 19, 20, 21, 22, 23, 24, 25, 26, 27, 28, 29, 30, 31, 32, 33, 34, 35, 36, 37, 38, 39, 40, 41, 42, 43, 44, 45, 46, 47, 48, 49, 50, 51, 52, 53, 54, 55, 56, 57, 58, 59, 60, 61, 62, 63, 64, 65, 66, 67, 68, 69, 70, 71, 72, 73, 74, 75, 76, 77, 78, 79, 80, 81, 82, 83, 84, 85, 86, 87, 88, 89, 90, 91, 92, 93, 94] (by decide +kernel) (by decide +kernel)
set_option maxRecDepth 20000 in
theorem gX6_waysElsewhere_X6_restOf : GoodIn wsX6_waysElsewhere (wsV RX6 170 RX6 yX6_restOf wsX6_restOf) := goodIn_app (goodIn_of _ (by decide +kernel)) ggX6_waysElsewhere_X6_restOf
theorem dX6_waysElsewhere_0 : decode cX6_waysElsewhere 0 = .ok (.iconst 0, 1) := by decide +kernel
theorem dX6_waysElsewhere_1 : decode cX6_waysElsewhere 1 = .ok (.istore_n 2, 1) := by decide +kernel
theorem dX6_waysElsewhere_2 : decode cX6_waysElsewhere 2 = .ok (.iconst 0, 1) := by decide +kernel
theorem dX6_waysElsewhere_3 : decode cX6_waysElsewhere 3 = .ok (.istore_n 3, 1) := by decide +kernel
theorem dX6_waysElsewhere_4 : decode cX6_waysElsewhere 4 = .ok (.iload_n 3, 1) := by decide +kernel
theorem dX6_waysElsewhere_5 : decode cX6_waysElsewhere 5 = .ok (.iconst 4, 1) := by decide +kernel
theorem dX6_waysElsewhere_6 : decode cX6_waysElsewhere 6 = .ok (.if_icmp .ge 33, 3) := by decide +kernel
theorem dX6_waysElsewhere_9 : decode cX6_waysElsewhere 9 = .ok (.aload_n 0, 1) := by decide +kernel
theorem dX6_waysElsewhere_10 : decode cX6_waysElsewhere 10 = .ok (.iload_n 1, 1) := by decide +kernel
theorem dX6_waysElsewhere_11 : decode cX6_waysElsewhere 11 = .ok (.iload_n 3, 1) := by decide +kernel
theorem dX6_waysElsewhere_12 : decode cX6_waysElsewhere 12 = .ok (.invokevirtual 170, 3) := by decide +kernel
theorem dX6_waysElsewhere_15 : decode cX6_waysElsewhere 15 = .ok (.aload_n 0, 1) := by decide +kernel
theorem dX6_waysElsewhere_16 : decode cX6_waysElsewhere 16 = .ok (.getfield 26, 3) := by decide +kernel
theorem dX6_waysElsewhere_19 : decode cX6_waysElsewhere 19 = .ok (.getfield 125, 3) := by decide +kernel
theorem dX6_waysElsewhere_22 : decode cX6_waysElsewhere 22 = .ok (.iload_n 1, 1) := by decide +kernel
theorem dX6_waysElsewhere_23 : decode cX6_waysElsewhere 23 = .ok (.iaload, 1) := by decide +kernel
theorem dX6_waysElsewhere_24 : decode cX6_waysElsewhere 24 = .ok (.if_icmp .eq 9, 3) := by decide +kernel
theorem dX6_waysElsewhere_27 : decode cX6_waysElsewhere 27 = .ok (.iload_n 2, 1) := by decide +kernel
theorem dX6_waysElsewhere_28 : decode cX6_waysElsewhere 28 = .ok (.iconst 1, 1) := by decide +kernel
theorem dX6_waysElsewhere_29 : decode cX6_waysElsewhere 29 = .ok (.iload_n 3, 1) := by decide +kernel
theorem dX6_waysElsewhere_30 : decode cX6_waysElsewhere 30 = .ok (.ishl, 1) := by decide +kernel
theorem dX6_waysElsewhere_31 : decode cX6_waysElsewhere 31 = .ok (.ior, 1) := by decide +kernel
theorem dX6_waysElsewhere_32 : decode cX6_waysElsewhere 32 = .ok (.istore_n 2, 1) := by decide +kernel
theorem dX6_waysElsewhere_33 : decode cX6_waysElsewhere 33 = .ok (.iinc 3 1, 3) := by decide +kernel
theorem dX6_waysElsewhere_36 : decode cX6_waysElsewhere 36 = .ok (.goto (-32), 3) := by decide +kernel
theorem dX6_waysElsewhere_39 : decode cX6_waysElsewhere 39 = .ok (.iload_n 2, 1) := by decide +kernel
theorem dX6_waysElsewhere_40 : decode cX6_waysElsewhere 40 = .ok (.ireturn, 1) := by decide +kernel
set_option maxRecDepth 20000 in
theorem ggX6_waysOfFall_X4_isIn : GoodIn wsX6_waysOfFall wsX4_isIn := goodIn_r _ [6, 7, 89, 90, 91, 92, 93] (by decide +kernel) (by decide +kernel)
set_option maxRecDepth 20000 in
theorem gX6_waysOfFall_X4_isIn : GoodIn wsX6_waysOfFall (wsV RX6 195 RX4 yX4_isIn wsX4_isIn) := goodIn_app (goodIn_of _ (by decide +kernel)) ggX6_waysOfFall_X4_isIn
set_option maxRecDepth 20000 in
theorem ggX6_waysOfFall_X6_restOf : GoodIn wsX6_waysOfFall wsX6_restOf := goodIn_r _ [12, 13, 14, 15, 16, 17, 11, 18, 1, 19, 20, 21, 22, 5, 23, 7, 24, 25, 26, 27, 28, 29, 30, 31, 32, 33, 34, 35, 36, 37, 38, 39, 40, 41, 42, 43, 44, 45, 46, 47, 48, 49, 50, 51, 52, 53, 54, 55, 56, 57, 58, 59, 60, 61, 62, 63, 64, 65, 66, 67, 68, 69, 70, 71, 72, 73, 74, 75, 76, 77, 78, 79, 80, 81, 82, 83, 84, 85, 86, 87, 88, 89, 90, 91, 92, 93, 94, 95, 96, 97, 98] (by decide +kernel) (by decide +kernel)
set_option maxRecDepth 20000 in
theorem gX6_waysOfFall_X6_restOf : GoodIn wsX6_waysOfFall (wsV RX6 170 RX6 yX6_restOf wsX6_restOf) := goodIn_app (goodIn_of _ (by decide +kernel)) ggX6_waysOfFall_X6_restOf
theorem dX6_waysOfFall_0 : decode cX6_waysOfFall 0 = .ok (.iconst 0, 1) := by decide +kernel
theorem dX6_waysOfFall_1 : decode cX6_waysOfFall 1 = .ok (.istore_n 2, 1) := by decide +kernel
theorem dX6_waysOfFall_2 : decode cX6_waysOfFall 2 = .ok (.iconst 0, 1) := by decide +kernel
theorem dX6_waysOfFall_3 : decode cX6_waysOfFall 3 = .ok (.istore_n 3, 1) := by decide +kernel
theorem dX6_waysOfFall_4 : decode cX6_waysOfFall 4 = .ok (.iload_n 3, 1) := by decide +kernel
theorem dX6_waysOfFall_5 : decode cX6_waysOfFall 5 = .ok (.iconst 4, 1) := by decide +kernel
theorem dX6_waysOfFall_6 : decode cX6_waysOfFall 6 = .ok (.if_icmp .ge 37, 3) := by decide +kernel
theorem dX6_waysOfFall_9 : decode cX6_waysOfFall 9 = .ok (.aload_n 0, 1) := by decide +kernel
theorem dX6_waysOfFall_10 : decode cX6_waysOfFall 10 = .ok (.getfield 26, 3) := by decide +kernel
theorem dX6_waysOfFall_13 : decode cX6_waysOfFall 13 = .ok (.iload_n 1, 1) := by decide +kernel
theorem dX6_waysOfFall_14 : decode cX6_waysOfFall 14 = .ok (.invokevirtual 195, 3) := by decide +kernel
theorem dX6_waysOfFall_17 : decode cX6_waysOfFall 17 = .ok (.ifCond .ne 26, 3) := by decide +kernel
theorem dX6_waysOfFall_20 : decode cX6_waysOfFall 20 = .ok (.aload_n 0, 1) := by decide +kernel
theorem dX6_waysOfFall_21 : decode cX6_waysOfFall 21 = .ok (.iload_n 1, 1) := by decide +kernel
theorem dX6_waysOfFall_22 : decode cX6_waysOfFall 22 = .ok (.iload_n 3, 1) := by decide +kernel
theorem dX6_waysOfFall_23 : decode cX6_waysOfFall 23 = .ok (.invokevirtual 170, 3) := by decide +kernel
theorem dX6_waysOfFall_26 : decode cX6_waysOfFall 26 = .ok (.bipush 100, 2) := by decide +kernel
theorem dX6_waysOfFall_28 : decode cX6_waysOfFall 28 = .ok (.if_icmp .lt 9, 3) := by decide +kernel
theorem dX6_waysOfFall_31 : decode cX6_waysOfFall 31 = .ok (.iload_n 2, 1) := by decide +kernel
theorem dX6_waysOfFall_32 : decode cX6_waysOfFall 32 = .ok (.iconst 1, 1) := by decide +kernel
theorem dX6_waysOfFall_33 : decode cX6_waysOfFall 33 = .ok (.iload_n 3, 1) := by decide +kernel
theorem dX6_waysOfFall_34 : decode cX6_waysOfFall 34 = .ok (.ishl, 1) := by decide +kernel
theorem dX6_waysOfFall_35 : decode cX6_waysOfFall 35 = .ok (.ior, 1) := by decide +kernel
theorem dX6_waysOfFall_36 : decode cX6_waysOfFall 36 = .ok (.istore_n 2, 1) := by decide +kernel
theorem dX6_waysOfFall_37 : decode cX6_waysOfFall 37 = .ok (.iinc 3 1, 3) := by decide +kernel
theorem dX6_waysOfFall_40 : decode cX6_waysOfFall 40 = .ok (.goto (-36), 3) := by decide +kernel
theorem dX6_waysOfFall_43 : decode cX6_waysOfFall 43 = .ok (.iload_n 2, 1) := by decide +kernel
theorem dX6_waysOfFall_44 : decode cX6_waysOfFall 44 = .ok (.ireturn, 1) := by decide +kernel
set_option maxRecDepth 20000 in
theorem ggX6_leastSaving_X6_bitOf : GoodIn wsX6_leastSaving wsX6_bitOf := goodIn_r _ [8] (by decide +kernel) (by decide +kernel)
set_option maxRecDepth 20000 in
theorem gX6_leastSaving_X6_bitOf : GoodIn wsX6_leastSaving (va_wsS RX6 112 yX6_bitOf wsX6_bitOf) := goodIn_app (goodIn_of _ (by decide +kernel)) ggX6_leastSaving_X6_bitOf
set_option maxRecDepth 20000 in
theorem ggX6_leastSaving_X5_wedgeRefusal : GoodIn wsX6_leastSaving wsX5_wedgeRefusal := goodIn_r _ [13, 14, 15, 16, 7, 17, 18, 19, 20, 12, 21, 22, 6, 8, 23, 24, 25, 26, 27, 28, 29, 97, 98, 99, 100, 101, 102, 103, 104, 105, 106] (by decide +kernel) (by decide +kernel)
set_option maxRecDepth 20000 in
theorem gX6_leastSaving_X5_wedgeRefusal : GoodIn wsX6_leastSaving (wsV RX6 162 RX5 yX5_wedgeRefusal wsX5_wedgeRefusal) := goodIn_app (goodIn_of _ (by decide +kernel)) ggX6_leastSaving_X5_wedgeRefusal
set_option maxRecDepth 20000 in
theorem ggX6_leastSaving_X4_take : GoodIn wsX6_leastSaving wsX4_take := goodIn_r _ [34, 35, 36, 37, 38, 39, 97, 98, 99, 100, 101] (by decide +kernel) (by decide +kernel)
set_option maxRecDepth 20000 in
theorem gX6_leastSaving_X4_take : GoodIn wsX6_leastSaving (wsV RX6 203 RX4 yX4_take wsX4_take) := goodIn_app (goodIn_of _ (by decide +kernel)) ggX6_leastSaving_X4_take
set_option maxRecDepth 20000 in
theorem ggX6_leastSaving_X5_roll : GoodIn wsX6_leastSaving wsX5_roll := goodIn_r _ [43, 44, 45, 46, 47, 48, 12, 49, 50, 51, 16, 7, 17, 6, 8, 52, 53, 54, 55, 56, 57, 58, 59, 60, 61, 22, 14, 15, 62, 63, 64, 65, 66, 67, 68, 69, 33, 70, 36, 35, 37, 71, 72, 73, 74, 75, 76, 77, 78, 102, 103, 104, 105, 106, 97, 98, 99, 100, 101] (by decide +kernel) (by decide +kernel)
set_option maxRecDepth 20000 in
theorem gX6_leastSaving_X5_roll : GoodIn wsX6_leastSaving (wsV RX6 144 RX5 yX5_roll wsX5_roll) := goodIn_app (goodIn_of _ (by decide +kernel)) ggX6_leastSaving_X5_roll
set_option maxRecDepth 20000 in
theorem ggX6_leastSaving_X4_isIn : GoodIn wsX6_leastSaving wsX4_isIn := goodIn_r _ [82, 35, 97, 98, 99, 100, 101] (by decide +kernel) (by decide +kernel)
set_option maxRecDepth 20000 in
theorem gX6_leastSaving_X4_isIn : GoodIn wsX6_leastSaving (wsV RX6 195 RX4 yX4_isIn wsX4_isIn) := goodIn_app (goodIn_of _ (by decide +kernel)) ggX6_leastSaving_X4_isIn
theorem dX6_leastSaving_0 : decode cX6_leastSaving 0 = .ok (.iconst 0, 1) := by decide +kernel
theorem dX6_leastSaving_1 : decode cX6_leastSaving 1 = .ok (.istore_n 3, 1) := by decide +kernel
theorem dX6_leastSaving_2 : decode cX6_leastSaving 2 = .ok (.iload_n 3, 1) := by decide +kernel
theorem dX6_leastSaving_3 : decode cX6_leastSaving 3 = .ok (.bipush 25, 2) := by decide +kernel
theorem dX6_leastSaving_5 : decode cX6_leastSaving 5 = .ok (.if_icmp .ge 89, 3) := by decide +kernel
theorem dX6_leastSaving_8 : decode cX6_leastSaving 8 = .ok (.aload_n 0, 1) := by decide +kernel
theorem dX6_leastSaving_9 : decode cX6_leastSaving 9 = .ok (.getfield 26, 3) := by decide +kernel
theorem dX6_leastSaving_12 : decode cX6_leastSaving 12 = .ok (.getfield 116, 3) := by decide +kernel
theorem dX6_leastSaving_15 : decode cX6_leastSaving 15 = .ok (.iload_n 3, 1) := by decide +kernel
theorem dX6_leastSaving_16 : decode cX6_leastSaving 16 = .ok (.invokestatic 112, 3) := by decide +kernel
theorem dX6_leastSaving_19 : decode cX6_leastSaving 19 = .ok (.ifCond .ne 69, 3) := by decide +kernel
theorem dX6_leastSaving_22 : decode cX6_leastSaving 22 = .ok (.aload_n 0, 1) := by decide +kernel
theorem dX6_leastSaving_23 : decode cX6_leastSaving 23 = .ok (.getfield 16, 3) := by decide +kernel
theorem dX6_leastSaving_26 : decode cX6_leastSaving 26 = .ok (.aload_n 0, 1) := by decide +kernel
theorem dX6_leastSaving_27 : decode cX6_leastSaving 27 = .ok (.getfield 26, 3) := by decide +kernel
theorem dX6_leastSaving_30 : decode cX6_leastSaving 30 = .ok (.iload_n 3, 1) := by decide +kernel
theorem dX6_leastSaving_31 : decode cX6_leastSaving 31 = .ok (.invokevirtual 162, 3) := by decide +kernel
theorem dX6_leastSaving_34 : decode cX6_leastSaving 34 = .ok (.ifCond .ne 54, 3) := by decide +kernel
theorem dX6_leastSaving_37 : decode cX6_leastSaving 37 = .ok (.aload_n 0, 1) := by decide +kernel
theorem dX6_leastSaving_38 : decode cX6_leastSaving 38 = .ok (.getfield 30, 3) := by decide +kernel
theorem dX6_leastSaving_41 : decode cX6_leastSaving 41 = .ok (.aload_n 0, 1) := by decide +kernel
theorem dX6_leastSaving_42 : decode cX6_leastSaving 42 = .ok (.getfield 26, 3) := by decide +kernel
theorem dX6_leastSaving_45 : decode cX6_leastSaving 45 = .ok (.invokevirtual 203, 3) := by decide +kernel
theorem dX6_leastSaving_48 : decode cX6_leastSaving 48 = .ok (.aload_n 0, 1) := by decide +kernel
theorem dX6_leastSaving_49 : decode cX6_leastSaving 49 = .ok (.getfield 30, 3) := by decide +kernel
theorem dX6_leastSaving_52 : decode cX6_leastSaving 52 = .ok (.dup, 1) := by decide +kernel
theorem dX6_leastSaving_53 : decode cX6_leastSaving 53 = .ok (.getfield 116, 3) := by decide +kernel
theorem dX6_leastSaving_56 : decode cX6_leastSaving 56 = .ok (.iconst 1, 1) := by decide +kernel
theorem dX6_leastSaving_57 : decode cX6_leastSaving 57 = .ok (.iload_n 3, 1) := by decide +kernel
theorem dX6_leastSaving_58 : decode cX6_leastSaving 58 = .ok (.ishl, 1) := by decide +kernel
theorem dX6_leastSaving_59 : decode cX6_leastSaving 59 = .ok (.ior, 1) := by decide +kernel
theorem dX6_leastSaving_60 : decode cX6_leastSaving 60 = .ok (.putfield 116, 3) := by decide +kernel
theorem dX6_leastSaving_63 : decode cX6_leastSaving 63 = .ok (.aload_n 0, 1) := by decide +kernel
theorem dX6_leastSaving_64 : decode cX6_leastSaving 64 = .ok (.getfield 16, 3) := by decide +kernel
theorem dX6_leastSaving_67 : decode cX6_leastSaving 67 = .ok (.aload_n 0, 1) := by decide +kernel
theorem dX6_leastSaving_68 : decode cX6_leastSaving 68 = .ok (.getfield 30, 3) := by decide +kernel
theorem dX6_leastSaving_71 : decode cX6_leastSaving 71 = .ok (.iload_n 2, 1) := by decide +kernel
theorem dX6_leastSaving_72 : decode cX6_leastSaving 72 = .ok (.invokevirtual 144, 3) := by decide +kernel
theorem dX6_leastSaving_75 : decode cX6_leastSaving 75 = .ok (.aload_n 0, 1) := by decide +kernel
theorem dX6_leastSaving_76 : decode cX6_leastSaving 76 = .ok (.getfield 30, 3) := by decide +kernel
theorem dX6_leastSaving_79 : decode cX6_leastSaving 79 = .ok (.iload_n 1, 1) := by decide +kernel
theorem dX6_leastSaving_80 : decode cX6_leastSaving 80 = .ok (.invokevirtual 195, 3) := by decide +kernel
theorem dX6_leastSaving_83 : decode cX6_leastSaving 83 = .ok (.ifCond .ne 5, 3) := by decide +kernel
theorem dX6_leastSaving_86 : decode cX6_leastSaving 86 = .ok (.iload_n 3, 1) := by decide +kernel
theorem dX6_leastSaving_87 : decode cX6_leastSaving 87 = .ok (.ireturn, 1) := by decide +kernel
theorem dX6_leastSaving_88 : decode cX6_leastSaving 88 = .ok (.iinc 3 1, 3) := by decide +kernel
theorem dX6_leastSaving_91 : decode cX6_leastSaving 91 = .ok (.goto (-89), 3) := by decide +kernel
theorem dX6_leastSaving_94 : decode cX6_leastSaving 94 = .ok (.bipush (-9), 2) := by decide +kernel
theorem dX6_leastSaving_96 : decode cX6_leastSaving 96 = .ok (.ireturn, 1) := by decide +kernel
set_option maxRecDepth 20000 in
theorem ggX6_doTold_X6_isWay : GoodIn wsX6_doTold wsX6_isWay := goodIn_r _ [6] (by decide +kernel) (by decide +kernel)
set_option maxRecDepth 20000 in
theorem gX6_doTold_X6_isWay : GoodIn wsX6_doTold (va_wsS RX6 134 yX6_isWay wsX6_isWay) := goodIn_app (goodIn_of _ (by decide +kernel)) ggX6_doTold_X6_isWay
set_option maxRecDepth 20000 in
theorem ggX6_doTold_X5_roll : GoodIn wsX6_doTold wsX5_roll := goodIn_r _ [11, 12, 13, 14, 15, 16, 10, 17, 18, 19, 20, 5, 21, 22, 23, 24, 25, 26, 27, 28, 29, 30, 31, 32, 33, 34, 35, 36, 37, 38, 39, 40, 41, 42, 43, 44, 45, 46, 47, 48, 49, 50, 51, 52, 53, 54, 55, 56, 57, 103, 104, 105, 106, 107, 108, 109, 110, 111, 112] (by decide +kernel) (by decide +kernel)
set_option maxRecDepth 20000 in
theorem gX6_doTold_X5_roll : GoodIn wsX6_doTold (wsV RX6 144 RX5 yX5_roll wsX5_roll) := goodIn_app (goodIn_of _ (by decide +kernel)) ggX6_doTold_X5_roll
set_option maxRecDepth 20000 in
theorem ggX6_doTold_X5_turnWedge : GoodIn wsX6_doTold wsX5_turnWedge := goodIn_r _ [61, 36, 62, 63, 64, 10, 65, 35, 20, 5, 21, 66, 67, 68, 69, 34, 22, 23, 70, 71, 72, 73, 74, 75, 76, 108, 109, 110, 111, 112, 103, 104, 105, 106, 107] (by decide +kernel) (by decide +kernel)
set_option maxRecDepth 20000 in
theorem gX6_doTold_X5_turnWedge : GoodIn wsX6_doTold (wsV RX6 263 RX5 yX5_turnWedge wsX5_turnWedge) := goodIn_app (goodIn_of _ (by decide +kernel)) ggX6_doTold_X5_turnWedge
set_option maxRecDepth 20000 in
theorem ggX6_doTold_X6_isSo : GoodIn wsX6_doTold wsX6_isSo := goodIn_r _ [80, 1, 2, 81, 82, 83, 10, 84, 12, 85, 86, 87, 45, 88, 48, 89, 90, 91, 92, 93, 94, 95, 96, 97, 98, 99, 100, 101, 102, 103, 104, 105, 106, 107, 108, 109, 110, 111, 112] (by decide +kernel) (by decide +kernel)
set_option maxRecDepth 20000 in
theorem gX6_doTold_X6_isSo : GoodIn wsX6_doTold (wsV RX6 292 RX6 yX6_isSo wsX6_isSo) := goodIn_app (goodIn_of _ (by decide +kernel)) ggX6_doTold_X6_isSo
theorem dX6_doTold_0 : decode cX6_doTold 0 = .ok (.iload_n 1, 1) := by decide +kernel
theorem dX6_doTold_1 : decode cX6_doTold 1 = .ok (.bipush 100, 2) := by decide +kernel
theorem dX6_doTold_3 : decode cX6_doTold 3 = .ok (.irem, 1) := by decide +kernel
theorem dX6_doTold_4 : decode cX6_doTold 4 = .ok (.istore_n 2, 1) := by decide +kernel
theorem dX6_doTold_5 : decode cX6_doTold 5 = .ok (.iload_n 1, 1) := by decide +kernel
theorem dX6_doTold_6 : decode cX6_doTold 6 = .ok (.bipush 100, 2) := by decide +kernel
theorem dX6_doTold_8 : decode cX6_doTold 8 = .ok (.idiv, 1) := by decide +kernel
theorem dX6_doTold_9 : decode cX6_doTold 9 = .ok (.tableswitch 76 0 2 #[27, 50, 63], 27) := by decide +kernel
theorem dX6_doTold_36 : decode cX6_doTold 36 = .ok (.iload_n 2, 1) := by decide +kernel
theorem dX6_doTold_37 : decode cX6_doTold 37 = .ok (.invokestatic 134, 3) := by decide +kernel
theorem dX6_doTold_40 : decode cX6_doTold 40 = .ok (.ifCond .ne 5, 3) := by decide +kernel
theorem dX6_doTold_43 : decode cX6_doTold 43 = .ok (.iconst 0, 1) := by decide +kernel
theorem dX6_doTold_44 : decode cX6_doTold 44 = .ok (.ireturn, 1) := by decide +kernel
theorem dX6_doTold_45 : decode cX6_doTold 45 = .ok (.aload_n 0, 1) := by decide +kernel
theorem dX6_doTold_46 : decode cX6_doTold 46 = .ok (.getfield 16, 3) := by decide +kernel
theorem dX6_doTold_49 : decode cX6_doTold 49 = .ok (.aload_n 0, 1) := by decide +kernel
theorem dX6_doTold_50 : decode cX6_doTold 50 = .ok (.getfield 30, 3) := by decide +kernel
theorem dX6_doTold_53 : decode cX6_doTold 53 = .ok (.iload_n 2, 1) := by decide +kernel
theorem dX6_doTold_54 : decode cX6_doTold 54 = .ok (.invokevirtual 144, 3) := by decide +kernel
theorem dX6_doTold_57 : decode cX6_doTold 57 = .ok (.iconst 1, 1) := by decide +kernel
theorem dX6_doTold_58 : decode cX6_doTold 58 = .ok (.ireturn, 1) := by decide +kernel
theorem dX6_doTold_59 : decode cX6_doTold 59 = .ok (.aload_n 0, 1) := by decide +kernel
theorem dX6_doTold_60 : decode cX6_doTold 60 = .ok (.getfield 16, 3) := by decide +kernel
theorem dX6_doTold_63 : decode cX6_doTold 63 = .ok (.aload_n 0, 1) := by decide +kernel
theorem dX6_doTold_64 : decode cX6_doTold 64 = .ok (.getfield 30, 3) := by decide +kernel
theorem dX6_doTold_67 : decode cX6_doTold 67 = .ok (.iload_n 2, 1) := by decide +kernel
theorem dX6_doTold_68 : decode cX6_doTold 68 = .ok (.invokevirtual 263, 3) := by decide +kernel
theorem dX6_doTold_71 : decode cX6_doTold 71 = .ok (.ireturn, 1) := by decide +kernel
theorem dX6_doTold_72 : decode cX6_doTold 72 = .ok (.aload_n 0, 1) := by decide +kernel
theorem dX6_doTold_73 : decode cX6_doTold 73 = .ok (.iload_n 2, 1) := by decide +kernel
theorem dX6_doTold_74 : decode cX6_doTold 74 = .ok (.bipush 10, 2) := by decide +kernel
theorem dX6_doTold_76 : decode cX6_doTold 76 = .ok (.idiv, 1) := by decide +kernel
theorem dX6_doTold_77 : decode cX6_doTold 77 = .ok (.iload_n 2, 1) := by decide +kernel
theorem dX6_doTold_78 : decode cX6_doTold 78 = .ok (.bipush 10, 2) := by decide +kernel
theorem dX6_doTold_80 : decode cX6_doTold 80 = .ok (.irem, 1) := by decide +kernel
theorem dX6_doTold_81 : decode cX6_doTold 81 = .ok (.invokevirtual 292, 3) := by decide +kernel
theorem dX6_doTold_84 : decode cX6_doTold 84 = .ok (.ireturn, 1) := by decide +kernel
theorem dX6_doTold_85 : decode cX6_doTold 85 = .ok (.iconst 0, 1) := by decide +kernel
theorem dX6_doTold_86 : decode cX6_doTold 86 = .ok (.ireturn, 1) := by decide +kernel
set_option maxRecDepth 20000 in
theorem ggX6_isSo_X5_has : GoodIn wsX6_isSo wsX5_has := goodIn_r _ [7, 8, 29, 30, 31, 32, 33] (by decide +kernel) (by decide +kernel)
set_option maxRecDepth 20000 in
theorem gX6_isSo_X5_has : GoodIn wsX6_isSo (wsV RX6 119 RX5 yX5_has wsX5_has) := goodIn_app (goodIn_of _ (by decide +kernel)) ggX6_isSo_X5_has
set_option maxRecDepth 20000 in
theorem ggX6_isSo_X4_isIn : GoodIn wsX6_isSo wsX4_isIn := goodIn_r _ [13, 14, 34, 35, 36, 37, 38] (by decide +kernel) (by decide +kernel)
set_option maxRecDepth 20000 in
theorem gX6_isSo_X4_isIn : GoodIn wsX6_isSo (wsV RX6 195 RX4 yX4_isIn wsX4_isIn) := goodIn_app (goodIn_of _ (by decide +kernel)) ggX6_isSo_X4_isIn
theorem dX6_isSo_0 : decode cX6_isSo 0 = .ok (.aload_n 0, 1) := by decide +kernel
theorem dX6_isSo_1 : decode cX6_isSo 1 = .ok (.getfield 16, 3) := by decide +kernel
theorem dX6_isSo_4 : decode cX6_isSo 4 = .ok (.iload_n 1, 1) := by decide +kernel
theorem dX6_isSo_5 : decode cX6_isSo 5 = .ok (.invokevirtual 119, 3) := by decide +kernel
theorem dX6_isSo_8 : decode cX6_isSo 8 = .ok (.ifCond .eq 27, 3) := by decide +kernel
theorem dX6_isSo_11 : decode cX6_isSo 11 = .ok (.iload_n 2, 1) := by decide +kernel
theorem dX6_isSo_12 : decode cX6_isSo 12 = .ok (.aload_n 0, 1) := by decide +kernel
theorem dX6_isSo_13 : decode cX6_isSo 13 = .ok (.getfield 30, 3) := by decide +kernel
theorem dX6_isSo_16 : decode cX6_isSo 16 = .ok (.iload_n 1, 1) := by decide +kernel
theorem dX6_isSo_17 : decode cX6_isSo 17 = .ok (.invokevirtual 195, 3) := by decide +kernel
theorem dX6_isSo_20 : decode cX6_isSo 20 = .ok (.ifCond .eq 7, 3) := by decide +kernel
theorem dX6_isSo_23 : decode cX6_isSo 23 = .ok (.iconst 1, 1) := by decide +kernel
theorem dX6_isSo_24 : decode cX6_isSo 24 = .ok (.goto 4, 3) := by decide +kernel
theorem dX6_isSo_27 : decode cX6_isSo 27 = .ok (.iconst 0, 1) := by decide +kernel
theorem dX6_isSo_28 : decode cX6_isSo 28 = .ok (.if_icmp .ne 7, 3) := by decide +kernel
theorem dX6_isSo_31 : decode cX6_isSo 31 = .ok (.iconst 1, 1) := by decide +kernel
theorem dX6_isSo_32 : decode cX6_isSo 32 = .ok (.goto 4, 3) := by decide +kernel
theorem dX6_isSo_35 : decode cX6_isSo 35 = .ok (.iconst 0, 1) := by decide +kernel
theorem dX6_isSo_36 : decode cX6_isSo 36 = .ok (.ireturn, 1) := by decide +kernel
set_option maxRecDepth 20000 in
theorem ggX6_weighGroups_X4_take : GoodIn wsX6_weighGroups wsX4_take := goodIn_r _ [12, 13, 14, 15, 16, 17, 140, 141, 142, 143, 144] (by decide +kernel) (by decide +kernel)
set_option maxRecDepth 20000 in
theorem gX6_weighGroups_X4_take : GoodIn wsX6_weighGroups (wsV RX6 203 RX4 yX4_take wsX4_take) := goodIn_app (goodIn_of _ (by decide +kernel)) ggX6_weighGroups_X4_take
set_option maxRecDepth 20000 in
theorem ggX6_weighGroups_X6_bitOf : GoodIn wsX6_weighGroups wsX6_bitOf := goodIn_r _ [21] (by decide +kernel) (by decide +kernel)
set_option maxRecDepth 20000 in
theorem gX6_weighGroups_X6_bitOf : GoodIn wsX6_weighGroups (va_wsS RX6 112 yX6_bitOf wsX6_bitOf) := goodIn_app (goodIn_of _ (by decide +kernel)) ggX6_weighGroups_X6_bitOf
set_option maxRecDepth 20000 in
theorem ggX6_weighGroups_X4_leave : GoodIn wsX6_weighGroups wsX4_leave := goodIn_r _ [25, 13, 14, 26, 20, 27, 140, 141, 142, 143, 144] (by decide +kernel) (by decide +kernel)
set_option maxRecDepth 20000 in
theorem gX6_weighGroups_X4_leave : GoodIn wsX6_weighGroups (wsV RX6 295 RX4 yX4_leave wsX4_leave) := goodIn_app (goodIn_of _ (by decide +kernel)) ggX6_weighGroups_X4_leave
set_option maxRecDepth 20000 in
theorem ggX6_weighGroups_X2_findBest : GoodIn wsX6_weighGroups wsX2_findBest := goodIn_r _ [32, 33, 34, 35, 36, 37, 9, 10, 11, 12, 13, 14, 15, 16, 17, 38, 39, 31, 40, 41, 42, 43, 44, 45, 46, 47, 48, 49, 50, 51, 52, 53, 54, 55, 56, 57, 58, 59, 60, 61, 62, 63, 64, 65, 66, 67, 68, 69, 70, 71, 72, 73, 74, 75, 76, 77, 78, 79, 80, 81, 82, 83, 84, 85, 86, 87, 88, 26, 20, 27, 19, 21, 89, 90, 91, 92, 93, 94, 95, 96, 97, 98, 99, 100, 101, 102, 103, 104, 105, 106, 107, 108, 109, 110, 111, 112, 113, 114, 115, 116, 136, 137, 138, 139, 140, 141, 142, 143, 144, 131, 132, 133, 134, 135] (by decide +kernel) (by decide +kernel)
set_option maxRecDepth 20000 in
theorem gX6_weighGroups_X2_findBest : GoodIn wsX6_weighGroups (wsV RX6 191 RX2 yX2_findBest wsX2_findBest) := goodIn_app (goodIn_of _ (by decide +kernel)) ggX6_weighGroups_X2_findBest
theorem dX6_weighGroups_0 : decode cX6_weighGroups 0 = .ok (.iconst 0, 1) := by decide +kernel
theorem dX6_weighGroups_1 : decode cX6_weighGroups 1 = .ok (.istore_n 1, 1) := by decide +kernel
theorem dX6_weighGroups_2 : decode cX6_weighGroups 2 = .ok (.iload_n 1, 1) := by decide +kernel
theorem dX6_weighGroups_3 : decode cX6_weighGroups 3 = .ok (.iconst 1, 1) := by decide +kernel
theorem dX6_weighGroups_4 : decode cX6_weighGroups 4 = .ok (.aload_n 0, 1) := by decide +kernel
theorem dX6_weighGroups_5 : decode cX6_weighGroups 5 = .ok (.getfield 16, 3) := by decide +kernel
theorem dX6_weighGroups_8 : decode cX6_weighGroups 8 = .ok (.getfield 96, 3) := by decide +kernel
theorem dX6_weighGroups_11 : decode cX6_weighGroups 11 = .ok (.ishl, 1) := by decide +kernel
theorem dX6_weighGroups_12 : decode cX6_weighGroups 12 = .ok (.if_icmp .ge 84, 3) := by decide +kernel
theorem dX6_weighGroups_15 : decode cX6_weighGroups 15 = .ok (.aload_n 0, 1) := by decide +kernel
theorem dX6_weighGroups_16 : decode cX6_weighGroups 16 = .ok (.getfield 30, 3) := by decide +kernel
theorem dX6_weighGroups_19 : decode cX6_weighGroups 19 = .ok (.aload_n 0, 1) := by decide +kernel
theorem dX6_weighGroups_20 : decode cX6_weighGroups 20 = .ok (.getfield 26, 3) := by decide +kernel
theorem dX6_weighGroups_23 : decode cX6_weighGroups 23 = .ok (.invokevirtual 203, 3) := by decide +kernel
theorem dX6_weighGroups_26 : decode cX6_weighGroups 26 = .ok (.iconst 0, 1) := by decide +kernel
theorem dX6_weighGroups_27 : decode cX6_weighGroups 27 = .ok (.istore_n 2, 1) := by decide +kernel
theorem dX6_weighGroups_28 : decode cX6_weighGroups 28 = .ok (.iload_n 2, 1) := by decide +kernel
theorem dX6_weighGroups_29 : decode cX6_weighGroups 29 = .ok (.aload_n 0, 1) := by decide +kernel
theorem dX6_weighGroups_30 : decode cX6_weighGroups 30 = .ok (.getfield 16, 3) := by decide +kernel
theorem dX6_weighGroups_33 : decode cX6_weighGroups 33 = .ok (.getfield 96, 3) := by decide +kernel
theorem dX6_weighGroups_36 : decode cX6_weighGroups 36 = .ok (.if_icmp .ge 25, 3) := by decide +kernel
theorem dX6_weighGroups_39 : decode cX6_weighGroups 39 = .ok (.iload_n 1, 1) := by decide +kernel
theorem dX6_weighGroups_40 : decode cX6_weighGroups 40 = .ok (.iload_n 2, 1) := by decide +kernel
theorem dX6_weighGroups_41 : decode cX6_weighGroups 41 = .ok (.invokestatic 112, 3) := by decide +kernel
theorem dX6_weighGroups_44 : decode cX6_weighGroups 44 = .ok (.ifCond .ne 11, 3) := by decide +kernel
theorem dX6_weighGroups_47 : decode cX6_weighGroups 47 = .ok (.aload_n 0, 1) := by decide +kernel
theorem dX6_weighGroups_48 : decode cX6_weighGroups 48 = .ok (.getfield 30, 3) := by decide +kernel
theorem dX6_weighGroups_51 : decode cX6_weighGroups 51 = .ok (.iload_n 2, 1) := by decide +kernel
theorem dX6_weighGroups_52 : decode cX6_weighGroups 52 = .ok (.invokevirtual 295, 3) := by decide +kernel
theorem dX6_weighGroups_55 : decode cX6_weighGroups 55 = .ok (.iinc 2 1, 3) := by decide +kernel
theorem dX6_weighGroups_58 : decode cX6_weighGroups 58 = .ok (.goto (-30), 3) := by decide +kernel
theorem dX6_weighGroups_61 : decode cX6_weighGroups 61 = .ok (.aload_n 0, 1) := by decide +kernel
theorem dX6_weighGroups_62 : decode cX6_weighGroups 62 = .ok (.getfield 54, 3) := by decide +kernel
theorem dX6_weighGroups_65 : decode cX6_weighGroups 65 = .ok (.aload_n 0, 1) := by decide +kernel
theorem dX6_weighGroups_66 : decode cX6_weighGroups 66 = .ok (.getfield 16, 3) := by decide +kernel
theorem dX6_weighGroups_69 : decode cX6_weighGroups 69 = .ok (.aload_n 0, 1) := by decide +kernel
theorem dX6_weighGroups_70 : decode cX6_weighGroups 70 = .ok (.getfield 30, 3) := by decide +kernel
theorem dX6_weighGroups_73 : decode cX6_weighGroups 73 = .ok (.iconst 2, 1) := by decide +kernel
theorem dX6_weighGroups_74 : decode cX6_weighGroups 74 = .ok (.invokevirtual 191, 3) := by decide +kernel
theorem dX6_weighGroups_77 : decode cX6_weighGroups 77 = .ok (.aload_n 0, 1) := by decide +kernel
theorem dX6_weighGroups_78 : decode cX6_weighGroups 78 = .ok (.getfield 65, 3) := by decide +kernel
theorem dX6_weighGroups_81 : decode cX6_weighGroups 81 = .ok (.iload_n 1, 1) := by decide +kernel
theorem dX6_weighGroups_82 : decode cX6_weighGroups 82 = .ok (.aload_n 0, 1) := by decide +kernel
theorem dX6_weighGroups_83 : decode cX6_weighGroups 83 = .ok (.getfield 54, 3) := by decide +kernel
theorem dX6_weighGroups_86 : decode cX6_weighGroups 86 = .ok (.getfield 184, 3) := by decide +kernel
theorem dX6_weighGroups_89 : decode cX6_weighGroups 89 = .ok (.iastore, 1) := by decide +kernel
theorem dX6_weighGroups_90 : decode cX6_weighGroups 90 = .ok (.iinc 1 1, 3) := by decide +kernel
theorem dX6_weighGroups_93 : decode cX6_weighGroups 93 = .ok (.goto (-91), 3) := by decide +kernel
theorem dX6_weighGroups_96 : decode cX6_weighGroups 96 = .ok (.return_, 1) := by decide +kernel
set_option maxRecDepth 20000 in
theorem ggX6_weighPairs_X6_tryTilt : GoodIn wsX6_weighPairs wsX6_tryTilt := goodIn_r _ [8, 2, 9, 1, 10, 11, 12, 13, 14, 15, 16, 17, 18, 19, 20, 21, 22, 23, 24, 25, 26, 27, 28, 29, 30, 31, 32, 33, 7, 34, 35, 36, 37, 38, 39, 40, 41, 42, 43, 44, 45, 46, 47, 48, 49, 50, 51, 52, 53, 54, 55, 56, 57, 58, 59, 60, 61, 62, 63, 64, 65, 66, 82, 83, 84, 85, 86, 87, 88, 89, 90, 91, 92, 93, 94, 95, 96, 97, 98, 99, 100, 101, 102, 103, 104, 105] (by decide +kernel) (by decide +kernel)
set_option maxRecDepth 20000 in
theorem gX6_weighPairs_X6_tryTilt : GoodIn wsX6_weighPairs (wsV RX6 173 RX6 yX6_tryTilt wsX6_tryTilt) := goodIn_app (goodIn_of _ (by decide +kernel)) ggX6_weighPairs_X6_tryTilt
set_option maxRecDepth 20000 in
theorem ggX6_weighPairs_X5_roll : GoodIn wsX6_weighPairs wsX5_roll := goodIn_r _ [24, 25, 26, 27, 28, 29, 23, 30, 31, 32, 33, 7, 34, 35, 36, 37, 38, 39, 40, 41, 42, 43, 44, 45, 46, 47, 48, 49, 50, 51, 52, 53, 54, 55, 56, 57, 13, 58, 16, 15, 17, 59, 60, 61, 62, 63, 64, 65, 66, 101, 102, 103, 104, 105, 96, 97, 98, 99, 100] (by decide +kernel) (by decide +kernel)
set_option maxRecDepth 20000 in
theorem gX6_weighPairs_X5_roll : GoodIn wsX6_weighPairs (wsV RX6 144 RX5 yX5_roll wsX5_roll) := goodIn_app (goodIn_of _ (by decide +kernel)) ggX6_weighPairs_X5_roll
set_option maxRecDepth 20000 in
theorem ggX6_weighPairs_X4_fallenOf : GoodIn wsX6_weighPairs wsX4_fallenOf := goodIn_r _ [70, 71, 72, 73, 13, 74, 15, 96, 97, 98, 99, 100] (by decide +kernel) (by decide +kernel)
set_option maxRecDepth 20000 in
theorem gX6_weighPairs_X4_fallenOf : GoodIn wsX6_weighPairs (wsV RX6 298 RX4 yX4_fallenOf wsX4_fallenOf) := goodIn_app (goodIn_of _ (by decide +kernel)) ggX6_weighPairs_X4_fallenOf
set_option maxRecDepth 20000 in
theorem ggX6_weighPairs_X1_tell : GoodIn wsX6_weighPairs wsX1_tell := goodIn_r _ [79, 80, 81, 106, 107] (by decide +kernel) (by decide +kernel)
set_option maxRecDepth 20000 in
theorem gX6_weighPairs_X1_tell : GoodIn wsX6_weighPairs (wsV RX6 301 RX1 yX1_tell wsX1_tell) := goodIn_app (goodIn_of _ (by decide +kernel)) ggX6_weighPairs_X1_tell
theorem dX6_weighPairs_0 : decode cX6_weighPairs 0 = .ok (.iconst 0, 1) := by decide +kernel
theorem dX6_weighPairs_1 : decode cX6_weighPairs 1 = .ok (.istore_n 1, 1) := by decide +kernel
theorem dX6_weighPairs_2 : decode cX6_weighPairs 2 = .ok (.iload_n 1, 1) := by decide +kernel
theorem dX6_weighPairs_3 : decode cX6_weighPairs 3 = .ok (.iconst 4, 1) := by decide +kernel
theorem dX6_weighPairs_4 : decode cX6_weighPairs 4 = .ok (.if_icmp .ge 79, 3) := by decide +kernel
theorem dX6_weighPairs_7 : decode cX6_weighPairs 7 = .ok (.iconst 0, 1) := by decide +kernel
theorem dX6_weighPairs_8 : decode cX6_weighPairs 8 = .ok (.istore_n 2, 1) := by decide +kernel
theorem dX6_weighPairs_9 : decode cX6_weighPairs 9 = .ok (.iload_n 2, 1) := by decide +kernel
theorem dX6_weighPairs_10 : decode cX6_weighPairs 10 = .ok (.iconst 4, 1) := by decide +kernel
theorem dX6_weighPairs_11 : decode cX6_weighPairs 11 = .ok (.if_icmp .ge 66, 3) := by decide +kernel
theorem dX6_weighPairs_14 : decode cX6_weighPairs 14 = .ok (.aload_n 0, 1) := by decide +kernel
theorem dX6_weighPairs_15 : decode cX6_weighPairs 15 = .ok (.iload_n 1, 1) := by decide +kernel
theorem dX6_weighPairs_16 : decode cX6_weighPairs 16 = .ok (.invokevirtual 173, 3) := by decide +kernel
theorem dX6_weighPairs_19 : decode cX6_weighPairs 19 = .ok (.aload_n 0, 1) := by decide +kernel
theorem dX6_weighPairs_20 : decode cX6_weighPairs 20 = .ok (.getfield 16, 3) := by decide +kernel
theorem dX6_weighPairs_23 : decode cX6_weighPairs 23 = .ok (.aload_n 0, 1) := by decide +kernel
theorem dX6_weighPairs_24 : decode cX6_weighPairs 24 = .ok (.getfield 30, 3) := by decide +kernel
theorem dX6_weighPairs_27 : decode cX6_weighPairs 27 = .ok (.iload_n 2, 1) := by decide +kernel
theorem dX6_weighPairs_28 : decode cX6_weighPairs 28 = .ok (.invokevirtual 144, 3) := by decide +kernel
theorem dX6_weighPairs_31 : decode cX6_weighPairs 31 = .ok (.iload_n 1, 1) := by decide +kernel
theorem dX6_weighPairs_32 : decode cX6_weighPairs 32 = .ok (.iload_n 2, 1) := by decide +kernel
theorem dX6_weighPairs_33 : decode cX6_weighPairs 33 = .ok (.if_icmp .ne 7, 3) := by decide +kernel
theorem dX6_weighPairs_36 : decode cX6_weighPairs 36 = .ok (.iconst 1, 1) := by decide +kernel
theorem dX6_weighPairs_37 : decode cX6_weighPairs 37 = .ok (.goto 4, 3) := by decide +kernel
theorem dX6_weighPairs_40 : decode cX6_weighPairs 40 = .ok (.iconst 0, 1) := by decide +kernel
theorem dX6_weighPairs_41 : decode cX6_weighPairs 41 = .ok (.istore_n 3, 1) := by decide +kernel
theorem dX6_weighPairs_42 : decode cX6_weighPairs 42 = .ok (.aload_n 0, 1) := by decide +kernel
theorem dX6_weighPairs_43 : decode cX6_weighPairs 43 = .ok (.getfield 61, 3) := by decide +kernel
theorem dX6_weighPairs_46 : decode cX6_weighPairs 46 = .ok (.iload_n 1, 1) := by decide +kernel
theorem dX6_weighPairs_47 : decode cX6_weighPairs 47 = .ok (.iload_n 2, 1) := by decide +kernel
theorem dX6_weighPairs_48 : decode cX6_weighPairs 48 = .ok (.aload_n 0, 1) := by decide +kernel
theorem dX6_weighPairs_49 : decode cX6_weighPairs 49 = .ok (.getfield 30, 3) := by decide +kernel
theorem dX6_weighPairs_52 : decode cX6_weighPairs 52 = .ok (.iconst 0, 1) := by decide +kernel
theorem dX6_weighPairs_53 : decode cX6_weighPairs 53 = .ok (.invokevirtual 298, 3) := by decide +kernel
theorem dX6_weighPairs_56 : decode cX6_weighPairs 56 = .ok (.iload_n 3, 1) := by decide +kernel
theorem dX6_weighPairs_57 : decode cX6_weighPairs 57 = .ok (.isub, 1) := by decide +kernel
theorem dX6_weighPairs_58 : decode cX6_weighPairs 58 = .ok (.aload_n 0, 1) := by decide +kernel
theorem dX6_weighPairs_59 : decode cX6_weighPairs 59 = .ok (.getfield 30, 3) := by decide +kernel
theorem dX6_weighPairs_62 : decode cX6_weighPairs 62 = .ok (.iconst 1, 1) := by decide +kernel
theorem dX6_weighPairs_63 : decode cX6_weighPairs 63 = .ok (.invokevirtual 298, 3) := by decide +kernel
theorem dX6_weighPairs_66 : decode cX6_weighPairs 66 = .ok (.iload_n 3, 1) := by decide +kernel
theorem dX6_weighPairs_67 : decode cX6_weighPairs 67 = .ok (.isub, 1) := by decide +kernel
theorem dX6_weighPairs_68 : decode cX6_weighPairs 68 = .ok (.invokevirtual 301, 3) := by decide +kernel
theorem dX6_weighPairs_71 : decode cX6_weighPairs 71 = .ok (.iinc 2 1, 3) := by decide +kernel
theorem dX6_weighPairs_74 : decode cX6_weighPairs 74 = .ok (.goto (-65), 3) := by decide +kernel
theorem dX6_weighPairs_77 : decode cX6_weighPairs 77 = .ok (.iinc 1 1, 3) := by decide +kernel
theorem dX6_weighPairs_80 : decode cX6_weighPairs 80 = .ok (.goto (-78), 3) := by decide +kernel
theorem dX6_weighPairs_83 : decode cX6_weighPairs 83 = .ok (.return_, 1) := by decide +kernel
set_option maxRecDepth 20000 in
theorem ggX6_isRow_X6_isWay : GoodIn wsX6_isRow wsX6_isWay := goodIn_r _ [5] (by decide +kernel) (by decide +kernel)
set_option maxRecDepth 20000 in
theorem gX6_isRow_X6_isWay : GoodIn wsX6_isRow (va_wsS RX6 134 yX6_isWay wsX6_isWay) := goodIn_app (goodIn_of _ (by decide +kernel)) ggX6_isRow_X6_isWay
theorem dX6_isRow_0 : decode cX6_isRow 0 = .ok (.iload_n 1, 1) := by decide +kernel
theorem dX6_isRow_1 : decode cX6_isRow 1 = .ok (.ifCond .lt 12, 3) := by decide +kernel
theorem dX6_isRow_4 : decode cX6_isRow 4 = .ok (.iload_n 1, 1) := by decide +kernel
theorem dX6_isRow_5 : decode cX6_isRow 5 = .ok (.getstatic 250, 3) := by decide +kernel
theorem dX6_isRow_8 : decode cX6_isRow 8 = .ok (.iload_n 0, 1) := by decide +kernel
theorem dX6_isRow_9 : decode cX6_isRow 9 = .ok (.iaload, 1) := by decide +kernel
theorem dX6_isRow_10 : decode cX6_isRow 10 = .ok (.if_icmp .lt 5, 3) := by decide +kernel
theorem dX6_isRow_13 : decode cX6_isRow 13 = .ok (.iconst 0, 1) := by decide +kernel
theorem dX6_isRow_14 : decode cX6_isRow 14 = .ok (.ireturn, 1) := by decide +kernel
theorem dX6_isRow_15 : decode cX6_isRow 15 = .ok (.iconst 0, 1) := by decide +kernel
theorem dX6_isRow_16 : decode cX6_isRow 16 = .ok (.istore_n 2, 1) := by decide +kernel
theorem dX6_isRow_17 : decode cX6_isRow 17 = .ok (.iload_n 2, 1) := by decide +kernel
theorem dX6_isRow_18 : decode cX6_isRow 18 = .ok (.iload_n 0, 1) := by decide +kernel
theorem dX6_isRow_19 : decode cX6_isRow 19 = .ok (.if_icmp .ge 29, 3) := by decide +kernel
theorem dX6_isRow_22 : decode cX6_isRow 22 = .ok (.iload_n 1, 1) := by decide +kernel
theorem dX6_isRow_23 : decode cX6_isRow 23 = .ok (.getstatic 250, 3) := by decide +kernel
theorem dX6_isRow_26 : decode cX6_isRow 26 = .ok (.iload_n 2, 1) := by decide +kernel
theorem dX6_isRow_27 : decode cX6_isRow 27 = .ok (.iaload, 1) := by decide +kernel
theorem dX6_isRow_28 : decode cX6_isRow 28 = .ok (.idiv, 1) := by decide +kernel
theorem dX6_isRow_29 : decode cX6_isRow 29 = .ok (.bipush 10, 2) := by decide +kernel
theorem dX6_isRow_31 : decode cX6_isRow 31 = .ok (.irem, 1) := by decide +kernel
theorem dX6_isRow_32 : decode cX6_isRow 32 = .ok (.iconst 1, 1) := by decide +kernel
theorem dX6_isRow_33 : decode cX6_isRow 33 = .ok (.isub, 1) := by decide +kernel
theorem dX6_isRow_34 : decode cX6_isRow 34 = .ok (.invokestatic 134, 3) := by decide +kernel
theorem dX6_isRow_37 : decode cX6_isRow 37 = .ok (.ifCond .ne 5, 3) := by decide +kernel
theorem dX6_isRow_40 : decode cX6_isRow 40 = .ok (.iconst 0, 1) := by decide +kernel
theorem dX6_isRow_41 : decode cX6_isRow 41 = .ok (.ireturn, 1) := by decide +kernel
theorem dX6_isRow_42 : decode cX6_isRow 42 = .ok (.iinc 2 1, 3) := by decide +kernel
theorem dX6_isRow_45 : decode cX6_isRow 45 = .ok (.goto (-28), 3) := by decide +kernel
theorem dX6_isRow_48 : decode cX6_isRow 48 = .ok (.iconst 1, 1) := by decide +kernel
theorem dX6_isRow_49 : decode cX6_isRow 49 = .ok (.ireturn, 1) := by decide +kernel
set_option maxRecDepth 20000 in
theorem ggX6_weightOf_X6_bitOf : GoodIn wsX6_weightOf wsX6_bitOf := goodIn_r _ [4] (by decide +kernel) (by decide +kernel)
set_option maxRecDepth 20000 in
theorem gX6_weightOf_X6_bitOf : GoodIn wsX6_weightOf (va_wsS RX6 112 yX6_bitOf wsX6_bitOf) := goodIn_app (goodIn_of _ (by decide +kernel)) ggX6_weightOf_X6_bitOf
theorem dX6_weightOf_0 : decode cX6_weightOf 0 = .ok (.iconst 1, 1) := by decide +kernel
theorem dX6_weightOf_1 : decode cX6_weightOf 1 = .ok (.istore_n 3, 1) := by decide +kernel
theorem dX6_weightOf_2 : decode cX6_weightOf 2 = .ok (.iconst 0, 1) := by decide +kernel
theorem dX6_weightOf_3 : decode cX6_weightOf 3 = .ok (.istore 4, 2) := by decide +kernel
theorem dX6_weightOf_5 : decode cX6_weightOf 5 = .ok (.iload 4, 2) := by decide +kernel
theorem dX6_weightOf_7 : decode cX6_weightOf 7 = .ok (.iload_n 0, 1) := by decide +kernel
theorem dX6_weightOf_8 : decode cX6_weightOf 8 = .ok (.if_icmp .ge 30, 3) := by decide +kernel
theorem dX6_weightOf_11 : decode cX6_weightOf 11 = .ok (.iload_n 3, 1) := by decide +kernel
theorem dX6_weightOf_12 : decode cX6_weightOf 12 = .ok (.iload_n 1, 1) := by decide +kernel
theorem dX6_weightOf_13 : decode cX6_weightOf 13 = .ok (.iload 4, 2) := by decide +kernel
theorem dX6_weightOf_15 : decode cX6_weightOf 15 = .ok (.invokestatic 112, 3) := by decide +kernel
theorem dX6_weightOf_18 : decode cX6_weightOf 18 = .ok (.iconst 1, 1) := by decide +kernel
theorem dX6_weightOf_19 : decode cX6_weightOf 19 = .ok (.if_icmp .ne 7, 3) := by decide +kernel
theorem dX6_weightOf_22 : decode cX6_weightOf 22 = .ok (.iload_n 2, 1) := by decide +kernel
theorem dX6_weightOf_23 : decode cX6_weightOf 23 = .ok (.goto 7, 3) := by decide +kernel
theorem dX6_weightOf_26 : decode cX6_weightOf 26 = .ok (.bipush 10, 2) := by decide +kernel
theorem dX6_weightOf_28 : decode cX6_weightOf 28 = .ok (.iload_n 2, 1) := by decide +kernel
theorem dX6_weightOf_29 : decode cX6_weightOf 29 = .ok (.isub, 1) := by decide +kernel
theorem dX6_weightOf_30 : decode cX6_weightOf 30 = .ok (.imul, 1) := by decide +kernel
theorem dX6_weightOf_31 : decode cX6_weightOf 31 = .ok (.istore_n 3, 1) := by decide +kernel
theorem dX6_weightOf_32 : decode cX6_weightOf 32 = .ok (.iinc 4 1, 3) := by decide +kernel
theorem dX6_weightOf_35 : decode cX6_weightOf 35 = .ok (.goto (-30), 3) := by decide +kernel
theorem dX6_weightOf_38 : decode cX6_weightOf 38 = .ok (.iload_n 3, 1) := by decide +kernel
theorem dX6_weightOf_39 : decode cX6_weightOf 39 = .ok (.ireturn, 1) := by decide +kernel
set_option maxRecDepth 20000 in
theorem ggX6_isInBehind_X4_take : GoodIn wsX6_isInBehind wsX4_take := goodIn_r _ [9, 10, 11, 12, 13, 14, 82, 83, 84, 85, 86] (by decide +kernel) (by decide +kernel)
set_option maxRecDepth 20000 in
theorem gX6_isInBehind_X4_take : GoodIn wsX6_isInBehind (wsV RX6 203 RX4 yX4_take wsX4_take) := goodIn_app (goodIn_of _ (by decide +kernel)) ggX6_isInBehind_X4_take
set_option maxRecDepth 20000 in
theorem ggX6_isInBehind_X6_bitOf : GoodIn wsX6_isInBehind wsX6_bitOf := goodIn_r _ [18] (by decide +kernel) (by decide +kernel)
set_option maxRecDepth 20000 in
theorem gX6_isInBehind_X6_bitOf : GoodIn wsX6_isInBehind (va_wsS RX6 112 yX6_bitOf wsX6_bitOf) := goodIn_app (goodIn_of _ (by decide +kernel)) ggX6_isInBehind_X6_bitOf
set_option maxRecDepth 20000 in
theorem ggX6_isInBehind_X5_roll : GoodIn wsX6_isInBehind wsX5_roll := goodIn_r _ [23, 24, 25, 26, 27, 28, 22, 29, 30, 31, 32, 17, 33, 16, 18, 34, 35, 36, 37, 38, 39, 40, 41, 42, 43, 44, 45, 46, 47, 48, 49, 50, 51, 52, 53, 54, 8, 55, 11, 10, 12, 56, 57, 58, 59, 60, 61, 62, 63, 87, 88, 89, 90, 91, 82, 83, 84, 85, 86] (by decide +kernel) (by decide +kernel)
set_option maxRecDepth 20000 in
theorem gX6_isInBehind_X5_roll : GoodIn wsX6_isInBehind (wsV RX6 144 RX5 yX5_roll wsX5_roll) := goodIn_app (goodIn_of _ (by decide +kernel)) ggX6_isInBehind_X5_roll
set_option maxRecDepth 20000 in
theorem ggX6_isInBehind_X4_isIn : GoodIn wsX6_isInBehind wsX4_isIn := goodIn_r _ [67, 10, 82, 83, 84, 85, 86] (by decide +kernel) (by decide +kernel)
set_option maxRecDepth 20000 in
theorem gX6_isInBehind_X4_isIn : GoodIn wsX6_isInBehind (wsV RX6 195 RX4 yX4_isIn wsX4_isIn) := goodIn_app (goodIn_of _ (by decide +kernel)) ggX6_isInBehind_X4_isIn
theorem dX6_isInBehind_0 : decode cX6_isInBehind 0 = .ok (.aload_n 0, 1) := by decide +kernel
theorem dX6_isInBehind_1 : decode cX6_isInBehind 1 = .ok (.getfield 30, 3) := by decide +kernel
theorem dX6_isInBehind_4 : decode cX6_isInBehind 4 = .ok (.aload_n 0, 1) := by decide +kernel
theorem dX6_isInBehind_5 : decode cX6_isInBehind 5 = .ok (.getfield 26, 3) := by decide +kernel
theorem dX6_isInBehind_8 : decode cX6_isInBehind 8 = .ok (.invokevirtual 203, 3) := by decide +kernel
theorem dX6_isInBehind_11 : decode cX6_isInBehind 11 = .ok (.iconst 0, 1) := by decide +kernel
theorem dX6_isInBehind_12 : decode cX6_isInBehind 12 = .ok (.istore 5, 2) := by decide +kernel
theorem dX6_isInBehind_14 : decode cX6_isInBehind 14 = .ok (.iload 5, 2) := by decide +kernel
theorem dX6_isInBehind_16 : decode cX6_isInBehind 16 = .ok (.iload_n 2, 1) := by decide +kernel
theorem dX6_isInBehind_17 : decode cX6_isInBehind 17 = .ok (.if_icmp .ge 47, 3) := by decide +kernel
theorem dX6_isInBehind_20 : decode cX6_isInBehind 20 = .ok (.iload 4, 2) := by decide +kernel
theorem dX6_isInBehind_22 : decode cX6_isInBehind 22 = .ok (.iload 5, 2) := by decide +kernel
theorem dX6_isInBehind_24 : decode cX6_isInBehind 24 = .ok (.invokestatic 112, 3) := by decide +kernel
theorem dX6_isInBehind_27 : decode cX6_isInBehind 27 = .ok (.ifCond .ne 31, 3) := by decide +kernel
theorem dX6_isInBehind_30 : decode cX6_isInBehind 30 = .ok (.aload_n 0, 1) := by decide +kernel
theorem dX6_isInBehind_31 : decode cX6_isInBehind 31 = .ok (.getfield 16, 3) := by decide +kernel
theorem dX6_isInBehind_34 : decode cX6_isInBehind 34 = .ok (.aload_n 0, 1) := by decide +kernel
theorem dX6_isInBehind_35 : decode cX6_isInBehind 35 = .ok (.getfield 30, 3) := by decide +kernel
theorem dX6_isInBehind_38 : decode cX6_isInBehind 38 = .ok (.iload_n 3, 1) := by decide +kernel
theorem dX6_isInBehind_39 : decode cX6_isInBehind 39 = .ok (.getstatic 250, 3) := by decide +kernel
theorem dX6_isInBehind_42 : decode cX6_isInBehind 42 = .ok (.iload_n 2, 1) := by decide +kernel
theorem dX6_isInBehind_43 : decode cX6_isInBehind 43 = .ok (.iconst 1, 1) := by decide +kernel
theorem dX6_isInBehind_44 : decode cX6_isInBehind 44 = .ok (.isub, 1) := by decide +kernel
theorem dX6_isInBehind_45 : decode cX6_isInBehind 45 = .ok (.iload 5, 2) := by decide +kernel
theorem dX6_isInBehind_47 : decode cX6_isInBehind 47 = .ok (.isub, 1) := by decide +kernel
theorem dX6_isInBehind_48 : decode cX6_isInBehind 48 = .ok (.iaload, 1) := by decide +kernel
theorem dX6_isInBehind_49 : decode cX6_isInBehind 49 = .ok (.idiv, 1) := by decide +kernel
theorem dX6_isInBehind_50 : decode cX6_isInBehind 50 = .ok (.bipush 10, 2) := by decide +kernel
theorem dX6_isInBehind_52 : decode cX6_isInBehind 52 = .ok (.irem, 1) := by decide +kernel
theorem dX6_isInBehind_53 : decode cX6_isInBehind 53 = .ok (.iconst 1, 1) := by decide +kernel
theorem dX6_isInBehind_54 : decode cX6_isInBehind 54 = .ok (.isub, 1) := by decide +kernel
theorem dX6_isInBehind_55 : decode cX6_isInBehind 55 = .ok (.invokevirtual 144, 3) := by decide +kernel
theorem dX6_isInBehind_58 : decode cX6_isInBehind 58 = .ok (.iinc 5 1, 3) := by decide +kernel
theorem dX6_isInBehind_61 : decode cX6_isInBehind 61 = .ok (.goto (-47), 3) := by decide +kernel
theorem dX6_isInBehind_64 : decode cX6_isInBehind 64 = .ok (.aload_n 0, 1) := by decide +kernel
theorem dX6_isInBehind_65 : decode cX6_isInBehind 65 = .ok (.getfield 30, 3) := by decide +kernel
theorem dX6_isInBehind_68 : decode cX6_isInBehind 68 = .ok (.iload_n 1, 1) := by decide +kernel
theorem dX6_isInBehind_69 : decode cX6_isInBehind 69 = .ok (.invokevirtual 195, 3) := by decide +kernel
theorem dX6_isInBehind_72 : decode cX6_isInBehind 72 = .ok (.ireturn, 1) := by decide +kernel
theorem dX6_tellFraction_0 : decode cX6_tellFraction 0 = .ok (.iload_n 1, 1) := by decide +kernel
theorem dX6_tellFraction_1 : decode cX6_tellFraction 1 = .ok (.istore_n 3, 1) := by decide +kernel
theorem dX6_tellFraction_2 : decode cX6_tellFraction 2 = .ok (.iload_n 0, 1) := by decide +kernel
theorem dX6_tellFraction_3 : decode cX6_tellFraction 3 = .ok (.invokestatic 304, 3) := by decide +kernel
theorem dX6_tellFraction_6 : decode cX6_tellFraction 6 = .ok (.istore 4, 2) := by decide +kernel
theorem dX6_tellFraction_8 : decode cX6_tellFraction 8 = .ok (.iconst 0, 1) := by decide +kernel
theorem dX6_tellFraction_9 : decode cX6_tellFraction 9 = .ok (.istore 5, 2) := by decide +kernel
theorem dX6_tellFraction_11 : decode cX6_tellFraction 11 = .ok (.iload 5, 2) := by decide +kernel
theorem dX6_tellFraction_13 : decode cX6_tellFraction 13 = .ok (.bipush 64, 2) := by decide +kernel
theorem dX6_tellFraction_15 : decode cX6_tellFraction 15 = .ok (.if_icmp .ge 27, 3) := by decide +kernel
theorem dX6_tellFraction_18 : decode cX6_tellFraction 18 = .ok (.iload 4, 2) := by decide +kernel
theorem dX6_tellFraction_20 : decode cX6_tellFraction 20 = .ok (.ifCond .eq 22, 3) := by decide +kernel
theorem dX6_tellFraction_23 : decode cX6_tellFraction 23 = .ok (.iload_n 3, 1) := by decide +kernel
theorem dX6_tellFraction_24 : decode cX6_tellFraction 24 = .ok (.iload 4, 2) := by decide +kernel
theorem dX6_tellFraction_26 : decode cX6_tellFraction 26 = .ok (.irem, 1) := by decide +kernel
theorem dX6_tellFraction_27 : decode cX6_tellFraction 27 = .ok (.istore 6, 2) := by decide +kernel
theorem dX6_tellFraction_29 : decode cX6_tellFraction 29 = .ok (.iload 4, 2) := by decide +kernel
theorem dX6_tellFraction_31 : decode cX6_tellFraction 31 = .ok (.istore_n 3, 1) := by decide +kernel
theorem dX6_tellFraction_32 : decode cX6_tellFraction 32 = .ok (.iload 6, 2) := by decide +kernel
theorem dX6_tellFraction_34 : decode cX6_tellFraction 34 = .ok (.istore 4, 2) := by decide +kernel
theorem dX6_tellFraction_36 : decode cX6_tellFraction 36 = .ok (.iinc 5 1, 3) := by decide +kernel
theorem dX6_tellFraction_39 : decode cX6_tellFraction 39 = .ok (.goto (-28), 3) := by decide +kernel
theorem dX6_tellFraction_42 : decode cX6_tellFraction 42 = .ok (.iload_n 3, 1) := by decide +kernel
theorem dX6_tellFraction_43 : decode cX6_tellFraction 43 = .ok (.ifCond .ne 5, 3) := by decide +kernel
theorem dX6_tellFraction_46 : decode cX6_tellFraction 46 = .ok (.iconst 0, 1) := by decide +kernel
theorem dX6_tellFraction_47 : decode cX6_tellFraction 47 = .ok (.ireturn, 1) := by decide +kernel
theorem dX6_tellFraction_48 : decode cX6_tellFraction 48 = .ok (.iload_n 2, 1) := by decide +kernel
theorem dX6_tellFraction_49 : decode cX6_tellFraction 49 = .ok (.ifCond .eq 7, 3) := by decide +kernel
theorem dX6_tellFraction_52 : decode cX6_tellFraction 52 = .ok (.iload_n 0, 1) := by decide +kernel
theorem dX6_tellFraction_53 : decode cX6_tellFraction 53 = .ok (.goto 4, 3) := by decide +kernel
theorem dX6_tellFraction_56 : decode cX6_tellFraction 56 = .ok (.iload_n 1, 1) := by decide +kernel
theorem dX6_tellFraction_57 : decode cX6_tellFraction 57 = .ok (.iload_n 3, 1) := by decide +kernel
theorem dX6_tellFraction_58 : decode cX6_tellFraction 58 = .ok (.idiv, 1) := by decide +kernel
theorem dX6_tellFraction_59 : decode cX6_tellFraction 59 = .ok (.ireturn, 1) := by decide +kernel
theorem dX6_isCell_0 : decode cX6_isCell 0 = .ok (.iload_n 0, 1) := by decide +kernel
theorem dX6_isCell_1 : decode cX6_isCell 1 = .ok (.ifCond .lt 13, 3) := by decide +kernel
theorem dX6_isCell_4 : decode cX6_isCell 4 = .ok (.iload_n 0, 1) := by decide +kernel
theorem dX6_isCell_5 : decode cX6_isCell 5 = .ok (.bipush 25, 2) := by decide +kernel
theorem dX6_isCell_7 : decode cX6_isCell 7 = .ok (.if_icmp .ge 7, 3) := by decide +kernel
theorem dX6_isCell_10 : decode cX6_isCell 10 = .ok (.iconst 1, 1) := by decide +kernel
theorem dX6_isCell_11 : decode cX6_isCell 11 = .ok (.goto 4, 3) := by decide +kernel
theorem dX6_isCell_14 : decode cX6_isCell 14 = .ok (.iconst 0, 1) := by decide +kernel
theorem dX6_isCell_15 : decode cX6_isCell 15 = .ok (.ireturn, 1) := by decide +kernel
theorem dX6_isWay_0 : decode cX6_isWay 0 = .ok (.iload_n 0, 1) := by decide +kernel
theorem dX6_isWay_1 : decode cX6_isWay 1 = .ok (.ifCond .lt 12, 3) := by decide +kernel
theorem dX6_isWay_4 : decode cX6_isWay 4 = .ok (.iload_n 0, 1) := by decide +kernel
theorem dX6_isWay_5 : decode cX6_isWay 5 = .ok (.iconst 4, 1) := by decide +kernel
theorem dX6_isWay_6 : decode cX6_isWay 6 = .ok (.if_icmp .ge 7, 3) := by decide +kernel
theorem dX6_isWay_9 : decode cX6_isWay 9 = .ok (.iconst 1, 1) := by decide +kernel
theorem dX6_isWay_10 : decode cX6_isWay 10 = .ok (.goto 4, 3) := by decide +kernel
theorem dX6_isWay_13 : decode cX6_isWay 13 = .ok (.iconst 0, 1) := by decide +kernel
theorem dX6_isWay_14 : decode cX6_isWay 14 = .ok (.ireturn, 1) := by decide +kernel
theorem dX6_isSlot_0 : decode cX6_isSlot 0 = .ok (.iload_n 0, 1) := by decide +kernel
theorem dX6_isSlot_1 : decode cX6_isSlot 1 = .ok (.ifCond .lt 12, 3) := by decide +kernel
theorem dX6_isSlot_4 : decode cX6_isSlot 4 = .ok (.iload_n 0, 1) := by decide +kernel
theorem dX6_isSlot_5 : decode cX6_isSlot 5 = .ok (.iconst 2, 1) := by decide +kernel
theorem dX6_isSlot_6 : decode cX6_isSlot 6 = .ok (.if_icmp .ge 7, 3) := by decide +kernel
theorem dX6_isSlot_9 : decode cX6_isSlot 9 = .ok (.iconst 1, 1) := by decide +kernel
theorem dX6_isSlot_10 : decode cX6_isSlot 10 = .ok (.goto 4, 3) := by decide +kernel
theorem dX6_isSlot_13 : decode cX6_isSlot 13 = .ok (.iconst 0, 1) := by decide +kernel
theorem dX6_isSlot_14 : decode cX6_isSlot 14 = .ok (.ireturn, 1) := by decide +kernel
theorem dX6_bitOf_0 : decode cX6_bitOf 0 = .ok (.iload_n 0, 1) := by decide +kernel
theorem dX6_bitOf_1 : decode cX6_bitOf 1 = .ok (.iload_n 1, 1) := by decide +kernel
theorem dX6_bitOf_2 : decode cX6_bitOf 2 = .ok (.ishr, 1) := by decide +kernel
theorem dX6_bitOf_3 : decode cX6_bitOf 3 = .ok (.iconst 1, 1) := by decide +kernel
theorem dX6_bitOf_4 : decode cX6_bitOf 4 = .ok (.iand, 1) := by decide +kernel
theorem dX6_bitOf_5 : decode cX6_bitOf 5 = .ok (.ireturn, 1) := by decide +kernel
theorem dX6_nextCell_0 : decode cX6_nextCell 0 = .ok (.iload_n 1, 1) := by decide +kernel
theorem dX6_nextCell_1 : decode cX6_nextCell 1 = .ok (.tableswitch 87 0 3 #[31, 45, 60, 73], 31) := by decide +kernel
theorem dX6_nextCell_32 : decode cX6_nextCell 32 = .ok (.iload_n 0, 1) := by decide +kernel
theorem dX6_nextCell_33 : decode cX6_nextCell 33 = .ok (.iconst 5, 1) := by decide +kernel
theorem dX6_nextCell_34 : decode cX6_nextCell 34 = .ok (.irem, 1) := by decide +kernel
theorem dX6_nextCell_35 : decode cX6_nextCell 35 = .ok (.ifCond .ne 7, 3) := by decide +kernel
theorem dX6_nextCell_38 : decode cX6_nextCell 38 = .ok (.iconst (-1), 1) := by decide +kernel
theorem dX6_nextCell_39 : decode cX6_nextCell 39 = .ok (.goto 6, 3) := by decide +kernel
theorem dX6_nextCell_42 : decode cX6_nextCell 42 = .ok (.iload_n 0, 1) := by decide +kernel
theorem dX6_nextCell_43 : decode cX6_nextCell 43 = .ok (.iconst 1, 1) := by decide +kernel
theorem dX6_nextCell_44 : decode cX6_nextCell 44 = .ok (.isub, 1) := by decide +kernel
theorem dX6_nextCell_45 : decode cX6_nextCell 45 = .ok (.ireturn, 1) := by decide +kernel
theorem dX6_nextCell_46 : decode cX6_nextCell 46 = .ok (.iload_n 0, 1) := by decide +kernel
theorem dX6_nextCell_47 : decode cX6_nextCell 47 = .ok (.iconst 5, 1) := by decide +kernel
theorem dX6_nextCell_48 : decode cX6_nextCell 48 = .ok (.irem, 1) := by decide +kernel
theorem dX6_nextCell_49 : decode cX6_nextCell 49 = .ok (.iconst 4, 1) := by decide +kernel
theorem dX6_nextCell_50 : decode cX6_nextCell 50 = .ok (.if_icmp .ne 7, 3) := by decide +kernel
theorem dX6_nextCell_53 : decode cX6_nextCell 53 = .ok (.iconst (-1), 1) := by decide +kernel
theorem dX6_nextCell_54 : decode cX6_nextCell 54 = .ok (.goto 6, 3) := by decide +kernel
theorem dX6_nextCell_57 : decode cX6_nextCell 57 = .ok (.iload_n 0, 1) := by decide +kernel
theorem dX6_nextCell_58 : decode cX6_nextCell 58 = .ok (.iconst 1, 1) := by decide +kernel
theorem dX6_nextCell_59 : decode cX6_nextCell 59 = .ok (.iadd, 1) := by decide +kernel
theorem dX6_nextCell_60 : decode cX6_nextCell 60 = .ok (.ireturn, 1) := by decide +kernel
theorem dX6_nextCell_61 : decode cX6_nextCell 61 = .ok (.iload_n 0, 1) := by decide +kernel
theorem dX6_nextCell_62 : decode cX6_nextCell 62 = .ok (.iconst 5, 1) := by decide +kernel
theorem dX6_nextCell_63 : decode cX6_nextCell 63 = .ok (.if_icmp .ge 7, 3) := by decide +kernel
theorem dX6_nextCell_66 : decode cX6_nextCell 66 = .ok (.iconst (-1), 1) := by decide +kernel
theorem dX6_nextCell_67 : decode cX6_nextCell 67 = .ok (.goto 6, 3) := by decide +kernel
theorem dX6_nextCell_70 : decode cX6_nextCell 70 = .ok (.iload_n 0, 1) := by decide +kernel
theorem dX6_nextCell_71 : decode cX6_nextCell 71 = .ok (.iconst 5, 1) := by decide +kernel
theorem dX6_nextCell_72 : decode cX6_nextCell 72 = .ok (.isub, 1) := by decide +kernel
theorem dX6_nextCell_73 : decode cX6_nextCell 73 = .ok (.ireturn, 1) := by decide +kernel
theorem dX6_nextCell_74 : decode cX6_nextCell 74 = .ok (.iload_n 0, 1) := by decide +kernel
theorem dX6_nextCell_75 : decode cX6_nextCell 75 = .ok (.bipush 20, 2) := by decide +kernel
theorem dX6_nextCell_77 : decode cX6_nextCell 77 = .ok (.if_icmp .lt 7, 3) := by decide +kernel
theorem dX6_nextCell_80 : decode cX6_nextCell 80 = .ok (.iconst (-1), 1) := by decide +kernel
theorem dX6_nextCell_81 : decode cX6_nextCell 81 = .ok (.goto 6, 3) := by decide +kernel
theorem dX6_nextCell_84 : decode cX6_nextCell 84 = .ok (.iload_n 0, 1) := by decide +kernel
theorem dX6_nextCell_85 : decode cX6_nextCell 85 = .ok (.iconst 5, 1) := by decide +kernel
theorem dX6_nextCell_86 : decode cX6_nextCell 86 = .ok (.iadd, 1) := by decide +kernel
theorem dX6_nextCell_87 : decode cX6_nextCell 87 = .ok (.ireturn, 1) := by decide +kernel
theorem dX6_nextCell_88 : decode cX6_nextCell 88 = .ok (.iconst (-1), 1) := by decide +kernel
theorem dX6_nextCell_89 : decode cX6_nextCell 89 = .ok (.ireturn, 1) := by decide +kernel
theorem dX7_init_0 : decode cX7_init 0 = .ok (.aload_n 0, 1) := by decide +kernel
theorem dX7_init_1 : decode cX7_init 1 = .ok (.invokespecial 1, 3) := by decide +kernel
theorem dX7_init_4 : decode cX7_init 4 = .ok (.aload_n 0, 1) := by decide +kernel
theorem dX7_init_5 : decode cX7_init 5 = .ok (.iconst 4, 1) := by decide +kernel
theorem dX7_init_6 : decode cX7_init 6 = .ok (.newarray .int, 2) := by decide +kernel
theorem dX7_init_8 : decode cX7_init 8 = .ok (.putfield 7, 3) := by decide +kernel
theorem dX7_init_11 : decode cX7_init 11 = .ok (.aload_n 0, 1) := by decide +kernel
theorem dX7_init_12 : decode cX7_init 12 = .ok (.iconst 5, 1) := by decide +kernel
theorem dX7_init_13 : decode cX7_init 13 = .ok (.newarray .int, 2) := by decide +kernel
theorem dX7_init_15 : decode cX7_init 15 = .ok (.putfield 13, 3) := by decide +kernel
theorem dX7_init_18 : decode cX7_init 18 = .ok (.aload_n 0, 1) := by decide +kernel
theorem dX7_init_19 : decode cX7_init 19 = .ok (.bipush 14, 2) := by decide +kernel
theorem dX7_init_21 : decode cX7_init 21 = .ok (.newarray .int, 2) := by decide +kernel
theorem dX7_init_23 : decode cX7_init 23 = .ok (.putfield 16, 3) := by decide +kernel
theorem dX7_init_26 : decode cX7_init 26 = .ok (.aload_n 0, 1) := by decide +kernel
theorem dX7_init_27 : decode cX7_init 27 = .ok (.iconst 5, 1) := by decide +kernel
theorem dX7_init_28 : decode cX7_init 28 = .ok (.newarray .int, 2) := by decide +kernel
theorem dX7_init_30 : decode cX7_init 30 = .ok (.putfield 19, 3) := by decide +kernel
theorem dX7_init_33 : decode cX7_init 33 = .ok (.aload_n 0, 1) := by decide +kernel
theorem dX7_init_34 : decode cX7_init 34 = .ok (.iconst 4, 1) := by decide +kernel
theorem dX7_init_35 : decode cX7_init 35 = .ok (.newarray .int, 2) := by decide +kernel
theorem dX7_init_37 : decode cX7_init 37 = .ok (.putfield 22, 3) := by decide +kernel
theorem dX7_init_40 : decode cX7_init 40 = .ok (.aload_n 0, 1) := by decide +kernel
theorem dX7_init_41 : decode cX7_init 41 = .ok (.iconst 4, 1) := by decide +kernel
theorem dX7_init_42 : decode cX7_init 42 = .ok (.newarray .int, 2) := by decide +kernel
theorem dX7_init_44 : decode cX7_init 44 = .ok (.putfield 25, 3) := by decide +kernel
theorem dX7_init_47 : decode cX7_init 47 = .ok (.aload_n 0, 1) := by decide +kernel
theorem dX7_init_48 : decode cX7_init 48 = .ok (.bipush 48, 2) := by decide +kernel
theorem dX7_init_50 : decode cX7_init 50 = .ok (.newarray .int, 2) := by decide +kernel
theorem dX7_init_52 : decode cX7_init 52 = .ok (.putfield 28, 3) := by decide +kernel
theorem dX7_init_55 : decode cX7_init 55 = .ok (.aload_n 0, 1) := by decide +kernel
theorem dX7_init_56 : decode cX7_init 56 = .ok (.bipush 15, 2) := by decide +kernel
theorem dX7_init_58 : decode cX7_init 58 = .ok (.putfield 31, 3) := by decide +kernel
theorem dX7_init_61 : decode cX7_init 61 = .ok (.aload_n 0, 1) := by decide +kernel
theorem dX7_init_62 : decode cX7_init 62 = .ok (.bipush 98, 2) := by decide +kernel
theorem dX7_init_64 : decode cX7_init 64 = .ok (.newarray .int, 2) := by decide +kernel
theorem dX7_init_66 : decode cX7_init 66 = .ok (.putfield 35, 3) := by decide +kernel
theorem dX7_init_69 : decode cX7_init 69 = .ok (.aload_n 0, 1) := by decide +kernel
theorem dX7_init_70 : decode cX7_init 70 = .ok (.bipush 6, 2) := by decide +kernel
theorem dX7_init_72 : decode cX7_init 72 = .ok (.newarray .int, 2) := by decide +kernel
theorem dX7_init_74 : decode cX7_init 74 = .ok (.putfield 38, 3) := by decide +kernel
theorem dX7_init_77 : decode cX7_init 77 = .ok (.aload_n 0, 1) := by decide +kernel
theorem dX7_init_78 : decode cX7_init 78 = .ok (.bipush 6, 2) := by decide +kernel
theorem dX7_init_80 : decode cX7_init 80 = .ok (.newarray .int, 2) := by decide +kernel
theorem dX7_init_82 : decode cX7_init 82 = .ok (.putfield 41, 3) := by decide +kernel
theorem dX7_init_85 : decode cX7_init 85 = .ok (.aload_n 0, 1) := by decide +kernel
theorem dX7_init_86 : decode cX7_init 86 = .ok (.bipush 6, 2) := by decide +kernel
theorem dX7_init_88 : decode cX7_init 88 = .ok (.newarray .int, 2) := by decide +kernel
theorem dX7_init_90 : decode cX7_init 90 = .ok (.putfield 44, 3) := by decide +kernel
theorem dX7_init_93 : decode cX7_init 93 = .ok (.aload_n 0, 1) := by decide +kernel
theorem dX7_init_94 : decode cX7_init 94 = .ok (.iconst 2, 1) := by decide +kernel
theorem dX7_init_95 : decode cX7_init 95 = .ok (.newarray .boolean, 2) := by decide +kernel
theorem dX7_init_97 : decode cX7_init 97 = .ok (.putfield 47, 3) := by decide +kernel
theorem dX7_init_100 : decode cX7_init 100 = .ok (.aload_n 0, 1) := by decide +kernel
theorem dX7_init_101 : decode cX7_init 101 = .ok (.bipush 14, 2) := by decide +kernel
theorem dX7_init_103 : decode cX7_init 103 = .ok (.newarray .int, 2) := by decide +kernel
theorem dX7_init_105 : decode cX7_init 105 = .ok (.putfield 51, 3) := by decide +kernel
theorem dX7_init_108 : decode cX7_init 108 = .ok (.return_, 1) := by decide +kernel
theorem dX7_in_0 : decode cX7_in 0 = .ok (.lload_n 0, 1) := by decide +kernel
theorem dX7_in_1 : decode cX7_in 1 = .ok (.lload_n 2, 1) := by decide +kernel
theorem dX7_in_2 : decode cX7_in 2 = .ok (.lcmp, 1) := by decide +kernel
theorem dX7_in_3 : decode cX7_in 3 = .ok (.ifCond .lt 14, 3) := by decide +kernel
theorem dX7_in_6 : decode cX7_in 6 = .ok (.lload_n 0, 1) := by decide +kernel
theorem dX7_in_7 : decode cX7_in 7 = .ok (.lload 4, 2) := by decide +kernel
theorem dX7_in_9 : decode cX7_in 9 = .ok (.lcmp, 1) := by decide +kernel
theorem dX7_in_10 : decode cX7_in 10 = .ok (.ifCond .gt 7, 3) := by decide +kernel
theorem dX7_in_13 : decode cX7_in 13 = .ok (.iconst 1, 1) := by decide +kernel
theorem dX7_in_14 : decode cX7_in 14 = .ok (.goto 4, 3) := by decide +kernel
theorem dX7_in_17 : decode cX7_in 17 = .ok (.iconst 0, 1) := by decide +kernel
theorem dX7_in_18 : decode cX7_in 18 = .ok (.ireturn, 1) := by decide +kernel
theorem dX7_has_0 : decode cX7_has 0 = .ok (.iload_n 0, 1) := by decide +kernel
theorem dX7_has_1 : decode cX7_has 1 = .ok (.iload_n 1, 1) := by decide +kernel
theorem dX7_has_2 : decode cX7_has 2 = .ok (.ishr, 1) := by decide +kernel
theorem dX7_has_3 : decode cX7_has 3 = .ok (.iconst 1, 1) := by decide +kernel
theorem dX7_has_4 : decode cX7_has 4 = .ok (.iand, 1) := by decide +kernel
theorem dX7_has_5 : decode cX7_has 5 = .ok (.iconst 1, 1) := by decide +kernel
theorem dX7_has_6 : decode cX7_has 6 = .ok (.if_icmp .ne 7, 3) := by decide +kernel
theorem dX7_has_9 : decode cX7_has 9 = .ok (.iconst 1, 1) := by decide +kernel
theorem dX7_has_10 : decode cX7_has 10 = .ok (.goto 4, 3) := by decide +kernel
theorem dX7_has_13 : decode cX7_has 13 = .ok (.iconst 0, 1) := by decide +kernel
theorem dX7_has_14 : decode cX7_has 14 = .ok (.ireturn, 1) := by decide +kernel
theorem dX7_ones_0 : decode cX7_ones 0 = .ok (.iconst 0, 1) := by decide +kernel
theorem dX7_ones_1 : decode cX7_ones 1 = .ok (.istore_n 1, 1) := by decide +kernel
theorem dX7_ones_2 : decode cX7_ones 2 = .ok (.iconst 0, 1) := by decide +kernel
theorem dX7_ones_3 : decode cX7_ones 3 = .ok (.istore_n 2, 1) := by decide +kernel
theorem dX7_ones_4 : decode cX7_ones 4 = .ok (.iload_n 2, 1) := by decide +kernel
theorem dX7_ones_5 : decode cX7_ones 5 = .ok (.bipush 25, 2) := by decide +kernel
theorem dX7_ones_7 : decode cX7_ones 7 = .ok (.if_icmp .ge 17, 3) := by decide +kernel
theorem dX7_ones_10 : decode cX7_ones 10 = .ok (.iload_n 1, 1) := by decide +kernel
theorem dX7_ones_11 : decode cX7_ones 11 = .ok (.iload_n 0, 1) := by decide +kernel
theorem dX7_ones_12 : decode cX7_ones 12 = .ok (.iload_n 2, 1) := by decide +kernel
theorem dX7_ones_13 : decode cX7_ones 13 = .ok (.ishr, 1) := by decide +kernel
theorem dX7_ones_14 : decode cX7_ones 14 = .ok (.iconst 1, 1) := by decide +kernel
theorem dX7_ones_15 : decode cX7_ones 15 = .ok (.iand, 1) := by decide +kernel
theorem dX7_ones_16 : decode cX7_ones 16 = .ok (.iadd, 1) := by decide +kernel
theorem dX7_ones_17 : decode cX7_ones 17 = .ok (.istore_n 1, 1) := by decide +kernel
theorem dX7_ones_18 : decode cX7_ones 18 = .ok (.iinc 2 1, 3) := by decide +kernel
theorem dX7_ones_21 : decode cX7_ones 21 = .ok (.goto (-17), 3) := by decide +kernel
theorem dX7_ones_24 : decode cX7_ones 24 = .ok (.iload_n 1, 1) := by decide +kernel
theorem dX7_ones_25 : decode cX7_ones 25 = .ok (.ireturn, 1) := by decide +kernel
set_option maxRecDepth 20000 in
theorem ggX7_write_X7_in : GoodIn wsX7_write wsX7_in := goodIn_r _ [7] (by decide +kernel) (by decide +kernel)
set_option maxRecDepth 20000 in
theorem gX7_write_X7_in : GoodIn wsX7_write (va_wsS RX7 56 yX7_in wsX7_in) := goodIn_app (goodIn_of _ (by decide +kernel)) ggX7_write_X7_in
theorem dX7_write_0 : decode cX7_write 0 = .ok (.iload_n 1, 1) := by decide +kernel
theorem dX7_write_1 : decode cX7_write 1 = .ok (.i2l, 1) := by decide +kernel
theorem dX7_write_2 : decode cX7_write 2 = .ok (.lconst 0, 1) := by decide +kernel
theorem dX7_write_3 : decode cX7_write 3 = .ok (.ldc2_w 54, 3) := by decide +kernel
theorem dX7_write_6 : decode cX7_write 6 = .ok (.invokestatic 56, 3) := by decide +kernel
theorem dX7_write_9 : decode cX7_write 9 = .ok (.ifCond .ne 6, 3) := by decide +kernel
theorem dX7_write_12 : decode cX7_write 12 = .ok (.bipush (-2), 2) := by decide +kernel
theorem dX7_write_14 : decode cX7_write 14 = .ok (.ireturn, 1) := by decide +kernel
theorem dX7_write_15 : decode cX7_write 15 = .ok (.aload_n 0, 1) := by decide +kernel
theorem dX7_write_16 : decode cX7_write 16 = .ok (.getfield 60, 3) := by decide +kernel
theorem dX7_write_19 : decode cX7_write 19 = .ok (.bipush 48, 2) := by decide +kernel
theorem dX7_write_21 : decode cX7_write 21 = .ok (.if_icmp .ne 6, 3) := by decide +kernel
theorem dX7_write_24 : decode cX7_write 24 = .ok (.bipush (-4), 2) := by decide +kernel
theorem dX7_write_26 : decode cX7_write 26 = .ok (.ireturn, 1) := by decide +kernel
theorem dX7_write_27 : decode cX7_write 27 = .ok (.aload_n 0, 1) := by decide +kernel
theorem dX7_write_28 : decode cX7_write 28 = .ok (.getfield 28, 3) := by decide +kernel
theorem dX7_write_31 : decode cX7_write 31 = .ok (.aload_n 0, 1) := by decide +kernel
theorem dX7_write_32 : decode cX7_write 32 = .ok (.getfield 60, 3) := by decide +kernel
theorem dX7_write_35 : decode cX7_write 35 = .ok (.iload_n 1, 1) := by decide +kernel
theorem dX7_write_36 : decode cX7_write 36 = .ok (.iastore, 1) := by decide +kernel
theorem dX7_write_37 : decode cX7_write 37 = .ok (.aload_n 0, 1) := by decide +kernel
theorem dX7_write_38 : decode cX7_write 38 = .ok (.dup, 1) := by decide +kernel
theorem dX7_write_39 : decode cX7_write 39 = .ok (.getfield 60, 3) := by decide +kernel
theorem dX7_write_42 : decode cX7_write 42 = .ok (.iconst 1, 1) := by decide +kernel
theorem dX7_write_43 : decode cX7_write 43 = .ok (.iadd, 1) := by decide +kernel
theorem dX7_write_44 : decode cX7_write 44 = .ok (.putfield 60, 3) := by decide +kernel
theorem dX7_write_47 : decode cX7_write 47 = .ok (.aload_n 0, 1) := by decide +kernel
theorem dX7_write_48 : decode cX7_write 48 = .ok (.getfield 60, 3) := by decide +kernel
theorem dX7_write_51 : decode cX7_write 51 = .ok (.ireturn, 1) := by decide +kernel
theorem dX7_wipe_0 : decode cX7_wipe 0 = .ok (.aload_n 0, 1) := by decide +kernel
theorem dX7_wipe_1 : decode cX7_wipe 1 = .ok (.getfield 60, 3) := by decide +kernel
theorem dX7_wipe_4 : decode cX7_wipe 4 = .ok (.istore_n 1, 1) := by decide +kernel
theorem dX7_wipe_5 : decode cX7_wipe 5 = .ok (.aload_n 0, 1) := by decide +kernel
theorem dX7_wipe_6 : decode cX7_wipe 6 = .ok (.iconst 0, 1) := by decide +kernel
theorem dX7_wipe_7 : decode cX7_wipe 7 = .ok (.putfield 60, 3) := by decide +kernel
theorem dX7_wipe_10 : decode cX7_wipe 10 = .ok (.iload_n 1, 1) := by decide +kernel
theorem dX7_wipe_11 : decode cX7_wipe 11 = .ok (.ireturn, 1) := by decide +kernel
set_option maxRecDepth 20000 in
theorem ggX7_partOf_X7_ones : GoodIn wsX7_partOf wsX7_ones := goodIn_r _ [5] (by decide +kernel) (by decide +kernel)
set_option maxRecDepth 20000 in
theorem gX7_partOf_X7_ones : GoodIn wsX7_partOf (va_wsS RX7 63 yX7_ones wsX7_ones) := goodIn_app (goodIn_of _ (by decide +kernel)) ggX7_partOf_X7_ones
theorem dX7_partOf_0 : decode cX7_partOf 0 = .ok (.iload_n 1, 1) := by decide +kernel
theorem dX7_partOf_1 : decode cX7_partOf 1 = .ok (.lookupswitch 152 #[(70, 92), (77, 132), (78, 112), (79, 72), (87, 51)], 51) := by decide +kernel
theorem dX7_partOf_52 : decode cX7_partOf 52 = .ok (.aload_n 0, 1) := by decide +kernel
theorem dX7_partOf_53 : decode cX7_partOf 53 = .ok (.getfield 19, 3) := by decide +kernel
theorem dX7_partOf_56 : decode cX7_partOf 56 = .ok (.iconst 0, 1) := by decide +kernel
theorem dX7_partOf_57 : decode cX7_partOf 57 = .ok (.iaload, 1) := by decide +kernel
theorem dX7_partOf_58 : decode cX7_partOf 58 = .ok (.invokestatic 63, 3) := by decide +kernel
theorem dX7_partOf_61 : decode cX7_partOf 61 = .ok (.bipush 6, 2) := by decide +kernel
theorem dX7_partOf_63 : decode cX7_partOf 63 = .ok (.if_icmp .ge 7, 3) := by decide +kernel
theorem dX7_partOf_66 : decode cX7_partOf 66 = .ok (.iconst 0, 1) := by decide +kernel
theorem dX7_partOf_67 : decode cX7_partOf 67 = .ok (.goto 5, 3) := by decide +kernel
theorem dX7_partOf_70 : decode cX7_partOf 70 = .ok (.bipush (-9), 2) := by decide +kernel
theorem dX7_partOf_72 : decode cX7_partOf 72 = .ok (.ireturn, 1) := by decide +kernel
theorem dX7_partOf_73 : decode cX7_partOf 73 = .ok (.aload_n 0, 1) := by decide +kernel
theorem dX7_partOf_74 : decode cX7_partOf 74 = .ok (.getfield 19, 3) := by decide +kernel
theorem dX7_partOf_77 : decode cX7_partOf 77 = .ok (.iconst 1, 1) := by decide +kernel
theorem dX7_partOf_78 : decode cX7_partOf 78 = .ok (.iaload, 1) := by decide +kernel
theorem dX7_partOf_79 : decode cX7_partOf 79 = .ok (.invokestatic 63, 3) := by decide +kernel
theorem dX7_partOf_82 : decode cX7_partOf 82 = .ok (.iconst 3, 1) := by decide +kernel
theorem dX7_partOf_83 : decode cX7_partOf 83 = .ok (.if_icmp .ge 7, 3) := by decide +kernel
theorem dX7_partOf_86 : decode cX7_partOf 86 = .ok (.iconst 1, 1) := by decide +kernel
theorem dX7_partOf_87 : decode cX7_partOf 87 = .ok (.goto 5, 3) := by decide +kernel
theorem dX7_partOf_90 : decode cX7_partOf 90 = .ok (.bipush (-9), 2) := by decide +kernel
theorem dX7_partOf_92 : decode cX7_partOf 92 = .ok (.ireturn, 1) := by decide +kernel
theorem dX7_partOf_93 : decode cX7_partOf 93 = .ok (.aload_n 0, 1) := by decide +kernel
theorem dX7_partOf_94 : decode cX7_partOf 94 = .ok (.getfield 19, 3) := by decide +kernel
theorem dX7_partOf_97 : decode cX7_partOf 97 = .ok (.iconst 2, 1) := by decide +kernel
theorem dX7_partOf_98 : decode cX7_partOf 98 = .ok (.iaload, 1) := by decide +kernel
theorem dX7_partOf_99 : decode cX7_partOf 99 = .ok (.invokestatic 63, 3) := by decide +kernel
theorem dX7_partOf_102 : decode cX7_partOf 102 = .ok (.iconst 3, 1) := by decide +kernel
theorem dX7_partOf_103 : decode cX7_partOf 103 = .ok (.if_icmp .ge 7, 3) := by decide +kernel
theorem dX7_partOf_106 : decode cX7_partOf 106 = .ok (.iconst 2, 1) := by decide +kernel
theorem dX7_partOf_107 : decode cX7_partOf 107 = .ok (.goto 5, 3) := by decide +kernel
theorem dX7_partOf_110 : decode cX7_partOf 110 = .ok (.bipush (-9), 2) := by decide +kernel
theorem dX7_partOf_112 : decode cX7_partOf 112 = .ok (.ireturn, 1) := by decide +kernel
theorem dX7_partOf_113 : decode cX7_partOf 113 = .ok (.aload_n 0, 1) := by decide +kernel
theorem dX7_partOf_114 : decode cX7_partOf 114 = .ok (.getfield 19, 3) := by decide +kernel
theorem dX7_partOf_117 : decode cX7_partOf 117 = .ok (.iconst 3, 1) := by decide +kernel
theorem dX7_partOf_118 : decode cX7_partOf 118 = .ok (.iaload, 1) := by decide +kernel
theorem dX7_partOf_119 : decode cX7_partOf 119 = .ok (.invokestatic 63, 3) := by decide +kernel
theorem dX7_partOf_122 : decode cX7_partOf 122 = .ok (.iconst 2, 1) := by decide +kernel
theorem dX7_partOf_123 : decode cX7_partOf 123 = .ok (.if_icmp .ge 7, 3) := by decide +kernel
theorem dX7_partOf_126 : decode cX7_partOf 126 = .ok (.iconst 3, 1) := by decide +kernel
theorem dX7_partOf_127 : decode cX7_partOf 127 = .ok (.goto 5, 3) := by decide +kernel
theorem dX7_partOf_130 : decode cX7_partOf 130 = .ok (.bipush (-9), 2) := by decide +kernel
theorem dX7_partOf_132 : decode cX7_partOf 132 = .ok (.ireturn, 1) := by decide +kernel
theorem dX7_partOf_133 : decode cX7_partOf 133 = .ok (.aload_n 0, 1) := by decide +kernel
theorem dX7_partOf_134 : decode cX7_partOf 134 = .ok (.getfield 19, 3) := by decide +kernel
theorem dX7_partOf_137 : decode cX7_partOf 137 = .ok (.iconst 4, 1) := by decide +kernel
theorem dX7_partOf_138 : decode cX7_partOf 138 = .ok (.iaload, 1) := by decide +kernel
theorem dX7_partOf_139 : decode cX7_partOf 139 = .ok (.invokestatic 63, 3) := by decide +kernel
theorem dX7_partOf_142 : decode cX7_partOf 142 = .ok (.iconst 4, 1) := by decide +kernel
theorem dX7_partOf_143 : decode cX7_partOf 143 = .ok (.if_icmp .ge 7, 3) := by decide +kernel
theorem dX7_partOf_146 : decode cX7_partOf 146 = .ok (.iconst 4, 1) := by decide +kernel
theorem dX7_partOf_147 : decode cX7_partOf 147 = .ok (.goto 5, 3) := by decide +kernel
theorem dX7_partOf_150 : decode cX7_partOf 150 = .ok (.bipush (-9), 2) := by decide +kernel
theorem dX7_partOf_152 : decode cX7_partOf 152 = .ok (.ireturn, 1) := by decide +kernel
theorem dX7_partOf_153 : decode cX7_partOf 153 = .ok (.bipush (-9), 2) := by decide +kernel
theorem dX7_partOf_155 : decode cX7_partOf 155 = .ok (.ireturn, 1) := by decide +kernel
set_option maxRecDepth 20000 in
theorem ggX7_readText_X7_partOf : GoodIn wsX7_readText wsX7_partOf := goodIn_r _ [10, 3, 11, 12, 9, 13, 28, 29, 30, 31, 32, 33, 34, 35, 36, 37, 38, 39, 40, 41, 42, 43, 44, 45, 46, 47, 48, 49, 50, 51] (by decide +kernel) (by decide +kernel)
set_option maxRecDepth 20000 in
theorem gX7_readText_X7_partOf : GoodIn wsX7_readText (wsV RX7 73 RX7 yX7_partOf wsX7_partOf) := goodIn_app (goodIn_of _ (by decide +kernel)) ggX7_readText_X7_partOf
set_option maxRecDepth 20000 in
theorem ggX7_readText_X7_readPart : GoodIn wsX7_readText wsX7_readPart := goodIn_r _ [17, 1, 2, 3, 4, 5, 18, 19, 20, 21, 22, 23, 9, 24, 25, 26, 27, 11, 12, 13, 28, 29, 30, 31, 32, 33, 34, 35, 36, 37, 38, 39, 40, 41, 42, 43, 44, 45, 46, 47, 48, 49, 50, 51] (by decide +kernel) (by decide +kernel)
set_option maxRecDepth 20000 in
theorem gX7_readText_X7_readPart : GoodIn wsX7_readText (wsV RX7 76 RX7 yX7_readPart wsX7_readPart) := goodIn_app (goodIn_of _ (by decide +kernel)) ggX7_readText_X7_readPart
theorem dX7_readText_0 : decode cX7_readText 0 = .ok (.aload_n 0, 1) := by decide +kernel
theorem dX7_readText_1 : decode cX7_readText 1 = .ok (.iconst 0, 1) := by decide +kernel
theorem dX7_readText_2 : decode cX7_readText 2 = .ok (.putfield 67, 3) := by decide +kernel
theorem dX7_readText_5 : decode cX7_readText 5 = .ok (.aload_n 0, 1) := by decide +kernel
theorem dX7_readText_6 : decode cX7_readText 6 = .ok (.bipush (-9), 2) := by decide +kernel
theorem dX7_readText_8 : decode cX7_readText 8 = .ok (.putfield 70, 3) := by decide +kernel
theorem dX7_readText_11 : decode cX7_readText 11 = .ok (.iconst 0, 1) := by decide +kernel
theorem dX7_readText_12 : decode cX7_readText 12 = .ok (.istore_n 1, 1) := by decide +kernel
theorem dX7_readText_13 : decode cX7_readText 13 = .ok (.iload_n 1, 1) := by decide +kernel
theorem dX7_readText_14 : decode cX7_readText 14 = .ok (.iconst 5, 1) := by decide +kernel
theorem dX7_readText_15 : decode cX7_readText 15 = .ok (.if_icmp .ge 16, 3) := by decide +kernel
theorem dX7_readText_18 : decode cX7_readText 18 = .ok (.aload_n 0, 1) := by decide +kernel
theorem dX7_readText_19 : decode cX7_readText 19 = .ok (.getfield 19, 3) := by decide +kernel
theorem dX7_readText_22 : decode cX7_readText 22 = .ok (.iload_n 1, 1) := by decide +kernel
theorem dX7_readText_23 : decode cX7_readText 23 = .ok (.iconst 0, 1) := by decide +kernel
theorem dX7_readText_24 : decode cX7_readText 24 = .ok (.iastore, 1) := by decide +kernel
theorem dX7_readText_25 : decode cX7_readText 25 = .ok (.iinc 1 1, 3) := by decide +kernel
theorem dX7_readText_28 : decode cX7_readText 28 = .ok (.goto (-15), 3) := by decide +kernel
theorem dX7_readText_31 : decode cX7_readText 31 = .ok (.aload_n 0, 1) := by decide +kernel
theorem dX7_readText_32 : decode cX7_readText 32 = .ok (.getfield 60, 3) := by decide +kernel
theorem dX7_readText_35 : decode cX7_readText 35 = .ok (.ifCond .eq 14, 3) := by decide +kernel
theorem dX7_readText_38 : decode cX7_readText 38 = .ok (.aload_n 0, 1) := by decide +kernel
theorem dX7_readText_39 : decode cX7_readText 39 = .ok (.getfield 28, 3) := by decide +kernel
theorem dX7_readText_42 : decode cX7_readText 42 = .ok (.iconst 0, 1) := by decide +kernel
theorem dX7_readText_43 : decode cX7_readText 43 = .ok (.iaload, 1) := by decide +kernel
theorem dX7_readText_44 : decode cX7_readText 44 = .ok (.bipush 84, 2) := by decide +kernel
theorem dX7_readText_46 : decode cX7_readText 46 = .ok (.if_icmp .eq 5, 3) := by decide +kernel
theorem dX7_readText_49 : decode cX7_readText 49 = .ok (.iconst 0, 1) := by decide +kernel
theorem dX7_readText_50 : decode cX7_readText 50 = .ok (.ireturn, 1) := by decide +kernel
theorem dX7_readText_51 : decode cX7_readText 51 = .ok (.aload_n 0, 1) := by decide +kernel
theorem dX7_readText_52 : decode cX7_readText 52 = .ok (.iconst 1, 1) := by decide +kernel
theorem dX7_readText_53 : decode cX7_readText 53 = .ok (.putfield 67, 3) := by decide +kernel
theorem dX7_readText_56 : decode cX7_readText 56 = .ok (.aload_n 0, 1) := by decide +kernel
theorem dX7_readText_57 : decode cX7_readText 57 = .ok (.getfield 70, 3) := by decide +kernel
theorem dX7_readText_60 : decode cX7_readText 60 = .ok (.bipush (-9), 2) := by decide +kernel
theorem dX7_readText_62 : decode cX7_readText 62 = .ok (.if_icmp .ne 34, 3) := by decide +kernel
theorem dX7_readText_65 : decode cX7_readText 65 = .ok (.aload_n 0, 1) := by decide +kernel
theorem dX7_readText_66 : decode cX7_readText 66 = .ok (.getfield 67, 3) := by decide +kernel
theorem dX7_readText_69 : decode cX7_readText 69 = .ok (.aload_n 0, 1) := by decide +kernel
theorem dX7_readText_70 : decode cX7_readText 70 = .ok (.getfield 60, 3) := by decide +kernel
theorem dX7_readText_73 : decode cX7_readText 73 = .ok (.if_icmp .ge 23, 3) := by decide +kernel
theorem dX7_readText_76 : decode cX7_readText 76 = .ok (.aload_n 0, 1) := by decide +kernel
theorem dX7_readText_77 : decode cX7_readText 77 = .ok (.aload_n 0, 1) := by decide +kernel
theorem dX7_readText_78 : decode cX7_readText 78 = .ok (.aload_n 0, 1) := by decide +kernel
theorem dX7_readText_79 : decode cX7_readText 79 = .ok (.getfield 28, 3) := by decide +kernel
theorem dX7_readText_82 : decode cX7_readText 82 = .ok (.aload_n 0, 1) := by decide +kernel
theorem dX7_readText_83 : decode cX7_readText 83 = .ok (.getfield 67, 3) := by decide +kernel
theorem dX7_readText_86 : decode cX7_readText 86 = .ok (.iaload, 1) := by decide +kernel
theorem dX7_readText_87 : decode cX7_readText 87 = .ok (.invokevirtual 73, 3) := by decide +kernel
theorem dX7_readText_90 : decode cX7_readText 90 = .ok (.invokevirtual 76, 3) := by decide +kernel
theorem dX7_readText_93 : decode cX7_readText 93 = .ok (.goto (-37), 3) := by decide +kernel
theorem dX7_readText_96 : decode cX7_readText 96 = .ok (.aload_n 0, 1) := by decide +kernel
theorem dX7_readText_97 : decode cX7_readText 97 = .ok (.getfield 70, 3) := by decide +kernel
theorem dX7_readText_100 : decode cX7_readText 100 = .ok (.ireturn, 1) := by decide +kernel
set_option maxRecDepth 20000 in
theorem ggX7_readPart_X7_in : GoodIn wsX7_readPart wsX7_in := goodIn_r _ [13] (by decide +kernel) (by decide +kernel)
set_option maxRecDepth 20000 in
theorem gX7_readPart_X7_in : GoodIn wsX7_readPart (va_wsS RX7 56 yX7_in wsX7_in) := goodIn_app (goodIn_of _ (by decide +kernel)) ggX7_readPart_X7_in
set_option maxRecDepth 20000 in
theorem ggX7_readPart_X7_has : GoodIn wsX7_readPart wsX7_has := goodIn_r _ [16] (by decide +kernel) (by decide +kernel)
set_option maxRecDepth 20000 in
theorem gX7_readPart_X7_has : GoodIn wsX7_readPart (va_wsS RX7 82 yX7_has wsX7_has) := goodIn_app (goodIn_of _ (by decide +kernel)) ggX7_readPart_X7_has
set_option maxRecDepth 20000 in
theorem ggX7_readPart_X7_ones : GoodIn wsX7_readPart wsX7_ones := goodIn_r _ [19] (by decide +kernel) (by decide +kernel)
set_option maxRecDepth 20000 in
theorem gX7_readPart_X7_ones : GoodIn wsX7_readPart (va_wsS RX7 63 yX7_ones wsX7_ones) := goodIn_app (goodIn_of _ (by decide +kernel)) ggX7_readPart_X7_ones
theorem dX7_readPart_0 : decode cX7_readPart 0 = .ok (.iload_n 1, 1) := by decide +kernel
theorem dX7_readPart_1 : decode cX7_readPart 1 = .ok (.bipush (-9), 2) := by decide +kernel
theorem dX7_readPart_3 : decode cX7_readPart 3 = .ok (.if_icmp .ne 12, 3) := by decide +kernel
theorem dX7_readPart_6 : decode cX7_readPart 6 = .ok (.aload_n 0, 1) := by decide +kernel
theorem dX7_readPart_7 : decode cX7_readPart 7 = .ok (.aload_n 0, 1) := by decide +kernel
theorem dX7_readPart_8 : decode cX7_readPart 8 = .ok (.getfield 67, 3) := by decide +kernel
theorem dX7_readPart_11 : decode cX7_readPart 11 = .ok (.putfield 70, 3) := by decide +kernel
theorem dX7_readPart_14 : decode cX7_readPart 14 = .ok (.return_, 1) := by decide +kernel
theorem dX7_readPart_15 : decode cX7_readPart 15 = .ok (.aload_n 0, 1) := by decide +kernel
theorem dX7_readPart_16 : decode cX7_readPart 16 = .ok (.getfield 19, 3) := by decide +kernel
theorem dX7_readPart_19 : decode cX7_readPart 19 = .ok (.iconst 0, 1) := by decide +kernel
theorem dX7_readPart_20 : decode cX7_readPart 20 = .ok (.iaload, 1) := by decide +kernel
theorem dX7_readPart_21 : decode cX7_readPart 21 = .ok (.aload_n 0, 1) := by decide +kernel
theorem dX7_readPart_22 : decode cX7_readPart 22 = .ok (.getfield 19, 3) := by decide +kernel
theorem dX7_readPart_25 : decode cX7_readPart 25 = .ok (.iconst 1, 1) := by decide +kernel
theorem dX7_readPart_26 : decode cX7_readPart 26 = .ok (.iaload, 1) := by decide +kernel
theorem dX7_readPart_27 : decode cX7_readPart 27 = .ok (.ior, 1) := by decide +kernel
theorem dX7_readPart_28 : decode cX7_readPart 28 = .ok (.aload_n 0, 1) := by decide +kernel
theorem dX7_readPart_29 : decode cX7_readPart 29 = .ok (.getfield 19, 3) := by decide +kernel
theorem dX7_readPart_32 : decode cX7_readPart 32 = .ok (.iconst 2, 1) := by decide +kernel
theorem dX7_readPart_33 : decode cX7_readPart 33 = .ok (.iaload, 1) := by decide +kernel
theorem dX7_readPart_34 : decode cX7_readPart 34 = .ok (.ior, 1) := by decide +kernel
theorem dX7_readPart_35 : decode cX7_readPart 35 = .ok (.aload_n 0, 1) := by decide +kernel
theorem dX7_readPart_36 : decode cX7_readPart 36 = .ok (.getfield 19, 3) := by decide +kernel
theorem dX7_readPart_39 : decode cX7_readPart 39 = .ok (.iconst 3, 1) := by decide +kernel
theorem dX7_readPart_40 : decode cX7_readPart 40 = .ok (.iaload, 1) := by decide +kernel
theorem dX7_readPart_41 : decode cX7_readPart 41 = .ok (.ior, 1) := by decide +kernel
theorem dX7_readPart_42 : decode cX7_readPart 42 = .ok (.aload_n 0, 1) := by decide +kernel
theorem dX7_readPart_43 : decode cX7_readPart 43 = .ok (.getfield 19, 3) := by decide +kernel
theorem dX7_readPart_46 : decode cX7_readPart 46 = .ok (.iconst 4, 1) := by decide +kernel
theorem dX7_readPart_47 : decode cX7_readPart 47 = .ok (.iaload, 1) := by decide +kernel
theorem dX7_readPart_48 : decode cX7_readPart 48 = .ok (.ior, 1) := by decide +kernel
theorem dX7_readPart_49 : decode cX7_readPart 49 = .ok (.istore_n 2, 1) := by decide +kernel
theorem dX7_readPart_50 : decode cX7_readPart 50 = .ok (.aload_n 0, 1) := by decide +kernel
theorem dX7_readPart_51 : decode cX7_readPart 51 = .ok (.getfield 67, 3) := by decide +kernel
theorem dX7_readPart_54 : decode cX7_readPart 54 = .ok (.iconst 1, 1) := by decide +kernel
theorem dX7_readPart_55 : decode cX7_readPart 55 = .ok (.iadd, 1) := by decide +kernel
theorem dX7_readPart_56 : decode cX7_readPart 56 = .ok (.aload_n 0, 1) := by decide +kernel
theorem dX7_readPart_57 : decode cX7_readPart 57 = .ok (.getfield 60, 3) := by decide +kernel
theorem dX7_readPart_60 : decode cX7_readPart 60 = .ok (.if_icmp .ge 20, 3) := by decide +kernel
theorem dX7_readPart_63 : decode cX7_readPart 63 = .ok (.aload_n 0, 1) := by decide +kernel
theorem dX7_readPart_64 : decode cX7_readPart 64 = .ok (.getfield 28, 3) := by decide +kernel
theorem dX7_readPart_67 : decode cX7_readPart 67 = .ok (.aload_n 0, 1) := by decide +kernel
theorem dX7_readPart_68 : decode cX7_readPart 68 = .ok (.getfield 67, 3) := by decide +kernel
theorem dX7_readPart_71 : decode cX7_readPart 71 = .ok (.iconst 1, 1) := by decide +kernel
theorem dX7_readPart_72 : decode cX7_readPart 72 = .ok (.iadd, 1) := by decide +kernel
theorem dX7_readPart_73 : decode cX7_readPart 73 = .ok (.iaload, 1) := by decide +kernel
theorem dX7_readPart_74 : decode cX7_readPart 74 = .ok (.bipush 97, 2) := by decide +kernel
theorem dX7_readPart_76 : decode cX7_readPart 76 = .ok (.isub, 1) := by decide +kernel
theorem dX7_readPart_77 : decode cX7_readPart 77 = .ok (.goto 5, 3) := by decide +kernel
theorem dX7_readPart_80 : decode cX7_readPart 80 = .ok (.bipush (-9), 2) := by decide +kernel
theorem dX7_readPart_82 : decode cX7_readPart 82 = .ok (.istore_n 3, 1) := by decide +kernel
theorem dX7_readPart_83 : decode cX7_readPart 83 = .ok (.iload_n 3, 1) := by decide +kernel
theorem dX7_readPart_84 : decode cX7_readPart 84 = .ok (.i2l, 1) := by decide +kernel
theorem dX7_readPart_85 : decode cX7_readPart 85 = .ok (.lconst 0, 1) := by decide +kernel
theorem dX7_readPart_86 : decode cX7_readPart 86 = .ok (.ldc2_w 80, 3) := by decide +kernel
theorem dX7_readPart_89 : decode cX7_readPart 89 = .ok (.invokestatic 56, 3) := by decide +kernel
theorem dX7_readPart_92 : decode cX7_readPart 92 = .ok (.ifCond .eq 11, 3) := by decide +kernel
theorem dX7_readPart_95 : decode cX7_readPart 95 = .ok (.iload_n 2, 1) := by decide +kernel
theorem dX7_readPart_96 : decode cX7_readPart 96 = .ok (.iload_n 3, 1) := by decide +kernel
theorem dX7_readPart_97 : decode cX7_readPart 97 = .ok (.invokestatic 82, 3) := by decide +kernel
theorem dX7_readPart_100 : decode cX7_readPart 100 = .ok (.ifCond .eq 14, 3) := by decide +kernel
theorem dX7_readPart_103 : decode cX7_readPart 103 = .ok (.aload_n 0, 1) := by decide +kernel
theorem dX7_readPart_104 : decode cX7_readPart 104 = .ok (.aload_n 0, 1) := by decide +kernel
theorem dX7_readPart_105 : decode cX7_readPart 105 = .ok (.getfield 67, 3) := by decide +kernel
theorem dX7_readPart_108 : decode cX7_readPart 108 = .ok (.iconst 1, 1) := by decide +kernel
theorem dX7_readPart_109 : decode cX7_readPart 109 = .ok (.iadd, 1) := by decide +kernel
theorem dX7_readPart_110 : decode cX7_readPart 110 = .ok (.putfield 70, 3) := by decide +kernel
theorem dX7_readPart_113 : decode cX7_readPart 113 = .ok (.return_, 1) := by decide +kernel
theorem dX7_readPart_114 : decode cX7_readPart 114 = .ok (.iload_n 1, 1) := by decide +kernel
theorem dX7_readPart_115 : decode cX7_readPart 115 = .ok (.iconst 4, 1) := by decide +kernel
theorem dX7_readPart_116 : decode cX7_readPart 116 = .ok (.if_icmp .ne 99, 3) := by decide +kernel
