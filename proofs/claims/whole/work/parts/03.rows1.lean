set_option maxRecDepth 20000 in
theorem ggX0_init_X4_init : GoodIn wsX0_init wsX4_init := goodIn_r _ [9, 10, 2, 3, 11, 12, 16, 17, 18, 19, 20] (by decide +kernel) (by decide +kernel)
set_option maxRecDepth 20000 in
theorem gX0_init_X4_init_n17 : GoodIn wsX0_init (wsX4_init) := ggX0_init_X4_init
theorem dX0_init_0 : decode cX0_init 0 = .ok (.aload_n 0, 1) := by decide +kernel
theorem dX0_init_1 : decode cX0_init 1 = .ok (.invokespecial 3, 3) := by decide +kernel
theorem dX0_init_4 : decode cX0_init 4 = .ok (.aload_n 0, 1) := by decide +kernel
theorem dX0_init_5 : decode cX0_init 5 = .ok (.bipush 14, 2) := by decide +kernel
theorem dX0_init_7 : decode cX0_init 7 = .ok (.anewarray 9, 3) := by decide +kernel
theorem dX0_init_10 : decode cX0_init 10 = .ok (.putfield 11, 3) := by decide +kernel
theorem dX0_init_13 : decode cX0_init 13 = .ok (.iconst 0, 1) := by decide +kernel
theorem dX0_init_14 : decode cX0_init 14 = .ok (.istore_n 1, 1) := by decide +kernel
theorem dX0_init_15 : decode cX0_init 15 = .ok (.iload_n 1, 1) := by decide +kernel
theorem dX0_init_16 : decode cX0_init 16 = .ok (.bipush 14, 2) := by decide +kernel
theorem dX0_init_18 : decode cX0_init 18 = .ok (.if_icmp .ge 22, 3) := by decide +kernel
theorem dX0_init_21 : decode cX0_init 21 = .ok (.aload_n 0, 1) := by decide +kernel
theorem dX0_init_22 : decode cX0_init 22 = .ok (.getfield 11, 3) := by decide +kernel
theorem dX0_init_25 : decode cX0_init 25 = .ok (.iload_n 1, 1) := by decide +kernel
theorem dX0_init_26 : decode cX0_init 26 = .ok (.new 9, 3) := by decide +kernel
theorem dX0_init_29 : decode cX0_init 29 = .ok (.dup, 1) := by decide +kernel
theorem dX0_init_30 : decode cX0_init 30 = .ok (.invokespecial 17, 3) := by decide +kernel
theorem dX0_init_33 : decode cX0_init 33 = .ok (.aastore, 1) := by decide +kernel
theorem dX0_init_34 : decode cX0_init 34 = .ok (.iinc 1 1, 3) := by decide +kernel
theorem dX0_init_37 : decode cX0_init 37 = .ok (.goto (-22), 3) := by decide +kernel
theorem dX0_init_40 : decode cX0_init 40 = .ok (.return_, 1) := by decide +kernel
theorem dX0_forget_0 : decode cX0_forget 0 = .ok (.aload_n 0, 1) := by decide +kernel
theorem dX0_forget_1 : decode cX0_forget 1 = .ok (.iconst 0, 1) := by decide +kernel
theorem dX0_forget_2 : decode cX0_forget 2 = .ok (.putfield 18, 3) := by decide +kernel
theorem dX0_forget_5 : decode cX0_forget 5 = .ok (.aload_n 0, 1) := by decide +kernel
theorem dX0_forget_6 : decode cX0_forget 6 = .ok (.iconst 0, 1) := by decide +kernel
theorem dX0_forget_7 : decode cX0_forget 7 = .ok (.putfield 22, 3) := by decide +kernel
theorem dX0_forget_10 : decode cX0_forget 10 = .ok (.return_, 1) := by decide +kernel
set_option maxRecDepth 20000 in
theorem ggX0_remember_X4_take : GoodIn wsX0_remember wsX4_take := goodIn_r _ [8, 9, 10, 11, 12, 13, 17, 18, 19, 20, 21] (by decide +kernel) (by decide +kernel)
set_option maxRecDepth 20000 in
theorem gX0_remember_X4_take : GoodIn wsX0_remember (wsV RX0 25 RX4 yX4_take wsX4_take) := goodIn_app (goodIn_of _ (by decide +kernel)) ggX0_remember_X4_take
theorem dX0_remember_0 : decode cX0_remember 0 = .ok (.aload_n 0, 1) := by decide +kernel
theorem dX0_remember_1 : decode cX0_remember 1 = .ok (.getfield 11, 3) := by decide +kernel
theorem dX0_remember_4 : decode cX0_remember 4 = .ok (.aload_n 0, 1) := by decide +kernel
theorem dX0_remember_5 : decode cX0_remember 5 = .ok (.getfield 18, 3) := by decide +kernel
theorem dX0_remember_8 : decode cX0_remember 8 = .ok (.aload_n 0, 1) := by decide +kernel
theorem dX0_remember_9 : decode cX0_remember 9 = .ok (.getfield 22, 3) := by decide +kernel
theorem dX0_remember_12 : decode cX0_remember 12 = .ok (.iadd, 1) := by decide +kernel
theorem dX0_remember_13 : decode cX0_remember 13 = .ok (.bipush 14, 2) := by decide +kernel
theorem dX0_remember_15 : decode cX0_remember 15 = .ok (.irem, 1) := by decide +kernel
theorem dX0_remember_16 : decode cX0_remember 16 = .ok (.aaload, 1) := by decide +kernel
theorem dX0_remember_17 : decode cX0_remember 17 = .ok (.aload_n 1, 1) := by decide +kernel
theorem dX0_remember_18 : decode cX0_remember 18 = .ok (.invokevirtual 25, 3) := by decide +kernel
theorem dX0_remember_21 : decode cX0_remember 21 = .ok (.aload_n 0, 1) := by decide +kernel
theorem dX0_remember_22 : decode cX0_remember 22 = .ok (.getfield 22, 3) := by decide +kernel
theorem dX0_remember_25 : decode cX0_remember 25 = .ok (.bipush 14, 2) := by decide +kernel
theorem dX0_remember_27 : decode cX0_remember 27 = .ok (.if_icmp .ge 16, 3) := by decide +kernel
theorem dX0_remember_30 : decode cX0_remember 30 = .ok (.aload_n 0, 1) := by decide +kernel
theorem dX0_remember_31 : decode cX0_remember 31 = .ok (.dup, 1) := by decide +kernel
theorem dX0_remember_32 : decode cX0_remember 32 = .ok (.getfield 22, 3) := by decide +kernel
theorem dX0_remember_35 : decode cX0_remember 35 = .ok (.iconst 1, 1) := by decide +kernel
theorem dX0_remember_36 : decode cX0_remember 36 = .ok (.iadd, 1) := by decide +kernel
theorem dX0_remember_37 : decode cX0_remember 37 = .ok (.putfield 22, 3) := by decide +kernel
theorem dX0_remember_40 : decode cX0_remember 40 = .ok (.goto 16, 3) := by decide +kernel
theorem dX0_remember_43 : decode cX0_remember 43 = .ok (.aload_n 0, 1) := by decide +kernel
theorem dX0_remember_44 : decode cX0_remember 44 = .ok (.aload_n 0, 1) := by decide +kernel
theorem dX0_remember_45 : decode cX0_remember 45 = .ok (.getfield 18, 3) := by decide +kernel
theorem dX0_remember_48 : decode cX0_remember 48 = .ok (.iconst 1, 1) := by decide +kernel
theorem dX0_remember_49 : decode cX0_remember 49 = .ok (.iadd, 1) := by decide +kernel
theorem dX0_remember_50 : decode cX0_remember 50 = .ok (.bipush 14, 2) := by decide +kernel
theorem dX0_remember_52 : decode cX0_remember 52 = .ok (.irem, 1) := by decide +kernel
theorem dX0_remember_53 : decode cX0_remember 53 = .ok (.putfield 18, 3) := by decide +kernel
theorem dX0_remember_56 : decode cX0_remember 56 = .ok (.return_, 1) := by decide +kernel
set_option maxRecDepth 20000 in
theorem ggX0_takeBack_X4_take : GoodIn wsX0_takeBack wsX4_take := goodIn_r _ [8, 9, 10, 11, 12, 13, 17, 18, 19, 20, 21] (by decide +kernel) (by decide +kernel)
set_option maxRecDepth 20000 in
theorem gX0_takeBack_X4_take : GoodIn wsX0_takeBack (wsV RX0 25 RX4 yX4_take wsX4_take) := goodIn_app (goodIn_of _ (by decide +kernel)) ggX0_takeBack_X4_take
theorem dX0_takeBack_0 : decode cX0_takeBack 0 = .ok (.aload_n 0, 1) := by decide +kernel
theorem dX0_takeBack_1 : decode cX0_takeBack 1 = .ok (.getfield 22, 3) := by decide +kernel
theorem dX0_takeBack_4 : decode cX0_takeBack 4 = .ok (.ifCond .ne 6, 3) := by decide +kernel
theorem dX0_takeBack_7 : decode cX0_takeBack 7 = .ok (.bipush (-3), 2) := by decide +kernel
theorem dX0_takeBack_9 : decode cX0_takeBack 9 = .ok (.ireturn, 1) := by decide +kernel
theorem dX0_takeBack_10 : decode cX0_takeBack 10 = .ok (.aload_n 0, 1) := by decide +kernel
theorem dX0_takeBack_11 : decode cX0_takeBack 11 = .ok (.dup, 1) := by decide +kernel
theorem dX0_takeBack_12 : decode cX0_takeBack 12 = .ok (.getfield 22, 3) := by decide +kernel
theorem dX0_takeBack_15 : decode cX0_takeBack 15 = .ok (.iconst 1, 1) := by decide +kernel
theorem dX0_takeBack_16 : decode cX0_takeBack 16 = .ok (.isub, 1) := by decide +kernel
theorem dX0_takeBack_17 : decode cX0_takeBack 17 = .ok (.putfield 22, 3) := by decide +kernel
theorem dX0_takeBack_20 : decode cX0_takeBack 20 = .ok (.aload_n 1, 1) := by decide +kernel
theorem dX0_takeBack_21 : decode cX0_takeBack 21 = .ok (.aload_n 0, 1) := by decide +kernel
theorem dX0_takeBack_22 : decode cX0_takeBack 22 = .ok (.getfield 11, 3) := by decide +kernel
theorem dX0_takeBack_25 : decode cX0_takeBack 25 = .ok (.aload_n 0, 1) := by decide +kernel
theorem dX0_takeBack_26 : decode cX0_takeBack 26 = .ok (.getfield 18, 3) := by decide +kernel
theorem dX0_takeBack_29 : decode cX0_takeBack 29 = .ok (.aload_n 0, 1) := by decide +kernel
theorem dX0_takeBack_30 : decode cX0_takeBack 30 = .ok (.getfield 22, 3) := by decide +kernel
theorem dX0_takeBack_33 : decode cX0_takeBack 33 = .ok (.iadd, 1) := by decide +kernel
theorem dX0_takeBack_34 : decode cX0_takeBack 34 = .ok (.bipush 14, 2) := by decide +kernel
theorem dX0_takeBack_36 : decode cX0_takeBack 36 = .ok (.irem, 1) := by decide +kernel
theorem dX0_takeBack_37 : decode cX0_takeBack 37 = .ok (.aaload, 1) := by decide +kernel
theorem dX0_takeBack_38 : decode cX0_takeBack 38 = .ok (.invokevirtual 25, 3) := by decide +kernel
theorem dX0_takeBack_41 : decode cX0_takeBack 41 = .ok (.aload_n 0, 1) := by decide +kernel
theorem dX0_takeBack_42 : decode cX0_takeBack 42 = .ok (.getfield 22, 3) := by decide +kernel
theorem dX0_takeBack_45 : decode cX0_takeBack 45 = .ok (.ireturn, 1) := by decide +kernel
theorem dX1_init_0 : decode cX1_init 0 = .ok (.aload_n 0, 1) := by decide +kernel
theorem dX1_init_1 : decode cX1_init 1 = .ok (.invokespecial 3, 3) := by decide +kernel
theorem dX1_init_4 : decode cX1_init 4 = .ok (.aload_n 0, 1) := by decide +kernel
theorem dX1_init_5 : decode cX1_init 5 = .ok (.bipush 16, 2) := by decide +kernel
theorem dX1_init_7 : decode cX1_init 7 = .ok (.newarray .int, 2) := by decide +kernel
theorem dX1_init_9 : decode cX1_init 9 = .ok (.putfield 9, 3) := by decide +kernel
theorem dX1_init_12 : decode cX1_init 12 = .ok (.aload_n 0, 1) := by decide +kernel
theorem dX1_init_13 : decode cX1_init 13 = .ok (.bipush 16, 2) := by decide +kernel
theorem dX1_init_15 : decode cX1_init 15 = .ok (.newarray .int, 2) := by decide +kernel
theorem dX1_init_17 : decode cX1_init 17 = .ok (.putfield 15, 3) := by decide +kernel
theorem dX1_init_20 : decode cX1_init 20 = .ok (.return_, 1) := by decide +kernel
theorem dX1_tell_0 : decode cX1_tell 0 = .ok (.aload_n 0, 1) := by decide +kernel
theorem dX1_tell_1 : decode cX1_tell 1 = .ok (.getfield 9, 3) := by decide +kernel
theorem dX1_tell_4 : decode cX1_tell 4 = .ok (.iload_n 1, 1) := by decide +kernel
theorem dX1_tell_5 : decode cX1_tell 5 = .ok (.iconst 4, 1) := by decide +kernel
theorem dX1_tell_6 : decode cX1_tell 6 = .ok (.imul, 1) := by decide +kernel
theorem dX1_tell_7 : decode cX1_tell 7 = .ok (.iload_n 2, 1) := by decide +kernel
theorem dX1_tell_8 : decode cX1_tell 8 = .ok (.iadd, 1) := by decide +kernel
theorem dX1_tell_9 : decode cX1_tell 9 = .ok (.iload_n 3, 1) := by decide +kernel
theorem dX1_tell_10 : decode cX1_tell 10 = .ok (.iastore, 1) := by decide +kernel
theorem dX1_tell_11 : decode cX1_tell 11 = .ok (.aload_n 0, 1) := by decide +kernel
theorem dX1_tell_12 : decode cX1_tell 12 = .ok (.getfield 15, 3) := by decide +kernel
theorem dX1_tell_15 : decode cX1_tell 15 = .ok (.iload_n 1, 1) := by decide +kernel
theorem dX1_tell_16 : decode cX1_tell 16 = .ok (.iconst 4, 1) := by decide +kernel
theorem dX1_tell_17 : decode cX1_tell 17 = .ok (.imul, 1) := by decide +kernel
theorem dX1_tell_18 : decode cX1_tell 18 = .ok (.iload_n 2, 1) := by decide +kernel
theorem dX1_tell_19 : decode cX1_tell 19 = .ok (.iadd, 1) := by decide +kernel
theorem dX1_tell_20 : decode cX1_tell 20 = .ok (.iload 4, 2) := by decide +kernel
theorem dX1_tell_22 : decode cX1_tell 22 = .ok (.iastore, 1) := by decide +kernel
theorem dX1_tell_23 : decode cX1_tell 23 = .ok (.return_, 1) := by decide +kernel
theorem dX1_isAtRest_0 : decode cX1_isAtRest 0 = .ok (.iconst 0, 1) := by decide +kernel
theorem dX1_isAtRest_1 : decode cX1_isAtRest 1 = .ok (.istore_n 3, 1) := by decide +kernel
theorem dX1_isAtRest_2 : decode cX1_isAtRest 2 = .ok (.iload_n 3, 1) := by decide +kernel
theorem dX1_isAtRest_3 : decode cX1_isAtRest 3 = .ok (.iconst 4, 1) := by decide +kernel
theorem dX1_isAtRest_4 : decode cX1_isAtRest 4 = .ok (.if_icmp .ge 57, 3) := by decide +kernel
theorem dX1_isAtRest_7 : decode cX1_isAtRest 7 = .ok (.aload_n 0, 1) := by decide +kernel
theorem dX1_isAtRest_8 : decode cX1_isAtRest 8 = .ok (.getfield 9, 3) := by decide +kernel
theorem dX1_isAtRest_11 : decode cX1_isAtRest 11 = .ok (.iload_n 3, 1) := by decide +kernel
theorem dX1_isAtRest_12 : decode cX1_isAtRest 12 = .ok (.iconst 4, 1) := by decide +kernel
theorem dX1_isAtRest_13 : decode cX1_isAtRest 13 = .ok (.imul, 1) := by decide +kernel
theorem dX1_isAtRest_14 : decode cX1_isAtRest 14 = .ok (.iload_n 2, 1) := by decide +kernel
theorem dX1_isAtRest_15 : decode cX1_isAtRest 15 = .ok (.iadd, 1) := by decide +kernel
theorem dX1_isAtRest_16 : decode cX1_isAtRest 16 = .ok (.iaload, 1) := by decide +kernel
theorem dX1_isAtRest_17 : decode cX1_isAtRest 17 = .ok (.aload_n 0, 1) := by decide +kernel
theorem dX1_isAtRest_18 : decode cX1_isAtRest 18 = .ok (.getfield 9, 3) := by decide +kernel
theorem dX1_isAtRest_21 : decode cX1_isAtRest 21 = .ok (.iload_n 1, 1) := by decide +kernel
theorem dX1_isAtRest_22 : decode cX1_isAtRest 22 = .ok (.iconst 4, 1) := by decide +kernel
theorem dX1_isAtRest_23 : decode cX1_isAtRest 23 = .ok (.imul, 1) := by decide +kernel
theorem dX1_isAtRest_24 : decode cX1_isAtRest 24 = .ok (.iload_n 2, 1) := by decide +kernel
theorem dX1_isAtRest_25 : decode cX1_isAtRest 25 = .ok (.iadd, 1) := by decide +kernel
theorem dX1_isAtRest_26 : decode cX1_isAtRest 26 = .ok (.iaload, 1) := by decide +kernel
theorem dX1_isAtRest_27 : decode cX1_isAtRest 27 = .ok (.if_icmp .gt 26, 3) := by decide +kernel
theorem dX1_isAtRest_30 : decode cX1_isAtRest 30 = .ok (.aload_n 0, 1) := by decide +kernel
theorem dX1_isAtRest_31 : decode cX1_isAtRest 31 = .ok (.getfield 15, 3) := by decide +kernel
theorem dX1_isAtRest_34 : decode cX1_isAtRest 34 = .ok (.iload_n 1, 1) := by decide +kernel
theorem dX1_isAtRest_35 : decode cX1_isAtRest 35 = .ok (.iconst 4, 1) := by decide +kernel
theorem dX1_isAtRest_36 : decode cX1_isAtRest 36 = .ok (.imul, 1) := by decide +kernel
theorem dX1_isAtRest_37 : decode cX1_isAtRest 37 = .ok (.iload_n 3, 1) := by decide +kernel
theorem dX1_isAtRest_38 : decode cX1_isAtRest 38 = .ok (.iadd, 1) := by decide +kernel
theorem dX1_isAtRest_39 : decode cX1_isAtRest 39 = .ok (.iaload, 1) := by decide +kernel
theorem dX1_isAtRest_40 : decode cX1_isAtRest 40 = .ok (.aload_n 0, 1) := by decide +kernel
theorem dX1_isAtRest_41 : decode cX1_isAtRest 41 = .ok (.getfield 15, 3) := by decide +kernel
theorem dX1_isAtRest_44 : decode cX1_isAtRest 44 = .ok (.iload_n 1, 1) := by decide +kernel
theorem dX1_isAtRest_45 : decode cX1_isAtRest 45 = .ok (.iconst 4, 1) := by decide +kernel
theorem dX1_isAtRest_46 : decode cX1_isAtRest 46 = .ok (.imul, 1) := by decide +kernel
theorem dX1_isAtRest_47 : decode cX1_isAtRest 47 = .ok (.iload_n 2, 1) := by decide +kernel
theorem dX1_isAtRest_48 : decode cX1_isAtRest 48 = .ok (.iadd, 1) := by decide +kernel
theorem dX1_isAtRest_49 : decode cX1_isAtRest 49 = .ok (.iaload, 1) := by decide +kernel
theorem dX1_isAtRest_50 : decode cX1_isAtRest 50 = .ok (.if_icmp .le 5, 3) := by decide +kernel
theorem dX1_isAtRest_53 : decode cX1_isAtRest 53 = .ok (.iconst 0, 1) := by decide +kernel
theorem dX1_isAtRest_54 : decode cX1_isAtRest 54 = .ok (.ireturn, 1) := by decide +kernel
theorem dX1_isAtRest_55 : decode cX1_isAtRest 55 = .ok (.iinc 3 1, 3) := by decide +kernel
theorem dX1_isAtRest_58 : decode cX1_isAtRest 58 = .ok (.goto (-56), 3) := by decide +kernel
theorem dX1_isAtRest_61 : decode cX1_isAtRest 61 = .ok (.iconst 1, 1) := by decide +kernel
theorem dX1_isAtRest_62 : decode cX1_isAtRest 62 = .ok (.ireturn, 1) := by decide +kernel
set_option maxRecDepth 20000 in
theorem ggX2_init_X4_init : GoodIn wsX2_init wsX4_init := goodIn_r _ [9, 10, 2, 3, 11, 12, 17, 18, 19, 20, 21] (by decide +kernel) (by decide +kernel)
set_option maxRecDepth 20000 in
theorem gX2_init_X4_init_n17 : GoodIn wsX2_init (wsX4_init) := ggX2_init_X4_init
theorem dX2_init_0 : decode cX2_init 0 = .ok (.aload_n 0, 1) := by decide +kernel
theorem dX2_init_1 : decode cX2_init 1 = .ok (.invokespecial 3, 3) := by decide +kernel
theorem dX2_init_4 : decode cX2_init 4 = .ok (.aload_n 0, 1) := by decide +kernel
theorem dX2_init_5 : decode cX2_init 5 = .ok (.bipush 6, 2) := by decide +kernel
theorem dX2_init_7 : decode cX2_init 7 = .ok (.anewarray 9, 3) := by decide +kernel
theorem dX2_init_10 : decode cX2_init 10 = .ok (.putfield 11, 3) := by decide +kernel
theorem dX2_init_13 : decode cX2_init 13 = .ok (.iconst 0, 1) := by decide +kernel
theorem dX2_init_14 : decode cX2_init 14 = .ok (.istore_n 1, 1) := by decide +kernel
theorem dX2_init_15 : decode cX2_init 15 = .ok (.iload_n 1, 1) := by decide +kernel
theorem dX2_init_16 : decode cX2_init 16 = .ok (.iconst 5, 1) := by decide +kernel
theorem dX2_init_17 : decode cX2_init 17 = .ok (.if_icmp .gt 22, 3) := by decide +kernel
theorem dX2_init_20 : decode cX2_init 20 = .ok (.aload_n 0, 1) := by decide +kernel
theorem dX2_init_21 : decode cX2_init 21 = .ok (.getfield 11, 3) := by decide +kernel
theorem dX2_init_24 : decode cX2_init 24 = .ok (.iload_n 1, 1) := by decide +kernel
theorem dX2_init_25 : decode cX2_init 25 = .ok (.new 9, 3) := by decide +kernel
theorem dX2_init_28 : decode cX2_init 28 = .ok (.dup, 1) := by decide +kernel
theorem dX2_init_29 : decode cX2_init 29 = .ok (.invokespecial 17, 3) := by decide +kernel
theorem dX2_init_32 : decode cX2_init 32 = .ok (.aastore, 1) := by decide +kernel
theorem dX2_init_33 : decode cX2_init 33 = .ok (.iinc 1 1, 3) := by decide +kernel
theorem dX2_init_36 : decode cX2_init 36 = .ok (.goto (-21), 3) := by decide +kernel
theorem dX2_init_39 : decode cX2_init 39 = .ok (.return_, 1) := by decide +kernel
set_option maxRecDepth 20000 in
theorem ggX2_findFewest_X4_take : GoodIn wsX2_findFewest wsX4_take := goodIn_r _ [8, 9, 10, 11, 12, 13, 90, 91, 92, 93, 94] (by decide +kernel) (by decide +kernel)
set_option maxRecDepth 20000 in
theorem gX2_findFewest_X4_take : GoodIn wsX2_findFewest (wsV RX2 18 RX4 yX4_take wsX4_take) := goodIn_app (goodIn_of _ (by decide +kernel)) ggX2_findFewest_X4_take
set_option maxRecDepth 20000 in
theorem ggX2_findFewest_X2_seekFall : GoodIn wsX2_findFewest wsX2_seekFall := goodIn_r _ [18, 1, 2, 3, 19, 20, 21, 7, 22, 9, 23, 24, 25, 26, 27, 28, 29, 30, 31, 32, 33, 34, 35, 36, 4, 5, 6, 8, 10, 11, 12, 13, 37, 38, 39, 40, 41, 42, 43, 44, 45, 46, 47, 48, 49, 50, 51, 52, 53, 54, 55, 56, 57, 58, 59, 60, 61, 62, 63, 64, 65, 66, 67, 68, 69, 70, 71, 72, 73, 74, 75, 76, 77, 78, 79, 80, 81, 82, 83, 84, 85, 14, 15, 16, 17, 86, 87, 88, 89, 90, 91, 92, 93, 94, 95, 96, 97, 98, 99] (by decide +kernel) (by decide +kernel)
set_option maxRecDepth 20000 in
theorem gX2_findFewest_X2_seekFall : GoodIn wsX2_findFewest (wsV RX2 29 RX2 yX2_seekFall wsX2_seekFall) := goodIn_app (goodIn_of _ (by decide +kernel)) ggX2_findFewest_X2_seekFall
theorem dX2_findFewest_0 : decode cX2_findFewest 0 = .ok (.aload_n 0, 1) := by decide +kernel
theorem dX2_findFewest_1 : decode cX2_findFewest 1 = .ok (.getfield 11, 3) := by decide +kernel
theorem dX2_findFewest_4 : decode cX2_findFewest 4 = .ok (.iconst 0, 1) := by decide +kernel
theorem dX2_findFewest_5 : decode cX2_findFewest 5 = .ok (.aaload, 1) := by decide +kernel
theorem dX2_findFewest_6 : decode cX2_findFewest 6 = .ok (.aload_n 2, 1) := by decide +kernel
theorem dX2_findFewest_7 : decode cX2_findFewest 7 = .ok (.invokevirtual 18, 3) := by decide +kernel
theorem dX2_findFewest_10 : decode cX2_findFewest 10 = .ok (.aload_n 0, 1) := by decide +kernel
theorem dX2_findFewest_11 : decode cX2_findFewest 11 = .ok (.bipush 6, 2) := by decide +kernel
theorem dX2_findFewest_13 : decode cX2_findFewest 13 = .ok (.putfield 22, 3) := by decide +kernel
theorem dX2_findFewest_16 : decode cX2_findFewest 16 = .ok (.aload_n 0, 1) := by decide +kernel
theorem dX2_findFewest_17 : decode cX2_findFewest 17 = .ok (.iconst 0, 1) := by decide +kernel
theorem dX2_findFewest_18 : decode cX2_findFewest 18 = .ok (.putfield 26, 3) := by decide +kernel
theorem dX2_findFewest_21 : decode cX2_findFewest 21 = .ok (.aload_n 0, 1) := by decide +kernel
theorem dX2_findFewest_22 : decode cX2_findFewest 22 = .ok (.aload_n 1, 1) := by decide +kernel
theorem dX2_findFewest_23 : decode cX2_findFewest 23 = .ok (.iload_n 3, 1) := by decide +kernel
theorem dX2_findFewest_24 : decode cX2_findFewest 24 = .ok (.iconst 0, 1) := by decide +kernel
theorem dX2_findFewest_25 : decode cX2_findFewest 25 = .ok (.iconst 0, 1) := by decide +kernel
theorem dX2_findFewest_26 : decode cX2_findFewest 26 = .ok (.invokevirtual 29, 3) := by decide +kernel
theorem dX2_findFewest_29 : decode cX2_findFewest 29 = .ok (.aload_n 0, 1) := by decide +kernel
theorem dX2_findFewest_30 : decode cX2_findFewest 30 = .ok (.getfield 22, 3) := by decide +kernel
theorem dX2_findFewest_33 : decode cX2_findFewest 33 = .ok (.iconst 5, 1) := by decide +kernel
theorem dX2_findFewest_34 : decode cX2_findFewest 34 = .ok (.if_icmp .gt 7, 3) := by decide +kernel
theorem dX2_findFewest_37 : decode cX2_findFewest 37 = .ok (.iconst 1, 1) := by decide +kernel
theorem dX2_findFewest_38 : decode cX2_findFewest 38 = .ok (.goto 4, 3) := by decide +kernel
theorem dX2_findFewest_41 : decode cX2_findFewest 41 = .ok (.iconst 0, 1) := by decide +kernel
theorem dX2_findFewest_42 : decode cX2_findFewest 42 = .ok (.ireturn, 1) := by decide +kernel
set_option maxRecDepth 20000 in
theorem ggX2_seekFall_X4_isIn : GoodIn wsX2_seekFall wsX4_isIn := goodIn_r _ [8, 9, 89, 90, 91, 92, 93] (by decide +kernel) (by decide +kernel)
set_option maxRecDepth 20000 in
theorem gX2_seekFall_X4_isIn : GoodIn wsX2_seekFall (wsV RX2 33 RX4 yX4_isIn wsX4_isIn) := goodIn_app (goodIn_of _ (by decide +kernel)) ggX2_seekFall_X4_isIn
set_option maxRecDepth 20000 in
theorem ggX2_seekFall_X5_openHoles : GoodIn wsX2_seekFall wsX5_openHoles := goodIn_r _ [14, 15, 16, 17, 18, 19, 20, 21, 22, 23, 94, 95, 96, 97, 98, 89, 90, 91, 92, 93] (by decide +kernel) (by decide +kernel)
set_option maxRecDepth 20000 in
theorem gX2_seekFall_X5_openHoles : GoodIn wsX2_seekFall (wsV RX2 37 RX5 yX5_openHoles wsX5_openHoles) := goodIn_app (goodIn_of _ (by decide +kernel)) ggX2_seekFall_X5_openHoles
set_option maxRecDepth 20000 in
theorem ggX2_seekFall_X4_take : GoodIn wsX2_seekFall wsX4_take := goodIn_r _ [27, 9, 28, 29, 30, 31, 89, 90, 91, 92, 93] (by decide +kernel) (by decide +kernel)
set_option maxRecDepth 20000 in
theorem gX2_seekFall_X4_take : GoodIn wsX2_seekFall (wsV RX2 18 RX4 yX4_take wsX4_take) := goodIn_app (goodIn_of _ (by decide +kernel)) ggX2_seekFall_X4_take
set_option maxRecDepth 20000 in
theorem ggX2_seekFall_X5_roll : GoodIn wsX2_seekFall wsX5_roll := goodIn_r _ [35, 36, 37, 38, 39, 40, 13, 41, 42, 43, 44, 45, 46, 47, 48, 49, 50, 51, 52, 53, 54, 55, 56, 57, 58, 15, 59, 60, 61, 62, 63, 64, 16, 65, 66, 67, 7, 68, 28, 9, 29, 69, 70, 71, 72, 73, 74, 75, 76, 94, 95, 96, 97, 98, 89, 90, 91, 92, 93] (by decide +kernel) (by decide +kernel)
set_option maxRecDepth 20000 in
theorem gX2_seekFall_X5_roll : GoodIn wsX2_seekFall (wsV RX2 43 RX5 yX5_roll wsX5_roll) := goodIn_app (goodIn_of _ (by decide +kernel)) ggX2_seekFall_X5_roll
set_option maxRecDepth 20000 in
theorem ggX2_seekFall_X4_hasSamePlaces : GoodIn wsX2_seekFall wsX4_hasSamePlaces := goodIn_r _ [80, 9, 89, 90, 91, 92, 93] (by decide +kernel) (by decide +kernel)
set_option maxRecDepth 20000 in
theorem gX2_seekFall_X4_hasSamePlaces : GoodIn wsX2_seekFall (wsV RX2 47 RX4 yX4_hasSamePlaces wsX4_hasSamePlaces) := goodIn_app (goodIn_of _ (by decide +kernel)) ggX2_seekFall_X4_hasSamePlaces
set_option maxRecDepth 20000 in
theorem ggX2_seekFall_X2_seekFall : GoodIn wsX2_seekFall wsX2_seekFall := goodIn_r _ [0, 1, 2, 3, 4, 5, 6, 7, 8, 9, 10, 11, 12, 13, 14, 15, 16, 17, 18, 19, 20, 21, 22, 23, 24, 25, 26, 27, 28, 29, 30, 31, 32, 33, 34, 35, 36, 37, 38, 39, 40, 41, 42, 43, 44, 45, 46, 47, 48, 49, 50, 51, 52, 53, 54, 55, 56, 57, 58, 59, 60, 61, 62, 63, 64, 65, 66, 67, 68, 69, 70, 71, 72, 73, 74, 75, 76, 77, 78, 79, 80, 81, 82, 83, 84, 85, 86, 87, 88, 89, 90, 91, 92, 93, 94, 95, 96, 97, 98] (by decide +kernel) (by decide +kernel)
set_option maxRecDepth 20000 in
theorem gX2_seekFall_X2_seekFall : GoodIn wsX2_seekFall (wsV RX2 29 RX2 yX2_seekFall wsX2_seekFall) := goodIn_app (goodIn_of _ (by decide +kernel)) ggX2_seekFall_X2_seekFall
theorem dX2_seekFall_0 : decode cX2_seekFall 0 = .ok (.aload_n 0, 1) := by decide +kernel
theorem dX2_seekFall_1 : decode cX2_seekFall 1 = .ok (.getfield 11, 3) := by decide +kernel
theorem dX2_seekFall_4 : decode cX2_seekFall 4 = .ok (.iload_n 3, 1) := by decide +kernel
theorem dX2_seekFall_5 : decode cX2_seekFall 5 = .ok (.aaload, 1) := by decide +kernel
theorem dX2_seekFall_6 : decode cX2_seekFall 6 = .ok (.iload_n 2, 1) := by decide +kernel
theorem dX2_seekFall_7 : decode cX2_seekFall 7 = .ok (.invokevirtual 33, 3) := by decide +kernel
theorem dX2_seekFall_10 : decode cX2_seekFall 10 = .ok (.ifCond .eq 15, 3) := by decide +kernel
theorem dX2_seekFall_13 : decode cX2_seekFall 13 = .ok (.aload_n 0, 1) := by decide +kernel
theorem dX2_seekFall_14 : decode cX2_seekFall 14 = .ok (.iload_n 3, 1) := by decide +kernel
theorem dX2_seekFall_15 : decode cX2_seekFall 15 = .ok (.putfield 22, 3) := by decide +kernel
theorem dX2_seekFall_18 : decode cX2_seekFall 18 = .ok (.aload_n 0, 1) := by decide +kernel
theorem dX2_seekFall_19 : decode cX2_seekFall 19 = .ok (.iload 4, 2) := by decide +kernel
theorem dX2_seekFall_21 : decode cX2_seekFall 21 = .ok (.putfield 26, 3) := by decide +kernel
theorem dX2_seekFall_24 : decode cX2_seekFall 24 = .ok (.return_, 1) := by decide +kernel
theorem dX2_seekFall_25 : decode cX2_seekFall 25 = .ok (.iload_n 3, 1) := by decide +kernel
theorem dX2_seekFall_26 : decode cX2_seekFall 26 = .ok (.iconst 5, 1) := by decide +kernel
theorem dX2_seekFall_27 : decode cX2_seekFall 27 = .ok (.if_icmp .ge 16, 3) := by decide +kernel
theorem dX2_seekFall_30 : decode cX2_seekFall 30 = .ok (.aload_n 1, 1) := by decide +kernel
theorem dX2_seekFall_31 : decode cX2_seekFall 31 = .ok (.aload_n 0, 1) := by decide +kernel
theorem dX2_seekFall_32 : decode cX2_seekFall 32 = .ok (.getfield 11, 3) := by decide +kernel
theorem dX2_seekFall_35 : decode cX2_seekFall 35 = .ok (.iload_n 3, 1) := by decide +kernel
theorem dX2_seekFall_36 : decode cX2_seekFall 36 = .ok (.aaload, 1) := by decide +kernel
theorem dX2_seekFall_37 : decode cX2_seekFall 37 = .ok (.invokevirtual 37, 3) := by decide +kernel
theorem dX2_seekFall_40 : decode cX2_seekFall 40 = .ok (.ifCond .ne 4, 3) := by decide +kernel
theorem dX2_seekFall_43 : decode cX2_seekFall 43 = .ok (.return_, 1) := by decide +kernel
theorem dX2_seekFall_44 : decode cX2_seekFall 44 = .ok (.aload_n 0, 1) := by decide +kernel
theorem dX2_seekFall_45 : decode cX2_seekFall 45 = .ok (.getfield 11, 3) := by decide +kernel
theorem dX2_seekFall_48 : decode cX2_seekFall 48 = .ok (.iload_n 3, 1) := by decide +kernel
theorem dX2_seekFall_49 : decode cX2_seekFall 49 = .ok (.iconst 1, 1) := by decide +kernel
theorem dX2_seekFall_50 : decode cX2_seekFall 50 = .ok (.iadd, 1) := by decide +kernel
theorem dX2_seekFall_51 : decode cX2_seekFall 51 = .ok (.aaload, 1) := by decide +kernel
theorem dX2_seekFall_52 : decode cX2_seekFall 52 = .ok (.astore 5, 2) := by decide +kernel
theorem dX2_seekFall_54 : decode cX2_seekFall 54 = .ok (.iconst 0, 1) := by decide +kernel
theorem dX2_seekFall_55 : decode cX2_seekFall 55 = .ok (.istore 6, 2) := by decide +kernel
theorem dX2_seekFall_57 : decode cX2_seekFall 57 = .ok (.iload 6, 2) := by decide +kernel
theorem dX2_seekFall_59 : decode cX2_seekFall 59 = .ok (.iconst 4, 1) := by decide +kernel
theorem dX2_seekFall_60 : decode cX2_seekFall 60 = .ok (.if_icmp .ge 71, 3) := by decide +kernel
theorem dX2_seekFall_63 : decode cX2_seekFall 63 = .ok (.iload_n 3, 1) := by decide +kernel
theorem dX2_seekFall_64 : decode cX2_seekFall 64 = .ok (.iconst 1, 1) := by decide +kernel
theorem dX2_seekFall_65 : decode cX2_seekFall 65 = .ok (.iadd, 1) := by decide +kernel
theorem dX2_seekFall_66 : decode cX2_seekFall 66 = .ok (.aload_n 0, 1) := by decide +kernel
theorem dX2_seekFall_67 : decode cX2_seekFall 67 = .ok (.getfield 22, 3) := by decide +kernel
theorem dX2_seekFall_70 : decode cX2_seekFall 70 = .ok (.if_icmp .ge 61, 3) := by decide +kernel
theorem dX2_seekFall_73 : decode cX2_seekFall 73 = .ok (.aload 5, 2) := by decide +kernel
theorem dX2_seekFall_75 : decode cX2_seekFall 75 = .ok (.aload_n 0, 1) := by decide +kernel
theorem dX2_seekFall_76 : decode cX2_seekFall 76 = .ok (.getfield 11, 3) := by decide +kernel
theorem dX2_seekFall_79 : decode cX2_seekFall 79 = .ok (.iload_n 3, 1) := by decide +kernel
theorem dX2_seekFall_80 : decode cX2_seekFall 80 = .ok (.aaload, 1) := by decide +kernel
theorem dX2_seekFall_81 : decode cX2_seekFall 81 = .ok (.invokevirtual 18, 3) := by decide +kernel
theorem dX2_seekFall_84 : decode cX2_seekFall 84 = .ok (.aload_n 1, 1) := by decide +kernel
theorem dX2_seekFall_85 : decode cX2_seekFall 85 = .ok (.aload 5, 2) := by decide +kernel
theorem dX2_seekFall_87 : decode cX2_seekFall 87 = .ok (.iload 6, 2) := by decide +kernel
theorem dX2_seekFall_89 : decode cX2_seekFall 89 = .ok (.invokevirtual 43, 3) := by decide +kernel
theorem dX2_seekFall_92 : decode cX2_seekFall 92 = .ok (.aload 5, 2) := by decide +kernel
theorem dX2_seekFall_94 : decode cX2_seekFall 94 = .ok (.aload_n 0, 1) := by decide +kernel
theorem dX2_seekFall_95 : decode cX2_seekFall 95 = .ok (.getfield 11, 3) := by decide +kernel
theorem dX2_seekFall_98 : decode cX2_seekFall 98 = .ok (.iload_n 3, 1) := by decide +kernel
theorem dX2_seekFall_99 : decode cX2_seekFall 99 = .ok (.aaload, 1) := by decide +kernel
theorem dX2_seekFall_100 : decode cX2_seekFall 100 = .ok (.invokevirtual 47, 3) := by decide +kernel
theorem dX2_seekFall_103 : decode cX2_seekFall 103 = .ok (.ifCond .ne 22, 3) := by decide +kernel
theorem dX2_seekFall_106 : decode cX2_seekFall 106 = .ok (.aload_n 0, 1) := by decide +kernel
theorem dX2_seekFall_107 : decode cX2_seekFall 107 = .ok (.aload_n 1, 1) := by decide +kernel
theorem dX2_seekFall_108 : decode cX2_seekFall 108 = .ok (.iload_n 2, 1) := by decide +kernel
theorem dX2_seekFall_109 : decode cX2_seekFall 109 = .ok (.iload_n 3, 1) := by decide +kernel
theorem dX2_seekFall_110 : decode cX2_seekFall 110 = .ok (.iconst 1, 1) := by decide +kernel
theorem dX2_seekFall_111 : decode cX2_seekFall 111 = .ok (.iadd, 1) := by decide +kernel
theorem dX2_seekFall_112 : decode cX2_seekFall 112 = .ok (.iload 4, 2) := by decide +kernel
theorem dX2_seekFall_114 : decode cX2_seekFall 114 = .ok (.bipush 10, 2) := by decide +kernel
theorem dX2_seekFall_116 : decode cX2_seekFall 116 = .ok (.imul, 1) := by decide +kernel
theorem dX2_seekFall_117 : decode cX2_seekFall 117 = .ok (.iload 6, 2) := by decide +kernel
theorem dX2_seekFall_119 : decode cX2_seekFall 119 = .ok (.iadd, 1) := by decide +kernel
theorem dX2_seekFall_120 : decode cX2_seekFall 120 = .ok (.iconst 1, 1) := by decide +kernel
theorem dX2_seekFall_121 : decode cX2_seekFall 121 = .ok (.iadd, 1) := by decide +kernel
theorem dX2_seekFall_122 : decode cX2_seekFall 122 = .ok (.invokevirtual 29, 3) := by decide +kernel
theorem dX2_seekFall_125 : decode cX2_seekFall 125 = .ok (.iinc 6 1, 3) := by decide +kernel
theorem dX2_seekFall_128 : decode cX2_seekFall 128 = .ok (.goto (-71), 3) := by decide +kernel
theorem dX2_seekFall_131 : decode cX2_seekFall 131 = .ok (.return_, 1) := by decide +kernel
set_option maxRecDepth 20000 in
theorem ggX2_findReach_X4_take : GoodIn wsX2_findReach wsX4_take := goodIn_r _ [6, 7, 8, 9, 10, 11, 74, 75, 76, 77, 78] (by decide +kernel) (by decide +kernel)
set_option maxRecDepth 20000 in
theorem gX2_findReach_X4_take : GoodIn wsX2_findReach (wsV RX2 18 RX4 yX4_take wsX4_take) := goodIn_app (goodIn_of _ (by decide +kernel)) ggX2_findReach_X4_take
set_option maxRecDepth 20000 in
theorem ggX2_findReach_X2_gatherCells : GoodIn wsX2_findReach wsX2_gatherCells := goodIn_r _ [16, 1, 17, 18, 19, 20, 2, 3, 4, 5, 6, 7, 8, 9, 10, 11, 21, 22, 23, 24, 25, 26, 27, 28, 29, 30, 31, 32, 33, 34, 35, 36, 37, 38, 39, 40, 41, 42, 43, 44, 45, 46, 47, 48, 49, 50, 51, 52, 53, 54, 55, 56, 57, 58, 59, 60, 61, 62, 63, 64, 65, 66, 67, 68, 69, 12, 13, 14, 15, 70, 71, 72, 73, 74, 75, 76, 77, 78, 79, 80, 81, 82, 83] (by decide +kernel) (by decide +kernel)
set_option maxRecDepth 20000 in
theorem gX2_findReach_X2_gatherCells : GoodIn wsX2_findReach (wsV RX2 51 RX2 yX2_gatherCells wsX2_gatherCells) := goodIn_app (goodIn_of _ (by decide +kernel)) ggX2_findReach_X2_gatherCells
theorem dX2_findReach_0 : decode cX2_findReach 0 = .ok (.aload_n 0, 1) := by decide +kernel
theorem dX2_findReach_1 : decode cX2_findReach 1 = .ok (.getfield 11, 3) := by decide +kernel
theorem dX2_findReach_4 : decode cX2_findReach 4 = .ok (.iconst 0, 1) := by decide +kernel
theorem dX2_findReach_5 : decode cX2_findReach 5 = .ok (.aaload, 1) := by decide +kernel
theorem dX2_findReach_6 : decode cX2_findReach 6 = .ok (.aload_n 2, 1) := by decide +kernel
theorem dX2_findReach_7 : decode cX2_findReach 7 = .ok (.invokevirtual 18, 3) := by decide +kernel
theorem dX2_findReach_10 : decode cX2_findReach 10 = .ok (.aload_n 0, 1) := by decide +kernel
theorem dX2_findReach_11 : decode cX2_findReach 11 = .ok (.aload_n 1, 1) := by decide +kernel
theorem dX2_findReach_12 : decode cX2_findReach 12 = .ok (.iload_n 3, 1) := by decide +kernel
theorem dX2_findReach_13 : decode cX2_findReach 13 = .ok (.iconst 0, 1) := by decide +kernel
theorem dX2_findReach_14 : decode cX2_findReach 14 = .ok (.invokevirtual 51, 3) := by decide +kernel
theorem dX2_findReach_17 : decode cX2_findReach 17 = .ok (.ireturn, 1) := by decide +kernel
set_option maxRecDepth 20000 in
theorem ggX2_gatherCells_X6_isCell : GoodIn wsX2_gatherCells wsX6_isCell := goodIn_r _ [5] (by decide +kernel) (by decide +kernel)
set_option maxRecDepth 20000 in
theorem gX2_gatherCells_X6_isCell_n59 : GoodIn wsX2_gatherCells (wsX6_isCell) := ggX2_gatherCells_X6_isCell
set_option maxRecDepth 20000 in
theorem ggX2_gatherCells_X4_take : GoodIn wsX2_gatherCells wsX4_take := goodIn_r _ [10, 11, 12, 13, 14, 15, 73, 74, 75, 76, 77] (by decide +kernel) (by decide +kernel)
set_option maxRecDepth 20000 in
theorem gX2_gatherCells_X4_take : GoodIn wsX2_gatherCells (wsV RX2 18 RX4 yX4_take wsX4_take) := goodIn_app (goodIn_of _ (by decide +kernel)) ggX2_gatherCells_X4_take
set_option maxRecDepth 20000 in
theorem ggX2_gatherCells_X5_roll : GoodIn wsX2_gatherCells wsX5_roll := goodIn_r _ [20, 21, 22, 23, 24, 25, 19, 26, 27, 28, 3, 4, 5, 29, 30, 31, 32, 33, 34, 35, 36, 37, 38, 39, 40, 41, 42, 43, 44, 45, 46, 47, 48, 49, 50, 51, 9, 52, 12, 11, 13, 53, 54, 55, 56, 57, 58, 59, 60, 78, 79, 80, 81, 82, 73, 74, 75, 76, 77] (by decide +kernel) (by decide +kernel)
set_option maxRecDepth 20000 in
theorem gX2_gatherCells_X5_roll : GoodIn wsX2_gatherCells (wsV RX2 43 RX5 yX5_roll wsX5_roll) := goodIn_app (goodIn_of _ (by decide +kernel)) ggX2_gatherCells_X5_roll
set_option maxRecDepth 20000 in
theorem ggX2_gatherCells_X4_hasSamePlaces : GoodIn wsX2_gatherCells wsX4_hasSamePlaces := goodIn_r _ [64, 11, 73, 74, 75, 76, 77] (by decide +kernel) (by decide +kernel)
set_option maxRecDepth 20000 in
theorem gX2_gatherCells_X4_hasSamePlaces : GoodIn wsX2_gatherCells (wsV RX2 47 RX4 yX4_hasSamePlaces wsX4_hasSamePlaces) := goodIn_app (goodIn_of _ (by decide +kernel)) ggX2_gatherCells_X4_hasSamePlaces
set_option maxRecDepth 20000 in
theorem ggX2_gatherCells_X2_gatherCells : GoodIn wsX2_gatherCells wsX2_gatherCells := goodIn_r _ [0, 1, 2, 3, 4, 5, 6, 7, 8, 9, 10, 11, 12, 13, 14, 15, 16, 17, 18, 19, 20, 21, 22, 23, 24, 25, 26, 27, 28, 29, 30, 31, 32, 33, 34, 35, 36, 37, 38, 39, 40, 41, 42, 43, 44, 45, 46, 47, 48, 49, 50, 51, 52, 53, 54, 55, 56, 57, 58, 59, 60, 61, 62, 63, 64, 65, 66, 67, 68, 69, 70, 71, 72, 73, 74, 75, 76, 77, 78, 79, 80, 81, 82] (by decide +kernel) (by decide +kernel)
set_option maxRecDepth 20000 in
theorem gX2_gatherCells_X2_gatherCells : GoodIn wsX2_gatherCells (wsV RX2 51 RX2 yX2_gatherCells wsX2_gatherCells) := goodIn_app (goodIn_of _ (by decide +kernel)) ggX2_gatherCells_X2_gatherCells
theorem dX2_gatherCells_0 : decode cX2_gatherCells 0 = .ok (.aload_n 0, 1) := by decide +kernel
theorem dX2_gatherCells_1 : decode cX2_gatherCells 1 = .ok (.getfield 11, 3) := by decide +kernel
theorem dX2_gatherCells_4 : decode cX2_gatherCells 4 = .ok (.iload_n 3, 1) := by decide +kernel
theorem dX2_gatherCells_5 : decode cX2_gatherCells 5 = .ok (.aaload, 1) := by decide +kernel
theorem dX2_gatherCells_6 : decode cX2_gatherCells 6 = .ok (.getfield 55, 3) := by decide +kernel
theorem dX2_gatherCells_9 : decode cX2_gatherCells 9 = .ok (.iload_n 2, 1) := by decide +kernel
theorem dX2_gatherCells_10 : decode cX2_gatherCells 10 = .ok (.iaload, 1) := by decide +kernel
theorem dX2_gatherCells_11 : decode cX2_gatherCells 11 = .ok (.istore 4, 2) := by decide +kernel
theorem dX2_gatherCells_13 : decode cX2_gatherCells 13 = .ok (.iload 4, 2) := by decide +kernel
theorem dX2_gatherCells_15 : decode cX2_gatherCells 15 = .ok (.invokestatic 59, 3) := by decide +kernel
theorem dX2_gatherCells_18 : decode cX2_gatherCells 18 = .ok (.ifCond .ne 5, 3) := by decide +kernel
theorem dX2_gatherCells_21 : decode cX2_gatherCells 21 = .ok (.iconst 0, 1) := by decide +kernel
theorem dX2_gatherCells_22 : decode cX2_gatherCells 22 = .ok (.ireturn, 1) := by decide +kernel
theorem dX2_gatherCells_23 : decode cX2_gatherCells 23 = .ok (.iconst 1, 1) := by decide +kernel
theorem dX2_gatherCells_24 : decode cX2_gatherCells 24 = .ok (.iload 4, 2) := by decide +kernel
theorem dX2_gatherCells_26 : decode cX2_gatherCells 26 = .ok (.ishl, 1) := by decide +kernel
theorem dX2_gatherCells_27 : decode cX2_gatherCells 27 = .ok (.istore 5, 2) := by decide +kernel
theorem dX2_gatherCells_29 : decode cX2_gatherCells 29 = .ok (.iload_n 3, 1) := by decide +kernel
theorem dX2_gatherCells_30 : decode cX2_gatherCells 30 = .ok (.iconst 4, 1) := by decide +kernel
theorem dX2_gatherCells_31 : decode cX2_gatherCells 31 = .ok (.if_icmp .lt 6, 3) := by decide +kernel
theorem dX2_gatherCells_34 : decode cX2_gatherCells 34 = .ok (.iload 5, 2) := by decide +kernel
theorem dX2_gatherCells_36 : decode cX2_gatherCells 36 = .ok (.ireturn, 1) := by decide +kernel
theorem dX2_gatherCells_37 : decode cX2_gatherCells 37 = .ok (.aload_n 0, 1) := by decide +kernel
theorem dX2_gatherCells_38 : decode cX2_gatherCells 38 = .ok (.getfield 11, 3) := by decide +kernel
theorem dX2_gatherCells_41 : decode cX2_gatherCells 41 = .ok (.iload_n 3, 1) := by decide +kernel
theorem dX2_gatherCells_42 : decode cX2_gatherCells 42 = .ok (.iconst 1, 1) := by decide +kernel
theorem dX2_gatherCells_43 : decode cX2_gatherCells 43 = .ok (.iadd, 1) := by decide +kernel
theorem dX2_gatherCells_44 : decode cX2_gatherCells 44 = .ok (.aaload, 1) := by decide +kernel
theorem dX2_gatherCells_45 : decode cX2_gatherCells 45 = .ok (.astore 6, 2) := by decide +kernel
theorem dX2_gatherCells_47 : decode cX2_gatherCells 47 = .ok (.iconst 0, 1) := by decide +kernel
theorem dX2_gatherCells_48 : decode cX2_gatherCells 48 = .ok (.istore 7, 2) := by decide +kernel
theorem dX2_gatherCells_50 : decode cX2_gatherCells 50 = .ok (.iload 7, 2) := by decide +kernel
theorem dX2_gatherCells_52 : decode cX2_gatherCells 52 = .ok (.iconst 4, 1) := by decide +kernel
theorem dX2_gatherCells_53 : decode cX2_gatherCells 53 = .ok (.if_icmp .ge 56, 3) := by decide +kernel
theorem dX2_gatherCells_56 : decode cX2_gatherCells 56 = .ok (.aload 6, 2) := by decide +kernel
theorem dX2_gatherCells_58 : decode cX2_gatherCells 58 = .ok (.aload_n 0, 1) := by decide +kernel
theorem dX2_gatherCells_59 : decode cX2_gatherCells 59 = .ok (.getfield 11, 3) := by decide +kernel
theorem dX2_gatherCells_62 : decode cX2_gatherCells 62 = .ok (.iload_n 3, 1) := by decide +kernel
theorem dX2_gatherCells_63 : decode cX2_gatherCells 63 = .ok (.aaload, 1) := by decide +kernel
theorem dX2_gatherCells_64 : decode cX2_gatherCells 64 = .ok (.invokevirtual 18, 3) := by decide +kernel
theorem dX2_gatherCells_67 : decode cX2_gatherCells 67 = .ok (.aload_n 1, 1) := by decide +kernel
theorem dX2_gatherCells_68 : decode cX2_gatherCells 68 = .ok (.aload 6, 2) := by decide +kernel
theorem dX2_gatherCells_70 : decode cX2_gatherCells 70 = .ok (.iload 7, 2) := by decide +kernel
theorem dX2_gatherCells_72 : decode cX2_gatherCells 72 = .ok (.invokevirtual 43, 3) := by decide +kernel
theorem dX2_gatherCells_75 : decode cX2_gatherCells 75 = .ok (.aload 6, 2) := by decide +kernel
theorem dX2_gatherCells_77 : decode cX2_gatherCells 77 = .ok (.aload_n 0, 1) := by decide +kernel
theorem dX2_gatherCells_78 : decode cX2_gatherCells 78 = .ok (.getfield 11, 3) := by decide +kernel
theorem dX2_gatherCells_81 : decode cX2_gatherCells 81 = .ok (.iload_n 3, 1) := by decide +kernel
theorem dX2_gatherCells_82 : decode cX2_gatherCells 82 = .ok (.aaload, 1) := by decide +kernel
theorem dX2_gatherCells_83 : decode cX2_gatherCells 83 = .ok (.invokevirtual 47, 3) := by decide +kernel
theorem dX2_gatherCells_86 : decode cX2_gatherCells 86 = .ok (.ifCond .ne 17, 3) := by decide +kernel
theorem dX2_gatherCells_89 : decode cX2_gatherCells 89 = .ok (.iload 5, 2) := by decide +kernel
theorem dX2_gatherCells_91 : decode cX2_gatherCells 91 = .ok (.aload_n 0, 1) := by decide +kernel
theorem dX2_gatherCells_92 : decode cX2_gatherCells 92 = .ok (.aload_n 1, 1) := by decide +kernel
theorem dX2_gatherCells_93 : decode cX2_gatherCells 93 = .ok (.iload_n 2, 1) := by decide +kernel
theorem dX2_gatherCells_94 : decode cX2_gatherCells 94 = .ok (.iload_n 3, 1) := by decide +kernel
theorem dX2_gatherCells_95 : decode cX2_gatherCells 95 = .ok (.iconst 1, 1) := by decide +kernel
theorem dX2_gatherCells_96 : decode cX2_gatherCells 96 = .ok (.iadd, 1) := by decide +kernel
theorem dX2_gatherCells_97 : decode cX2_gatherCells 97 = .ok (.invokevirtual 51, 3) := by decide +kernel
theorem dX2_gatherCells_100 : decode cX2_gatherCells 100 = .ok (.ior, 1) := by decide +kernel
theorem dX2_gatherCells_101 : decode cX2_gatherCells 101 = .ok (.istore 5, 2) := by decide +kernel
theorem dX2_gatherCells_103 : decode cX2_gatherCells 103 = .ok (.iinc 7 1, 3) := by decide +kernel
theorem dX2_gatherCells_106 : decode cX2_gatherCells 106 = .ok (.goto (-56), 3) := by decide +kernel
theorem dX2_gatherCells_109 : decode cX2_gatherCells 109 = .ok (.iload 5, 2) := by decide +kernel
theorem dX2_gatherCells_111 : decode cX2_gatherCells 111 = .ok (.ireturn, 1) := by decide +kernel
set_option maxRecDepth 20000 in
theorem ggX2_findBest_X4_take : GoodIn wsX2_findBest wsX4_take := goodIn_r _ [9, 10, 11, 12, 13, 14, 104, 105, 106, 107, 108] (by decide +kernel) (by decide +kernel)
set_option maxRecDepth 20000 in
theorem gX2_findBest_X4_take : GoodIn wsX2_findBest (wsV RX2 18 RX4 yX4_take wsX4_take) := goodIn_app (goodIn_of _ (by decide +kernel)) ggX2_findBest_X4_take
set_option maxRecDepth 20000 in
theorem ggX2_findBest_X2_mostThatFall : GoodIn wsX2_findBest wsX2_mostThatFall := goodIn_r _ [18, 19, 20, 21, 22, 23, 24, 25, 26, 8, 27, 28, 29, 30, 31, 32, 33, 34, 35, 10, 36, 37, 38, 39, 40, 41, 42, 43, 44, 45, 46, 47, 48, 49, 50, 104, 105, 106, 107, 108, 109, 110, 111, 112, 113] (by decide +kernel) (by decide +kernel)
set_option maxRecDepth 20000 in
theorem gX2_findBest_X2_mostThatFall : GoodIn wsX2_findBest (va_wsS RX2 62 yX2_mostThatFall wsX2_mostThatFall) := goodIn_app (goodIn_of _ (by decide +kernel)) ggX2_findBest_X2_mostThatFall
set_option maxRecDepth 20000 in
theorem ggX2_findBest_X2_seekMost : GoodIn wsX2_findBest wsX2_seekMost := goodIn_r _ [54, 1, 2, 3, 4, 24, 25, 26, 8, 27, 28, 29, 30, 31, 32, 33, 34, 35, 10, 5, 6, 7, 9, 11, 12, 13, 14, 55, 56, 57, 39, 58, 59, 60, 61, 62, 63, 64, 65, 66, 67, 68, 69, 70, 71, 72, 73, 74, 75, 76, 77, 78, 79, 80, 81, 41, 82, 83, 84, 85, 86, 87, 42, 88, 89, 90, 91, 92, 93, 94, 95, 96, 97, 98, 99, 51, 52, 53, 17, 100, 101, 102, 103, 104, 105, 106, 107, 108, 109, 110, 111, 112, 113] (by decide +kernel) (by decide +kernel)
set_option maxRecDepth 20000 in
theorem gX2_findBest_X2_seekMost : GoodIn wsX2_findBest (wsV RX2 69 RX2 yX2_seekMost wsX2_seekMost) := goodIn_app (goodIn_of _ (by decide +kernel)) ggX2_findBest_X2_seekMost
theorem dX2_findBest_0 : decode cX2_findBest 0 = .ok (.aload_n 0, 1) := by decide +kernel
theorem dX2_findBest_1 : decode cX2_findBest 1 = .ok (.getfield 11, 3) := by decide +kernel
theorem dX2_findBest_4 : decode cX2_findBest 4 = .ok (.iconst 0, 1) := by decide +kernel
theorem dX2_findBest_5 : decode cX2_findBest 5 = .ok (.aaload, 1) := by decide +kernel
theorem dX2_findBest_6 : decode cX2_findBest 6 = .ok (.aload_n 2, 1) := by decide +kernel
theorem dX2_findBest_7 : decode cX2_findBest 7 = .ok (.invokevirtual 18, 3) := by decide +kernel
theorem dX2_findBest_10 : decode cX2_findBest 10 = .ok (.aload_n 0, 1) := by decide +kernel
theorem dX2_findBest_11 : decode cX2_findBest 11 = .ok (.iconst (-1), 1) := by decide +kernel
theorem dX2_findBest_12 : decode cX2_findBest 12 = .ok (.putfield 22, 3) := by decide +kernel
theorem dX2_findBest_15 : decode cX2_findBest 15 = .ok (.aload_n 0, 1) := by decide +kernel
theorem dX2_findBest_16 : decode cX2_findBest 16 = .ok (.iconst 0, 1) := by decide +kernel
theorem dX2_findBest_17 : decode cX2_findBest 17 = .ok (.putfield 26, 3) := by decide +kernel
theorem dX2_findBest_20 : decode cX2_findBest 20 = .ok (.aload_n 0, 1) := by decide +kernel
theorem dX2_findBest_21 : decode cX2_findBest 21 = .ok (.aload_n 1, 1) := by decide +kernel
theorem dX2_findBest_22 : decode cX2_findBest 22 = .ok (.aload_n 2, 1) := by decide +kernel
theorem dX2_findBest_23 : decode cX2_findBest 23 = .ok (.invokestatic 62, 3) := by decide +kernel
theorem dX2_findBest_26 : decode cX2_findBest 26 = .ok (.putfield 66, 3) := by decide +kernel
theorem dX2_findBest_29 : decode cX2_findBest 29 = .ok (.aload_n 0, 1) := by decide +kernel
theorem dX2_findBest_30 : decode cX2_findBest 30 = .ok (.aload_n 1, 1) := by decide +kernel
theorem dX2_findBest_31 : decode cX2_findBest 31 = .ok (.iload_n 3, 1) := by decide +kernel
theorem dX2_findBest_32 : decode cX2_findBest 32 = .ok (.iconst 0, 1) := by decide +kernel
theorem dX2_findBest_33 : decode cX2_findBest 33 = .ok (.iconst 0, 1) := by decide +kernel
theorem dX2_findBest_34 : decode cX2_findBest 34 = .ok (.invokevirtual 69, 3) := by decide +kernel
theorem dX2_findBest_37 : decode cX2_findBest 37 = .ok (.return_, 1) := by decide +kernel
set_option maxRecDepth 20000 in
theorem ggX2_mostThatFall_X4_fallen : GoodIn wsX2_mostThatFall wsX4_fallen := goodIn_r _ [10, 11, 12, 13, 9, 14, 15, 16, 17, 18, 19, 35, 36, 37, 38, 39] (by decide +kernel) (by decide +kernel)
set_option maxRecDepth 20000 in
theorem gX2_mostThatFall_X4_fallen : GoodIn wsX2_mostThatFall (wsV RX2 72 RX4 yX4_fallen wsX4_fallen) := goodIn_app (goodIn_of _ (by decide +kernel)) ggX2_mostThatFall_X4_fallen
set_option maxRecDepth 20000 in
theorem ggX2_mostThatFall_X5_openHoles : GoodIn wsX2_mostThatFall wsX5_openHoles := goodIn_r _ [24, 25, 26, 27, 28, 29, 30, 31, 32, 33, 40, 41, 42, 43, 44, 35, 36, 37, 38, 39] (by decide +kernel) (by decide +kernel)
set_option maxRecDepth 20000 in
theorem gX2_mostThatFall_X5_openHoles : GoodIn wsX2_mostThatFall (wsV RX2 37 RX5 yX5_openHoles wsX5_openHoles) := goodIn_app (goodIn_of _ (by decide +kernel)) ggX2_mostThatFall_X5_openHoles
set_option maxRecDepth 20000 in
theorem ggX2_mostThatFall_J6_bitCount_0f7a4 : GoodIn wsX2_mostThatFall wsJ6_bitCount_0f7a4 := goodIn_r _ [30, 31, 32, 33] (by decide +kernel) (by decide +kernel)
set_option maxRecDepth 20000 in
theorem gX2_mostThatFall_J6_bitCount_0f7a4 : GoodIn wsX2_mostThatFall (va_wsS RX2 79 yJ6_bitCount_0f7a4 wsJ6_bitCount_0f7a4) := goodIn_app (goodIn_of _ (by decide +kernel)) ggX2_mostThatFall_J6_bitCount_0f7a4
theorem dX2_mostThatFall_0 : decode cX2_mostThatFall 0 = .ok (.aload_n 1, 1) := by decide +kernel
theorem dX2_mostThatFall_1 : decode cX2_mostThatFall 1 = .ok (.invokevirtual 72, 3) := by decide +kernel
theorem dX2_mostThatFall_4 : decode cX2_mostThatFall 4 = .ok (.aload_n 0, 1) := by decide +kernel
theorem dX2_mostThatFall_5 : decode cX2_mostThatFall 5 = .ok (.aload_n 1, 1) := by decide +kernel
theorem dX2_mostThatFall_6 : decode cX2_mostThatFall 6 = .ok (.invokevirtual 37, 3) := by decide +kernel
theorem dX2_mostThatFall_9 : decode cX2_mostThatFall 9 = .ok (.aload_n 1, 1) := by decide +kernel
theorem dX2_mostThatFall_10 : decode cX2_mostThatFall 10 = .ok (.getfield 76, 3) := by decide +kernel
theorem dX2_mostThatFall_13 : decode cX2_mostThatFall 13 = .ok (.invokestatic 79, 3) := by decide +kernel
theorem dX2_mostThatFall_16 : decode cX2_mostThatFall 16 = .ok (.invokestatic 85, 3) := by decide +kernel
theorem dX2_mostThatFall_19 : decode cX2_mostThatFall 19 = .ok (.iadd, 1) := by decide +kernel
theorem dX2_mostThatFall_20 : decode cX2_mostThatFall 20 = .ok (.ireturn, 1) := by decide +kernel
set_option maxRecDepth 20000 in
theorem ggX2_seekMost_X4_fallen : GoodIn wsX2_seekMost wsX4_fallen := goodIn_r _ [9, 10, 11, 12, 8, 13, 14, 15, 16, 17, 18, 83, 84, 85, 86, 87] (by decide +kernel) (by decide +kernel)
set_option maxRecDepth 20000 in
theorem gX2_seekMost_X4_fallen : GoodIn wsX2_seekMost (wsV RX2 72 RX4 yX4_fallen wsX4_fallen) := goodIn_app (goodIn_of _ (by decide +kernel)) ggX2_seekMost_X4_fallen
set_option maxRecDepth 20000 in
theorem ggX2_seekMost_X4_take : GoodIn wsX2_seekMost wsX4_take := goodIn_r _ [22, 18, 23, 24, 25, 26, 83, 84, 85, 86, 87] (by decide +kernel) (by decide +kernel)
set_option maxRecDepth 20000 in
theorem gX2_seekMost_X4_take : GoodIn wsX2_seekMost (wsV RX2 18 RX4 yX4_take wsX4_take) := goodIn_app (goodIn_of _ (by decide +kernel)) ggX2_seekMost_X4_take
set_option maxRecDepth 20000 in
theorem ggX2_seekMost_X5_roll : GoodIn wsX2_seekMost wsX5_roll := goodIn_r _ [31, 32, 33, 34, 35, 36, 30, 37, 38, 39, 40, 41, 42, 43, 44, 45, 46, 47, 48, 49, 50, 51, 52, 53, 54, 55, 56, 57, 58, 59, 60, 61, 62, 63, 64, 65, 8, 66, 23, 18, 24, 67, 68, 69, 70, 71, 72, 73, 74, 88, 89, 90, 91, 92, 83, 84, 85, 86, 87] (by decide +kernel) (by decide +kernel)
set_option maxRecDepth 20000 in
theorem gX2_seekMost_X5_roll : GoodIn wsX2_seekMost (wsV RX2 43 RX5 yX5_roll wsX5_roll) := goodIn_app (goodIn_of _ (by decide +kernel)) ggX2_seekMost_X5_roll
set_option maxRecDepth 20000 in
theorem ggX2_seekMost_X2_seekMost : GoodIn wsX2_seekMost wsX2_seekMost := goodIn_r _ [0, 1, 2, 3, 4, 5, 6, 7, 8, 9, 10, 11, 12, 13, 14, 15, 16, 17, 18, 19, 20, 21, 22, 23, 24, 25, 26, 27, 28, 29, 30, 31, 32, 33, 34, 35, 36, 37, 38, 39, 40, 41, 42, 43, 44, 45, 46, 47, 48, 49, 50, 51, 52, 53, 54, 55, 56, 57, 58, 59, 60, 61, 62, 63, 64, 65, 66, 67, 68, 69, 70, 71, 72, 73, 74, 75, 76, 77, 78, 79, 80, 81, 82, 83, 84, 85, 86, 87, 88, 89, 90, 91, 92] (by decide +kernel) (by decide +kernel)
set_option maxRecDepth 20000 in
theorem gX2_seekMost_X2_seekMost : GoodIn wsX2_seekMost (wsV RX2 69 RX2 yX2_seekMost wsX2_seekMost) := goodIn_app (goodIn_of _ (by decide +kernel)) ggX2_seekMost_X2_seekMost
theorem dX2_seekMost_0 : decode cX2_seekMost 0 = .ok (.iload_n 3, 1) := by decide +kernel
theorem dX2_seekMost_1 : decode cX2_seekMost 1 = .ok (.iload_n 2, 1) := by decide +kernel
theorem dX2_seekMost_2 : decode cX2_seekMost 2 = .ok (.if_icmp .ge 8, 3) := by decide +kernel
theorem dX2_seekMost_5 : decode cX2_seekMost 5 = .ok (.iload_n 3, 1) := by decide +kernel
theorem dX2_seekMost_6 : decode cX2_seekMost 6 = .ok (.iconst 4, 1) := by decide +kernel
theorem dX2_seekMost_7 : decode cX2_seekMost 7 = .ok (.if_icmp .lt 36, 3) := by decide +kernel
theorem dX2_seekMost_10 : decode cX2_seekMost 10 = .ok (.aload_n 0, 1) := by decide +kernel
theorem dX2_seekMost_11 : decode cX2_seekMost 11 = .ok (.getfield 11, 3) := by decide +kernel
theorem dX2_seekMost_14 : decode cX2_seekMost 14 = .ok (.iload_n 3, 1) := by decide +kernel
theorem dX2_seekMost_15 : decode cX2_seekMost 15 = .ok (.aaload, 1) := by decide +kernel
theorem dX2_seekMost_16 : decode cX2_seekMost 16 = .ok (.invokevirtual 72, 3) := by decide +kernel
theorem dX2_seekMost_19 : decode cX2_seekMost 19 = .ok (.istore 5, 2) := by decide +kernel
theorem dX2_seekMost_21 : decode cX2_seekMost 21 = .ok (.iload 5, 2) := by decide +kernel
theorem dX2_seekMost_23 : decode cX2_seekMost 23 = .ok (.aload_n 0, 1) := by decide +kernel
theorem dX2_seekMost_24 : decode cX2_seekMost 24 = .ok (.getfield 22, 3) := by decide +kernel
theorem dX2_seekMost_27 : decode cX2_seekMost 27 = .ok (.if_icmp .le 15, 3) := by decide +kernel
theorem dX2_seekMost_30 : decode cX2_seekMost 30 = .ok (.aload_n 0, 1) := by decide +kernel
theorem dX2_seekMost_31 : decode cX2_seekMost 31 = .ok (.iload 5, 2) := by decide +kernel
theorem dX2_seekMost_33 : decode cX2_seekMost 33 = .ok (.putfield 22, 3) := by decide +kernel
theorem dX2_seekMost_36 : decode cX2_seekMost 36 = .ok (.aload_n 0, 1) := by decide +kernel
theorem dX2_seekMost_37 : decode cX2_seekMost 37 = .ok (.iload 4, 2) := by decide +kernel
theorem dX2_seekMost_39 : decode cX2_seekMost 39 = .ok (.putfield 26, 3) := by decide +kernel
theorem dX2_seekMost_42 : decode cX2_seekMost 42 = .ok (.return_, 1) := by decide +kernel
theorem dX2_seekMost_43 : decode cX2_seekMost 43 = .ok (.aload_n 0, 1) := by decide +kernel
theorem dX2_seekMost_44 : decode cX2_seekMost 44 = .ok (.getfield 11, 3) := by decide +kernel
theorem dX2_seekMost_47 : decode cX2_seekMost 47 = .ok (.iload_n 3, 1) := by decide +kernel
theorem dX2_seekMost_48 : decode cX2_seekMost 48 = .ok (.iconst 1, 1) := by decide +kernel
theorem dX2_seekMost_49 : decode cX2_seekMost 49 = .ok (.iadd, 1) := by decide +kernel
theorem dX2_seekMost_50 : decode cX2_seekMost 50 = .ok (.aaload, 1) := by decide +kernel
theorem dX2_seekMost_51 : decode cX2_seekMost 51 = .ok (.astore 5, 2) := by decide +kernel
theorem dX2_seekMost_53 : decode cX2_seekMost 53 = .ok (.iconst 0, 1) := by decide +kernel
theorem dX2_seekMost_54 : decode cX2_seekMost 54 = .ok (.istore 6, 2) := by decide +kernel
theorem dX2_seekMost_56 : decode cX2_seekMost 56 = .ok (.iload 6, 2) := by decide +kernel
theorem dX2_seekMost_58 : decode cX2_seekMost 58 = .ok (.iconst 4, 1) := by decide +kernel
theorem dX2_seekMost_59 : decode cX2_seekMost 59 = .ok (.if_icmp .ge 58, 3) := by decide +kernel
theorem dX2_seekMost_62 : decode cX2_seekMost 62 = .ok (.aload_n 0, 1) := by decide +kernel
theorem dX2_seekMost_63 : decode cX2_seekMost 63 = .ok (.getfield 22, 3) := by decide +kernel
theorem dX2_seekMost_66 : decode cX2_seekMost 66 = .ok (.aload_n 0, 1) := by decide +kernel
theorem dX2_seekMost_67 : decode cX2_seekMost 67 = .ok (.getfield 66, 3) := by decide +kernel
theorem dX2_seekMost_70 : decode cX2_seekMost 70 = .ok (.if_icmp .ge 47, 3) := by decide +kernel
theorem dX2_seekMost_73 : decode cX2_seekMost 73 = .ok (.aload 5, 2) := by decide +kernel
theorem dX2_seekMost_75 : decode cX2_seekMost 75 = .ok (.aload_n 0, 1) := by decide +kernel
theorem dX2_seekMost_76 : decode cX2_seekMost 76 = .ok (.getfield 11, 3) := by decide +kernel
theorem dX2_seekMost_79 : decode cX2_seekMost 79 = .ok (.iload_n 3, 1) := by decide +kernel
theorem dX2_seekMost_80 : decode cX2_seekMost 80 = .ok (.aaload, 1) := by decide +kernel
theorem dX2_seekMost_81 : decode cX2_seekMost 81 = .ok (.invokevirtual 18, 3) := by decide +kernel
theorem dX2_seekMost_84 : decode cX2_seekMost 84 = .ok (.aload_n 1, 1) := by decide +kernel
theorem dX2_seekMost_85 : decode cX2_seekMost 85 = .ok (.aload 5, 2) := by decide +kernel
theorem dX2_seekMost_87 : decode cX2_seekMost 87 = .ok (.iload 6, 2) := by decide +kernel
theorem dX2_seekMost_89 : decode cX2_seekMost 89 = .ok (.invokevirtual 43, 3) := by decide +kernel
theorem dX2_seekMost_92 : decode cX2_seekMost 92 = .ok (.aload_n 0, 1) := by decide +kernel
theorem dX2_seekMost_93 : decode cX2_seekMost 93 = .ok (.aload_n 1, 1) := by decide +kernel
theorem dX2_seekMost_94 : decode cX2_seekMost 94 = .ok (.iload_n 2, 1) := by decide +kernel
theorem dX2_seekMost_95 : decode cX2_seekMost 95 = .ok (.iload_n 3, 1) := by decide +kernel
theorem dX2_seekMost_96 : decode cX2_seekMost 96 = .ok (.iconst 1, 1) := by decide +kernel
theorem dX2_seekMost_97 : decode cX2_seekMost 97 = .ok (.iadd, 1) := by decide +kernel
theorem dX2_seekMost_98 : decode cX2_seekMost 98 = .ok (.iload 4, 2) := by decide +kernel
theorem dX2_seekMost_100 : decode cX2_seekMost 100 = .ok (.bipush 10, 2) := by decide +kernel
theorem dX2_seekMost_102 : decode cX2_seekMost 102 = .ok (.imul, 1) := by decide +kernel
theorem dX2_seekMost_103 : decode cX2_seekMost 103 = .ok (.iload 6, 2) := by decide +kernel
theorem dX2_seekMost_105 : decode cX2_seekMost 105 = .ok (.iadd, 1) := by decide +kernel
theorem dX2_seekMost_106 : decode cX2_seekMost 106 = .ok (.iconst 1, 1) := by decide +kernel
theorem dX2_seekMost_107 : decode cX2_seekMost 107 = .ok (.iadd, 1) := by decide +kernel
theorem dX2_seekMost_108 : decode cX2_seekMost 108 = .ok (.invokevirtual 69, 3) := by decide +kernel
theorem dX2_seekMost_111 : decode cX2_seekMost 111 = .ok (.iinc 6 1, 3) := by decide +kernel
theorem dX2_seekMost_114 : decode cX2_seekMost 114 = .ok (.goto (-58), 3) := by decide +kernel
theorem dX2_seekMost_117 : decode cX2_seekMost 117 = .ok (.return_, 1) := by decide +kernel
theorem dX3_init_0 : decode cX3_init 0 = .ok (.aload_n 0, 1) := by decide +kernel
theorem dX3_init_1 : decode cX3_init 1 = .ok (.invokespecial 3, 3) := by decide +kernel
theorem dX3_init_4 : decode cX3_init 4 = .ok (.aload_n 0, 1) := by decide +kernel
theorem dX3_init_5 : decode cX3_init 5 = .ok (.bipush 6, 2) := by decide +kernel
theorem dX3_init_7 : decode cX3_init 7 = .ok (.newarray .int, 2) := by decide +kernel
theorem dX3_init_9 : decode cX3_init 9 = .ok (.putfield 9, 3) := by decide +kernel
theorem dX3_init_12 : decode cX3_init 12 = .ok (.aload_n 0, 1) := by decide +kernel
theorem dX3_init_13 : decode cX3_init 13 = .ok (.bipush 6, 2) := by decide +kernel
theorem dX3_init_15 : decode cX3_init 15 = .ok (.newarray .int, 2) := by decide +kernel
theorem dX3_init_17 : decode cX3_init 17 = .ok (.putfield 15, 3) := by decide +kernel
theorem dX3_init_20 : decode cX3_init 20 = .ok (.aload_n 0, 1) := by decide +kernel
theorem dX3_init_21 : decode cX3_init 21 = .ok (.bipush 6, 2) := by decide +kernel
theorem dX3_init_23 : decode cX3_init 23 = .ok (.newarray .int, 2) := by decide +kernel
theorem dX3_init_25 : decode cX3_init 25 = .ok (.putfield 18, 3) := by decide +kernel
theorem dX3_init_28 : decode cX3_init 28 = .ok (.return_, 1) := by decide +kernel
theorem dX3_add_0 : decode cX3_add 0 = .ok (.aload_n 0, 1) := by decide +kernel
theorem dX3_add_1 : decode cX3_add 1 = .ok (.getfield 21, 3) := by decide +kernel
theorem dX3_add_4 : decode cX3_add 4 = .ok (.bipush 6, 2) := by decide +kernel
theorem dX3_add_6 : decode cX3_add 6 = .ok (.if_icmp .lt 6, 3) := by decide +kernel
theorem dX3_add_9 : decode cX3_add 9 = .ok (.bipush (-4), 2) := by decide +kernel
theorem dX3_add_11 : decode cX3_add 11 = .ok (.ireturn, 1) := by decide +kernel
theorem dX3_add_12 : decode cX3_add 12 = .ok (.aload_n 0, 1) := by decide +kernel
theorem dX3_add_13 : decode cX3_add 13 = .ok (.getfield 9, 3) := by decide +kernel
theorem dX3_add_16 : decode cX3_add 16 = .ok (.aload_n 0, 1) := by decide +kernel
theorem dX3_add_17 : decode cX3_add 17 = .ok (.getfield 21, 3) := by decide +kernel
theorem dX3_add_20 : decode cX3_add 20 = .ok (.iload_n 1, 1) := by decide +kernel
theorem dX3_add_21 : decode cX3_add 21 = .ok (.iastore, 1) := by decide +kernel
theorem dX3_add_22 : decode cX3_add 22 = .ok (.aload_n 0, 1) := by decide +kernel
theorem dX3_add_23 : decode cX3_add 23 = .ok (.getfield 15, 3) := by decide +kernel
theorem dX3_add_26 : decode cX3_add 26 = .ok (.aload_n 0, 1) := by decide +kernel
theorem dX3_add_27 : decode cX3_add 27 = .ok (.getfield 21, 3) := by decide +kernel
theorem dX3_add_30 : decode cX3_add 30 = .ok (.iload_n 2, 1) := by decide +kernel
theorem dX3_add_31 : decode cX3_add 31 = .ok (.iastore, 1) := by decide +kernel
theorem dX3_add_32 : decode cX3_add 32 = .ok (.aload_n 0, 1) := by decide +kernel
theorem dX3_add_33 : decode cX3_add 33 = .ok (.getfield 18, 3) := by decide +kernel
theorem dX3_add_36 : decode cX3_add 36 = .ok (.aload_n 0, 1) := by decide +kernel
theorem dX3_add_37 : decode cX3_add 37 = .ok (.getfield 21, 3) := by decide +kernel
theorem dX3_add_40 : decode cX3_add 40 = .ok (.iload_n 3, 1) := by decide +kernel
theorem dX3_add_41 : decode cX3_add 41 = .ok (.iastore, 1) := by decide +kernel
theorem dX3_add_42 : decode cX3_add 42 = .ok (.aload_n 0, 1) := by decide +kernel
theorem dX3_add_43 : decode cX3_add 43 = .ok (.dup, 1) := by decide +kernel
theorem dX3_add_44 : decode cX3_add 44 = .ok (.getfield 21, 3) := by decide +kernel
theorem dX3_add_47 : decode cX3_add 47 = .ok (.iconst 1, 1) := by decide +kernel
theorem dX3_add_48 : decode cX3_add 48 = .ok (.iadd, 1) := by decide +kernel
theorem dX3_add_49 : decode cX3_add 49 = .ok (.putfield 21, 3) := by decide +kernel
theorem dX3_add_52 : decode cX3_add 52 = .ok (.aload_n 0, 1) := by decide +kernel
theorem dX3_add_53 : decode cX3_add 53 = .ok (.getfield 21, 3) := by decide +kernel
theorem dX3_add_56 : decode cX3_add 56 = .ok (.ireturn, 1) := by decide +kernel
set_option maxRecDepth 20000 in
theorem ggX3_agree_X6_bitOf : GoodIn wsX3_agree wsX6_bitOf := goodIn_r _ [8] (by decide +kernel) (by decide +kernel)
set_option maxRecDepth 20000 in
theorem gX3_agree_X6_bitOf_n30 : GoodIn wsX3_agree (wsX6_bitOf) := ggX3_agree_X6_bitOf
set_option maxRecDepth 20000 in
theorem ggX3_agree_X3_comesTo : GoodIn wsX3_agree wsX3_comesTo := goodIn_r _ [12, 13, 7, 14, 6, 8] (by decide +kernel) (by decide +kernel)
set_option maxRecDepth 20000 in
theorem gX3_agree_X3_comesTo : GoodIn wsX3_agree (va_wsS RX3 34 yX3_comesTo wsX3_comesTo) := goodIn_app (goodIn_of _ (by decide +kernel)) ggX3_agree_X3_comesTo
theorem dX3_agree_0 : decode cX3_agree 0 = .ok (.aload_n 1, 1) := by decide +kernel
theorem dX3_agree_1 : decode cX3_agree 1 = .ok (.getfield 25, 3) := by decide +kernel
theorem dX3_agree_4 : decode cX3_agree 4 = .ok (.iconst 2, 1) := by decide +kernel
theorem dX3_agree_5 : decode cX3_agree 5 = .ok (.iaload, 1) := by decide +kernel
theorem dX3_agree_6 : decode cX3_agree 6 = .ok (.istore_n 3, 1) := by decide +kernel
theorem dX3_agree_7 : decode cX3_agree 7 = .ok (.aload_n 1, 1) := by decide +kernel
theorem dX3_agree_8 : decode cX3_agree 8 = .ok (.getfield 25, 3) := by decide +kernel
theorem dX3_agree_11 : decode cX3_agree 11 = .ok (.iconst 1, 1) := by decide +kernel
theorem dX3_agree_12 : decode cX3_agree 12 = .ok (.iaload, 1) := by decide +kernel
theorem dX3_agree_13 : decode cX3_agree 13 = .ok (.aload_n 1, 1) := by decide +kernel
theorem dX3_agree_14 : decode cX3_agree 14 = .ok (.getfield 25, 3) := by decide +kernel
theorem dX3_agree_17 : decode cX3_agree 17 = .ok (.iconst 4, 1) := by decide +kernel
theorem dX3_agree_18 : decode cX3_agree 18 = .ok (.iaload, 1) := by decide +kernel
theorem dX3_agree_19 : decode cX3_agree 19 = .ok (.ior, 1) := by decide +kernel
theorem dX3_agree_20 : decode cX3_agree 20 = .ok (.iconst 1, 1) := by decide +kernel
theorem dX3_agree_21 : decode cX3_agree 21 = .ok (.iload_n 2, 1) := by decide +kernel
theorem dX3_agree_22 : decode cX3_agree 22 = .ok (.ishl, 1) := by decide +kernel
theorem dX3_agree_23 : decode cX3_agree 23 = .ok (.ior, 1) := by decide +kernel
theorem dX3_agree_24 : decode cX3_agree 24 = .ok (.istore 4, 2) := by decide +kernel
theorem dX3_agree_26 : decode cX3_agree 26 = .ok (.iconst 0, 1) := by decide +kernel
theorem dX3_agree_27 : decode cX3_agree 27 = .ok (.istore 5, 2) := by decide +kernel
theorem dX3_agree_29 : decode cX3_agree 29 = .ok (.iload 5, 2) := by decide +kernel
theorem dX3_agree_31 : decode cX3_agree 31 = .ok (.aload_n 0, 1) := by decide +kernel
theorem dX3_agree_32 : decode cX3_agree 32 = .ok (.getfield 21, 3) := by decide +kernel
theorem dX3_agree_35 : decode cX3_agree 35 = .ok (.if_icmp .ge 61, 3) := by decide +kernel
theorem dX3_agree_38 : decode cX3_agree 38 = .ok (.iload 4, 2) := by decide +kernel
theorem dX3_agree_40 : decode cX3_agree 40 = .ok (.iload_n 3, 1) := by decide +kernel
theorem dX3_agree_41 : decode cX3_agree 41 = .ok (.ior, 1) := by decide +kernel
theorem dX3_agree_42 : decode cX3_agree 42 = .ok (.aload_n 0, 1) := by decide +kernel
theorem dX3_agree_43 : decode cX3_agree 43 = .ok (.getfield 9, 3) := by decide +kernel
theorem dX3_agree_46 : decode cX3_agree 46 = .ok (.iload 5, 2) := by decide +kernel
theorem dX3_agree_48 : decode cX3_agree 48 = .ok (.iaload, 1) := by decide +kernel
theorem dX3_agree_49 : decode cX3_agree 49 = .ok (.invokestatic 30, 3) := by decide +kernel
theorem dX3_agree_52 : decode cX3_agree 52 = .ok (.iconst 1, 1) := by decide +kernel
theorem dX3_agree_53 : decode cX3_agree 53 = .ok (.if_icmp .ne 5, 3) := by decide +kernel
theorem dX3_agree_56 : decode cX3_agree 56 = .ok (.iconst 0, 1) := by decide +kernel
theorem dX3_agree_57 : decode cX3_agree 57 = .ok (.ireturn, 1) := by decide +kernel
theorem dX3_agree_58 : decode cX3_agree 58 = .ok (.aload_n 0, 1) := by decide +kernel
theorem dX3_agree_59 : decode cX3_agree 59 = .ok (.getfield 9, 3) := by decide +kernel
theorem dX3_agree_62 : decode cX3_agree 62 = .ok (.iload 5, 2) := by decide +kernel
theorem dX3_agree_64 : decode cX3_agree 64 = .ok (.iaload, 1) := by decide +kernel
theorem dX3_agree_65 : decode cX3_agree 65 = .ok (.aload_n 0, 1) := by decide +kernel
theorem dX3_agree_66 : decode cX3_agree 66 = .ok (.getfield 15, 3) := by decide +kernel
theorem dX3_agree_69 : decode cX3_agree 69 = .ok (.iload 5, 2) := by decide +kernel
theorem dX3_agree_71 : decode cX3_agree 71 = .ok (.iaload, 1) := by decide +kernel
theorem dX3_agree_72 : decode cX3_agree 72 = .ok (.iload 4, 2) := by decide +kernel
theorem dX3_agree_74 : decode cX3_agree 74 = .ok (.iload_n 3, 1) := by decide +kernel
theorem dX3_agree_75 : decode cX3_agree 75 = .ok (.invokestatic 34, 3) := by decide +kernel
theorem dX3_agree_78 : decode cX3_agree 78 = .ok (.aload_n 0, 1) := by decide +kernel
theorem dX3_agree_79 : decode cX3_agree 79 = .ok (.getfield 18, 3) := by decide +kernel
theorem dX3_agree_82 : decode cX3_agree 82 = .ok (.iload 5, 2) := by decide +kernel
theorem dX3_agree_84 : decode cX3_agree 84 = .ok (.iaload, 1) := by decide +kernel
theorem dX3_agree_85 : decode cX3_agree 85 = .ok (.if_icmp .eq 5, 3) := by decide +kernel
theorem dX3_agree_88 : decode cX3_agree 88 = .ok (.iconst 0, 1) := by decide +kernel
theorem dX3_agree_89 : decode cX3_agree 89 = .ok (.ireturn, 1) := by decide +kernel
theorem dX3_agree_90 : decode cX3_agree 90 = .ok (.iinc 5 1, 3) := by decide +kernel
theorem dX3_agree_93 : decode cX3_agree 93 = .ok (.goto (-64), 3) := by decide +kernel
theorem dX3_agree_96 : decode cX3_agree 96 = .ok (.iconst 1, 1) := by decide +kernel
theorem dX3_agree_97 : decode cX3_agree 97 = .ok (.ireturn, 1) := by decide +kernel
set_option maxRecDepth 20000 in
theorem ggX3_comesTo_X6_nextCell : GoodIn wsX3_comesTo wsX6_nextCell := goodIn_r _ [3] (by decide +kernel) (by decide +kernel)
set_option maxRecDepth 20000 in
theorem gX3_comesTo_X6_nextCell_n38 : GoodIn wsX3_comesTo (wsX6_nextCell) := ggX3_comesTo_X6_nextCell
set_option maxRecDepth 20000 in
theorem ggX3_comesTo_X6_bitOf : GoodIn wsX3_comesTo wsX6_bitOf := goodIn_r _ [5] (by decide +kernel) (by decide +kernel)
set_option maxRecDepth 20000 in
theorem gX3_comesTo_X6_bitOf_n30 : GoodIn wsX3_comesTo (wsX6_bitOf) := ggX3_comesTo_X6_bitOf
theorem dX3_comesTo_0 : decode cX3_comesTo 0 = .ok (.iload_n 0, 1) := by decide +kernel
theorem dX3_comesTo_1 : decode cX3_comesTo 1 = .ok (.istore 4, 2) := by decide +kernel
theorem dX3_comesTo_3 : decode cX3_comesTo 3 = .ok (.iconst 0, 1) := by decide +kernel
theorem dX3_comesTo_4 : decode cX3_comesTo 4 = .ok (.istore 5, 2) := by decide +kernel
theorem dX3_comesTo_6 : decode cX3_comesTo 6 = .ok (.iload 5, 2) := by decide +kernel
theorem dX3_comesTo_8 : decode cX3_comesTo 8 = .ok (.iconst 5, 1) := by decide +kernel
theorem dX3_comesTo_9 : decode cX3_comesTo 9 = .ok (.if_icmp .ge 53, 3) := by decide +kernel
theorem dX3_comesTo_12 : decode cX3_comesTo 12 = .ok (.iload 4, 2) := by decide +kernel
theorem dX3_comesTo_14 : decode cX3_comesTo 14 = .ok (.iload_n 1, 1) := by decide +kernel
theorem dX3_comesTo_15 : decode cX3_comesTo 15 = .ok (.invokestatic 38, 3) := by decide +kernel
theorem dX3_comesTo_18 : decode cX3_comesTo 18 = .ok (.istore 6, 2) := by decide +kernel
theorem dX3_comesTo_20 : decode cX3_comesTo 20 = .ok (.iload 6, 2) := by decide +kernel
theorem dX3_comesTo_22 : decode cX3_comesTo 22 = .ok (.iconst (-1), 1) := by decide +kernel
theorem dX3_comesTo_23 : decode cX3_comesTo 23 = .ok (.if_icmp .eq 13, 3) := by decide +kernel
theorem dX3_comesTo_26 : decode cX3_comesTo 26 = .ok (.iload_n 2, 1) := by decide +kernel
theorem dX3_comesTo_27 : decode cX3_comesTo 27 = .ok (.iload 6, 2) := by decide +kernel
theorem dX3_comesTo_29 : decode cX3_comesTo 29 = .ok (.invokestatic 30, 3) := by decide +kernel
theorem dX3_comesTo_32 : decode cX3_comesTo 32 = .ok (.iconst 1, 1) := by decide +kernel
theorem dX3_comesTo_33 : decode cX3_comesTo 33 = .ok (.if_icmp .ne 6, 3) := by decide +kernel
theorem dX3_comesTo_36 : decode cX3_comesTo 36 = .ok (.iload 4, 2) := by decide +kernel
theorem dX3_comesTo_38 : decode cX3_comesTo 38 = .ok (.ireturn, 1) := by decide +kernel
theorem dX3_comesTo_39 : decode cX3_comesTo 39 = .ok (.iload_n 3, 1) := by decide +kernel
theorem dX3_comesTo_40 : decode cX3_comesTo 40 = .ok (.iload 6, 2) := by decide +kernel
theorem dX3_comesTo_42 : decode cX3_comesTo 42 = .ok (.invokestatic 30, 3) := by decide +kernel
theorem dX3_comesTo_45 : decode cX3_comesTo 45 = .ok (.iconst 1, 1) := by decide +kernel
theorem dX3_comesTo_46 : decode cX3_comesTo 46 = .ok (.if_icmp .ne 6, 3) := by decide +kernel
theorem dX3_comesTo_49 : decode cX3_comesTo 49 = .ok (.bipush 25, 2) := by decide +kernel
theorem dX3_comesTo_51 : decode cX3_comesTo 51 = .ok (.ireturn, 1) := by decide +kernel
theorem dX3_comesTo_52 : decode cX3_comesTo 52 = .ok (.iload 6, 2) := by decide +kernel
theorem dX3_comesTo_54 : decode cX3_comesTo 54 = .ok (.istore 4, 2) := by decide +kernel
theorem dX3_comesTo_56 : decode cX3_comesTo 56 = .ok (.iinc 5 1, 3) := by decide +kernel
theorem dX3_comesTo_59 : decode cX3_comesTo 59 = .ok (.goto (-53), 3) := by decide +kernel
theorem dX3_comesTo_62 : decode cX3_comesTo 62 = .ok (.iload 4, 2) := by decide +kernel
theorem dX3_comesTo_64 : decode cX3_comesTo 64 = .ok (.ireturn, 1) := by decide +kernel
theorem dX4_init_0 : decode cX4_init 0 = .ok (.aload_n 0, 1) := by decide +kernel
theorem dX4_init_1 : decode cX4_init 1 = .ok (.invokespecial 3, 3) := by decide +kernel
theorem dX4_init_4 : decode cX4_init 4 = .ok (.aload_n 0, 1) := by decide +kernel
theorem dX4_init_5 : decode cX4_init 5 = .ok (.iconst 4, 1) := by decide +kernel
theorem dX4_init_6 : decode cX4_init 6 = .ok (.newarray .int, 2) := by decide +kernel
theorem dX4_init_8 : decode cX4_init 8 = .ok (.dup, 1) := by decide +kernel
theorem dX4_init_9 : decode cX4_init 9 = .ok (.iconst 0, 1) := by decide +kernel
theorem dX4_init_10 : decode cX4_init 10 = .ok (.iconst (-1), 1) := by decide +kernel
theorem dX4_init_11 : decode cX4_init 11 = .ok (.iastore, 1) := by decide +kernel
theorem dX4_init_12 : decode cX4_init 12 = .ok (.dup, 1) := by decide +kernel
theorem dX4_init_13 : decode cX4_init 13 = .ok (.iconst 1, 1) := by decide +kernel
theorem dX4_init_14 : decode cX4_init 14 = .ok (.iconst (-1), 1) := by decide +kernel
theorem dX4_init_15 : decode cX4_init 15 = .ok (.iastore, 1) := by decide +kernel
theorem dX4_init_16 : decode cX4_init 16 = .ok (.dup, 1) := by decide +kernel
theorem dX4_init_17 : decode cX4_init 17 = .ok (.iconst 2, 1) := by decide +kernel
theorem dX4_init_18 : decode cX4_init 18 = .ok (.iconst (-1), 1) := by decide +kernel
theorem dX4_init_19 : decode cX4_init 19 = .ok (.iastore, 1) := by decide +kernel
theorem dX4_init_20 : decode cX4_init 20 = .ok (.dup, 1) := by decide +kernel
theorem dX4_init_21 : decode cX4_init 21 = .ok (.iconst 3, 1) := by decide +kernel
theorem dX4_init_22 : decode cX4_init 22 = .ok (.iconst (-1), 1) := by decide +kernel
theorem dX4_init_23 : decode cX4_init 23 = .ok (.iastore, 1) := by decide +kernel
theorem dX4_init_24 : decode cX4_init 24 = .ok (.putfield 9, 3) := by decide +kernel
theorem dX4_init_27 : decode cX4_init 27 = .ok (.return_, 1) := by decide +kernel
theorem dX4_begin_0 : decode cX4_begin 0 = .ok (.aload_n 0, 1) := by decide +kernel
theorem dX4_begin_1 : decode cX4_begin 1 = .ok (.aload_n 1, 1) := by decide +kernel
theorem dX4_begin_2 : decode cX4_begin 2 = .ok (.getfield 15, 3) := by decide +kernel
theorem dX4_begin_5 : decode cX4_begin 5 = .ok (.iconst 0, 1) := by decide +kernel
theorem dX4_begin_6 : decode cX4_begin 6 = .ok (.iaload, 1) := by decide +kernel
theorem dX4_begin_7 : decode cX4_begin 7 = .ok (.putfield 20, 3) := by decide +kernel
theorem dX4_begin_10 : decode cX4_begin 10 = .ok (.aload_n 0, 1) := by decide +kernel
theorem dX4_begin_11 : decode cX4_begin 11 = .ok (.iconst 0, 1) := by decide +kernel
theorem dX4_begin_12 : decode cX4_begin 12 = .ok (.putfield 24, 3) := by decide +kernel
theorem dX4_begin_15 : decode cX4_begin 15 = .ok (.aload_n 0, 1) := by decide +kernel
theorem dX4_begin_16 : decode cX4_begin 16 = .ok (.iconst 0, 1) := by decide +kernel
theorem dX4_begin_17 : decode cX4_begin 17 = .ok (.putfield 27, 3) := by decide +kernel
theorem dX4_begin_20 : decode cX4_begin 20 = .ok (.aload_n 0, 1) := by decide +kernel
theorem dX4_begin_21 : decode cX4_begin 21 = .ok (.iconst 0, 1) := by decide +kernel
theorem dX4_begin_22 : decode cX4_begin 22 = .ok (.putfield 30, 3) := by decide +kernel
theorem dX4_begin_25 : decode cX4_begin 25 = .ok (.iconst 0, 1) := by decide +kernel
theorem dX4_begin_26 : decode cX4_begin 26 = .ok (.istore_n 2, 1) := by decide +kernel
theorem dX4_begin_27 : decode cX4_begin 27 = .ok (.iload_n 2, 1) := by decide +kernel
theorem dX4_begin_28 : decode cX4_begin 28 = .ok (.iconst 4, 1) := by decide +kernel
theorem dX4_begin_29 : decode cX4_begin 29 = .ok (.if_icmp .ge 33, 3) := by decide +kernel
theorem dX4_begin_32 : decode cX4_begin 32 = .ok (.aload_n 0, 1) := by decide +kernel
theorem dX4_begin_33 : decode cX4_begin 33 = .ok (.getfield 9, 3) := by decide +kernel
theorem dX4_begin_36 : decode cX4_begin 36 = .ok (.iload_n 2, 1) := by decide +kernel
theorem dX4_begin_37 : decode cX4_begin 37 = .ok (.iload_n 2, 1) := by decide +kernel
theorem dX4_begin_38 : decode cX4_begin 38 = .ok (.aload_n 1, 1) := by decide +kernel
theorem dX4_begin_39 : decode cX4_begin 39 = .ok (.getfield 33, 3) := by decide +kernel
theorem dX4_begin_42 : decode cX4_begin 42 = .ok (.if_icmp .ge 12, 3) := by decide +kernel
theorem dX4_begin_45 : decode cX4_begin 45 = .ok (.aload_n 1, 1) := by decide +kernel
theorem dX4_begin_46 : decode cX4_begin 46 = .ok (.getfield 36, 3) := by decide +kernel
theorem dX4_begin_49 : decode cX4_begin 49 = .ok (.iload_n 2, 1) := by decide +kernel
theorem dX4_begin_50 : decode cX4_begin 50 = .ok (.iaload, 1) := by decide +kernel
theorem dX4_begin_51 : decode cX4_begin 51 = .ok (.goto 4, 3) := by decide +kernel
theorem dX4_begin_54 : decode cX4_begin 54 = .ok (.iconst (-1), 1) := by decide +kernel
theorem dX4_begin_55 : decode cX4_begin 55 = .ok (.iastore, 1) := by decide +kernel
theorem dX4_begin_56 : decode cX4_begin 56 = .ok (.iinc 2 1, 3) := by decide +kernel
theorem dX4_begin_59 : decode cX4_begin 59 = .ok (.goto (-32), 3) := by decide +kernel
theorem dX4_begin_62 : decode cX4_begin 62 = .ok (.return_, 1) := by decide +kernel
theorem dX4_take_0 : decode cX4_take 0 = .ok (.iconst 0, 1) := by decide +kernel
theorem dX4_take_1 : decode cX4_take 1 = .ok (.istore_n 2, 1) := by decide +kernel
theorem dX4_take_2 : decode cX4_take 2 = .ok (.iload_n 2, 1) := by decide +kernel
theorem dX4_take_3 : decode cX4_take 3 = .ok (.iconst 4, 1) := by decide +kernel
theorem dX4_take_4 : decode cX4_take 4 = .ok (.if_icmp .ge 21, 3) := by decide +kernel
theorem dX4_take_7 : decode cX4_take 7 = .ok (.aload_n 0, 1) := by decide +kernel
theorem dX4_take_8 : decode cX4_take 8 = .ok (.getfield 9, 3) := by decide +kernel
theorem dX4_take_11 : decode cX4_take 11 = .ok (.iload_n 2, 1) := by decide +kernel
theorem dX4_take_12 : decode cX4_take 12 = .ok (.aload_n 1, 1) := by decide +kernel
theorem dX4_take_13 : decode cX4_take 13 = .ok (.getfield 9, 3) := by decide +kernel
theorem dX4_take_16 : decode cX4_take 16 = .ok (.iload_n 2, 1) := by decide +kernel
theorem dX4_take_17 : decode cX4_take 17 = .ok (.iaload, 1) := by decide +kernel
theorem dX4_take_18 : decode cX4_take 18 = .ok (.iastore, 1) := by decide +kernel
theorem dX4_take_19 : decode cX4_take 19 = .ok (.iinc 2 1, 3) := by decide +kernel
theorem dX4_take_22 : decode cX4_take 22 = .ok (.goto (-20), 3) := by decide +kernel
theorem dX4_take_25 : decode cX4_take 25 = .ok (.aload_n 0, 1) := by decide +kernel
theorem dX4_take_26 : decode cX4_take 26 = .ok (.aload_n 1, 1) := by decide +kernel
theorem dX4_take_27 : decode cX4_take 27 = .ok (.getfield 20, 3) := by decide +kernel
theorem dX4_take_30 : decode cX4_take 30 = .ok (.putfield 20, 3) := by decide +kernel
theorem dX4_take_33 : decode cX4_take 33 = .ok (.aload_n 0, 1) := by decide +kernel
theorem dX4_take_34 : decode cX4_take 34 = .ok (.aload_n 1, 1) := by decide +kernel
theorem dX4_take_35 : decode cX4_take 35 = .ok (.getfield 24, 3) := by decide +kernel
theorem dX4_take_38 : decode cX4_take 38 = .ok (.putfield 24, 3) := by decide +kernel
theorem dX4_take_41 : decode cX4_take 41 = .ok (.aload_n 0, 1) := by decide +kernel
theorem dX4_take_42 : decode cX4_take 42 = .ok (.aload_n 1, 1) := by decide +kernel
theorem dX4_take_43 : decode cX4_take 43 = .ok (.getfield 27, 3) := by decide +kernel
theorem dX4_take_46 : decode cX4_take 46 = .ok (.putfield 27, 3) := by decide +kernel
theorem dX4_take_49 : decode cX4_take 49 = .ok (.aload_n 0, 1) := by decide +kernel
theorem dX4_take_50 : decode cX4_take 50 = .ok (.aload_n 1, 1) := by decide +kernel
theorem dX4_take_51 : decode cX4_take 51 = .ok (.getfield 30, 3) := by decide +kernel
theorem dX4_take_54 : decode cX4_take 54 = .ok (.putfield 30, 3) := by decide +kernel
theorem dX4_take_57 : decode cX4_take 57 = .ok (.return_, 1) := by decide +kernel
theorem dX4_hasSamePlaces_0 : decode cX4_hasSamePlaces 0 = .ok (.aload_n 0, 1) := by decide +kernel
theorem dX4_hasSamePlaces_1 : decode cX4_hasSamePlaces 1 = .ok (.getfield 9, 3) := by decide +kernel
theorem dX4_hasSamePlaces_4 : decode cX4_hasSamePlaces 4 = .ok (.iconst 0, 1) := by decide +kernel
theorem dX4_hasSamePlaces_5 : decode cX4_hasSamePlaces 5 = .ok (.iaload, 1) := by decide +kernel
theorem dX4_hasSamePlaces_6 : decode cX4_hasSamePlaces 6 = .ok (.aload_n 1, 1) := by decide +kernel
theorem dX4_hasSamePlaces_7 : decode cX4_hasSamePlaces 7 = .ok (.getfield 9, 3) := by decide +kernel
theorem dX4_hasSamePlaces_10 : decode cX4_hasSamePlaces 10 = .ok (.iconst 0, 1) := by decide +kernel
theorem dX4_hasSamePlaces_11 : decode cX4_hasSamePlaces 11 = .ok (.iaload, 1) := by decide +kernel
theorem dX4_hasSamePlaces_12 : decode cX4_hasSamePlaces 12 = .ok (.if_icmp .ne 52, 3) := by decide +kernel
theorem dX4_hasSamePlaces_15 : decode cX4_hasSamePlaces 15 = .ok (.aload_n 0, 1) := by decide +kernel
theorem dX4_hasSamePlaces_16 : decode cX4_hasSamePlaces 16 = .ok (.getfield 9, 3) := by decide +kernel
theorem dX4_hasSamePlaces_19 : decode cX4_hasSamePlaces 19 = .ok (.iconst 1, 1) := by decide +kernel
theorem dX4_hasSamePlaces_20 : decode cX4_hasSamePlaces 20 = .ok (.iaload, 1) := by decide +kernel
theorem dX4_hasSamePlaces_21 : decode cX4_hasSamePlaces 21 = .ok (.aload_n 1, 1) := by decide +kernel
theorem dX4_hasSamePlaces_22 : decode cX4_hasSamePlaces 22 = .ok (.getfield 9, 3) := by decide +kernel
theorem dX4_hasSamePlaces_25 : decode cX4_hasSamePlaces 25 = .ok (.iconst 1, 1) := by decide +kernel
theorem dX4_hasSamePlaces_26 : decode cX4_hasSamePlaces 26 = .ok (.iaload, 1) := by decide +kernel
theorem dX4_hasSamePlaces_27 : decode cX4_hasSamePlaces 27 = .ok (.if_icmp .ne 37, 3) := by decide +kernel
theorem dX4_hasSamePlaces_30 : decode cX4_hasSamePlaces 30 = .ok (.aload_n 0, 1) := by decide +kernel
theorem dX4_hasSamePlaces_31 : decode cX4_hasSamePlaces 31 = .ok (.getfield 9, 3) := by decide +kernel
theorem dX4_hasSamePlaces_34 : decode cX4_hasSamePlaces 34 = .ok (.iconst 2, 1) := by decide +kernel
theorem dX4_hasSamePlaces_35 : decode cX4_hasSamePlaces 35 = .ok (.iaload, 1) := by decide +kernel
theorem dX4_hasSamePlaces_36 : decode cX4_hasSamePlaces 36 = .ok (.aload_n 1, 1) := by decide +kernel
theorem dX4_hasSamePlaces_37 : decode cX4_hasSamePlaces 37 = .ok (.getfield 9, 3) := by decide +kernel
theorem dX4_hasSamePlaces_40 : decode cX4_hasSamePlaces 40 = .ok (.iconst 2, 1) := by decide +kernel
theorem dX4_hasSamePlaces_41 : decode cX4_hasSamePlaces 41 = .ok (.iaload, 1) := by decide +kernel
theorem dX4_hasSamePlaces_42 : decode cX4_hasSamePlaces 42 = .ok (.if_icmp .ne 22, 3) := by decide +kernel
theorem dX4_hasSamePlaces_45 : decode cX4_hasSamePlaces 45 = .ok (.aload_n 0, 1) := by decide +kernel
theorem dX4_hasSamePlaces_46 : decode cX4_hasSamePlaces 46 = .ok (.getfield 9, 3) := by decide +kernel
theorem dX4_hasSamePlaces_49 : decode cX4_hasSamePlaces 49 = .ok (.iconst 3, 1) := by decide +kernel
theorem dX4_hasSamePlaces_50 : decode cX4_hasSamePlaces 50 = .ok (.iaload, 1) := by decide +kernel
theorem dX4_hasSamePlaces_51 : decode cX4_hasSamePlaces 51 = .ok (.aload_n 1, 1) := by decide +kernel
theorem dX4_hasSamePlaces_52 : decode cX4_hasSamePlaces 52 = .ok (.getfield 9, 3) := by decide +kernel
theorem dX4_hasSamePlaces_55 : decode cX4_hasSamePlaces 55 = .ok (.iconst 3, 1) := by decide +kernel
theorem dX4_hasSamePlaces_56 : decode cX4_hasSamePlaces 56 = .ok (.iaload, 1) := by decide +kernel
theorem dX4_hasSamePlaces_57 : decode cX4_hasSamePlaces 57 = .ok (.if_icmp .ne 7, 3) := by decide +kernel
theorem dX4_hasSamePlaces_60 : decode cX4_hasSamePlaces 60 = .ok (.iconst 1, 1) := by decide +kernel
theorem dX4_hasSamePlaces_61 : decode cX4_hasSamePlaces 61 = .ok (.goto 4, 3) := by decide +kernel
theorem dX4_hasSamePlaces_64 : decode cX4_hasSamePlaces 64 = .ok (.iconst 0, 1) := by decide +kernel
theorem dX4_hasSamePlaces_65 : decode cX4_hasSamePlaces 65 = .ok (.ireturn, 1) := by decide +kernel
theorem dX4_isIn_0 : decode cX4_isIn 0 = .ok (.aload_n 0, 1) := by decide +kernel
theorem dX4_isIn_1 : decode cX4_isIn 1 = .ok (.getfield 9, 3) := by decide +kernel
theorem dX4_isIn_4 : decode cX4_isIn 4 = .ok (.iload_n 1, 1) := by decide +kernel
theorem dX4_isIn_5 : decode cX4_isIn 5 = .ok (.iaload, 1) := by decide +kernel
theorem dX4_isIn_6 : decode cX4_isIn 6 = .ok (.bipush 100, 2) := by decide +kernel
theorem dX4_isIn_8 : decode cX4_isIn 8 = .ok (.if_icmp .lt 7, 3) := by decide +kernel
theorem dX4_isIn_11 : decode cX4_isIn 11 = .ok (.iconst 1, 1) := by decide +kernel
theorem dX4_isIn_12 : decode cX4_isIn 12 = .ok (.goto 4, 3) := by decide +kernel
theorem dX4_isIn_15 : decode cX4_isIn 15 = .ok (.iconst 0, 1) := by decide +kernel
theorem dX4_isIn_16 : decode cX4_isIn 16 = .ok (.ireturn, 1) := by decide +kernel
theorem dX4_marbleAt_0 : decode cX4_marbleAt 0 = .ok (.iconst 0, 1) := by decide +kernel
theorem dX4_marbleAt_1 : decode cX4_marbleAt 1 = .ok (.istore_n 2, 1) := by decide +kernel
theorem dX4_marbleAt_2 : decode cX4_marbleAt 2 = .ok (.iload_n 2, 1) := by decide +kernel
theorem dX4_marbleAt_3 : decode cX4_marbleAt 3 = .ok (.iconst 4, 1) := by decide +kernel
theorem dX4_marbleAt_4 : decode cX4_marbleAt 4 = .ok (.if_icmp .ge 21, 3) := by decide +kernel
theorem dX4_marbleAt_7 : decode cX4_marbleAt 7 = .ok (.aload_n 0, 1) := by decide +kernel
theorem dX4_marbleAt_8 : decode cX4_marbleAt 8 = .ok (.getfield 9, 3) := by decide +kernel
theorem dX4_marbleAt_11 : decode cX4_marbleAt 11 = .ok (.iload_n 2, 1) := by decide +kernel
theorem dX4_marbleAt_12 : decode cX4_marbleAt 12 = .ok (.iaload, 1) := by decide +kernel
theorem dX4_marbleAt_13 : decode cX4_marbleAt 13 = .ok (.iload_n 1, 1) := by decide +kernel
theorem dX4_marbleAt_14 : decode cX4_marbleAt 14 = .ok (.if_icmp .ne 5, 3) := by decide +kernel
theorem dX4_marbleAt_17 : decode cX4_marbleAt 17 = .ok (.iload_n 2, 1) := by decide +kernel
theorem dX4_marbleAt_18 : decode cX4_marbleAt 18 = .ok (.ireturn, 1) := by decide +kernel
theorem dX4_marbleAt_19 : decode cX4_marbleAt 19 = .ok (.iinc 2 1, 3) := by decide +kernel
theorem dX4_marbleAt_22 : decode cX4_marbleAt 22 = .ok (.goto (-20), 3) := by decide +kernel
theorem dX4_marbleAt_25 : decode cX4_marbleAt 25 = .ok (.bipush (-9), 2) := by decide +kernel
theorem dX4_marbleAt_27 : decode cX4_marbleAt 27 = .ok (.ireturn, 1) := by decide +kernel
set_option maxRecDepth 20000 in
theorem ggX4_fallen_X4_fallenOf : GoodIn wsX4_fallen wsX4_fallenOf := goodIn_r _ [5, 6, 7, 8, 4, 9, 10, 11, 12, 13, 14, 15] (by decide +kernel) (by decide +kernel)
set_option maxRecDepth 20000 in
theorem gX4_fallen_X4_fallenOf : GoodIn wsX4_fallen (wsV RX4 39 RX4 yX4_fallenOf wsX4_fallenOf) := goodIn_app (goodIn_of _ (by decide +kernel)) ggX4_fallen_X4_fallenOf
theorem dX4_fallen_0 : decode cX4_fallen 0 = .ok (.aload_n 0, 1) := by decide +kernel
theorem dX4_fallen_1 : decode cX4_fallen 1 = .ok (.iconst 0, 1) := by decide +kernel
theorem dX4_fallen_2 : decode cX4_fallen 2 = .ok (.invokevirtual 39, 3) := by decide +kernel
theorem dX4_fallen_5 : decode cX4_fallen 5 = .ok (.aload_n 0, 1) := by decide +kernel
theorem dX4_fallen_6 : decode cX4_fallen 6 = .ok (.iconst 1, 1) := by decide +kernel
theorem dX4_fallen_7 : decode cX4_fallen 7 = .ok (.invokevirtual 39, 3) := by decide +kernel
theorem dX4_fallen_10 : decode cX4_fallen 10 = .ok (.iadd, 1) := by decide +kernel
theorem dX4_fallen_11 : decode cX4_fallen 11 = .ok (.ireturn, 1) := by decide +kernel
set_option maxRecDepth 20000 in
theorem ggX4_fallenOf_X4_isIn : GoodIn wsX4_fallenOf wsX4_isIn := goodIn_r _ [5, 6, 7, 8, 9, 10, 11] (by decide +kernel) (by decide +kernel)
set_option maxRecDepth 20000 in
theorem gX4_fallenOf_X4_isIn : GoodIn wsX4_fallenOf (wsV RX4 43 RX4 yX4_isIn wsX4_isIn) := goodIn_app (goodIn_of _ (by decide +kernel)) ggX4_fallenOf_X4_isIn
theorem dX4_fallenOf_0 : decode cX4_fallenOf 0 = .ok (.iconst 0, 1) := by decide +kernel
theorem dX4_fallenOf_1 : decode cX4_fallenOf 1 = .ok (.istore_n 2, 1) := by decide +kernel
theorem dX4_fallenOf_2 : decode cX4_fallenOf 2 = .ok (.iload_n 1, 1) := by decide +kernel
theorem dX4_fallenOf_3 : decode cX4_fallenOf 3 = .ok (.istore_n 3, 1) := by decide +kernel
theorem dX4_fallenOf_4 : decode cX4_fallenOf 4 = .ok (.iload_n 3, 1) := by decide +kernel
theorem dX4_fallenOf_5 : decode cX4_fallenOf 5 = .ok (.iconst 4, 1) := by decide +kernel
theorem dX4_fallenOf_6 : decode cX4_fallenOf 6 = .ok (.if_icmp .ge 20, 3) := by decide +kernel
theorem dX4_fallenOf_9 : decode cX4_fallenOf 9 = .ok (.aload_n 0, 1) := by decide +kernel
theorem dX4_fallenOf_10 : decode cX4_fallenOf 10 = .ok (.iload_n 3, 1) := by decide +kernel
theorem dX4_fallenOf_11 : decode cX4_fallenOf 11 = .ok (.invokevirtual 43, 3) := by decide +kernel
theorem dX4_fallenOf_14 : decode cX4_fallenOf 14 = .ok (.ifCond .eq 6, 3) := by decide +kernel
theorem dX4_fallenOf_17 : decode cX4_fallenOf 17 = .ok (.iinc 2 1, 3) := by decide +kernel
theorem dX4_fallenOf_20 : decode cX4_fallenOf 20 = .ok (.iinc 3 2, 3) := by decide +kernel
theorem dX4_fallenOf_23 : decode cX4_fallenOf 23 = .ok (.goto (-19), 3) := by decide +kernel
theorem dX4_fallenOf_26 : decode cX4_fallenOf 26 = .ok (.iload_n 2, 1) := by decide +kernel
theorem dX4_fallenOf_27 : decode cX4_fallenOf 27 = .ok (.ireturn, 1) := by decide +kernel
theorem dX4_put_0 : decode cX4_put 0 = .ok (.aload_n 0, 1) := by decide +kernel
theorem dX4_put_1 : decode cX4_put 1 = .ok (.getfield 9, 3) := by decide +kernel
theorem dX4_put_4 : decode cX4_put 4 = .ok (.iload_n 1, 1) := by decide +kernel
theorem dX4_put_5 : decode cX4_put 5 = .ok (.iaload, 1) := by decide +kernel
theorem dX4_put_6 : decode cX4_put 6 = .ok (.bipush 100, 2) := by decide +kernel
theorem dX4_put_8 : decode cX4_put 8 = .ok (.if_icmp .lt 28, 3) := by decide +kernel
theorem dX4_put_11 : decode cX4_put 11 = .ok (.aload_n 0, 1) := by decide +kernel
theorem dX4_put_12 : decode cX4_put 12 = .ok (.dup, 1) := by decide +kernel
theorem dX4_put_13 : decode cX4_put 13 = .ok (.getfield 24, 3) := by decide +kernel
theorem dX4_put_16 : decode cX4_put 16 = .ok (.iconst 1, 1) := by decide +kernel
theorem dX4_put_17 : decode cX4_put 17 = .ok (.aload_n 0, 1) := by decide +kernel
theorem dX4_put_18 : decode cX4_put 18 = .ok (.getfield 9, 3) := by decide +kernel
theorem dX4_put_21 : decode cX4_put 21 = .ok (.iload_n 1, 1) := by decide +kernel
theorem dX4_put_22 : decode cX4_put 22 = .ok (.iaload, 1) := by decide +kernel
theorem dX4_put_23 : decode cX4_put 23 = .ok (.bipush 100, 2) := by decide +kernel
theorem dX4_put_25 : decode cX4_put 25 = .ok (.isub, 1) := by decide +kernel
theorem dX4_put_26 : decode cX4_put 26 = .ok (.ishl, 1) := by decide +kernel
theorem dX4_put_27 : decode cX4_put 27 = .ok (.iconst (-1), 1) := by decide +kernel
theorem dX4_put_28 : decode cX4_put 28 = .ok (.ixor, 1) := by decide +kernel
theorem dX4_put_29 : decode cX4_put 29 = .ok (.iand, 1) := by decide +kernel
theorem dX4_put_30 : decode cX4_put 30 = .ok (.putfield 24, 3) := by decide +kernel
theorem dX4_put_33 : decode cX4_put 33 = .ok (.goto 22, 3) := by decide +kernel
theorem dX4_put_36 : decode cX4_put 36 = .ok (.aload_n 0, 1) := by decide +kernel
theorem dX4_put_37 : decode cX4_put 37 = .ok (.dup, 1) := by decide +kernel
theorem dX4_put_38 : decode cX4_put 38 = .ok (.getfield 20, 3) := by decide +kernel
theorem dX4_put_41 : decode cX4_put 41 = .ok (.iconst 1, 1) := by decide +kernel
theorem dX4_put_42 : decode cX4_put 42 = .ok (.aload_n 0, 1) := by decide +kernel
theorem dX4_put_43 : decode cX4_put 43 = .ok (.getfield 9, 3) := by decide +kernel
theorem dX4_put_46 : decode cX4_put 46 = .ok (.iload_n 1, 1) := by decide +kernel
theorem dX4_put_47 : decode cX4_put 47 = .ok (.iaload, 1) := by decide +kernel
theorem dX4_put_48 : decode cX4_put 48 = .ok (.ishl, 1) := by decide +kernel
theorem dX4_put_49 : decode cX4_put 49 = .ok (.iconst (-1), 1) := by decide +kernel
theorem dX4_put_50 : decode cX4_put 50 = .ok (.ixor, 1) := by decide +kernel
theorem dX4_put_51 : decode cX4_put 51 = .ok (.iand, 1) := by decide +kernel
theorem dX4_put_52 : decode cX4_put 52 = .ok (.putfield 20, 3) := by decide +kernel
theorem dX4_put_55 : decode cX4_put 55 = .ok (.aload_n 0, 1) := by decide +kernel
theorem dX4_put_56 : decode cX4_put 56 = .ok (.getfield 9, 3) := by decide +kernel
theorem dX4_put_59 : decode cX4_put 59 = .ok (.iload_n 1, 1) := by decide +kernel
theorem dX4_put_60 : decode cX4_put 60 = .ok (.iload_n 2, 1) := by decide +kernel
theorem dX4_put_61 : decode cX4_put 61 = .ok (.iastore, 1) := by decide +kernel
theorem dX4_put_62 : decode cX4_put 62 = .ok (.aload_n 0, 1) := by decide +kernel
theorem dX4_put_63 : decode cX4_put 63 = .ok (.dup, 1) := by decide +kernel
theorem dX4_put_64 : decode cX4_put 64 = .ok (.getfield 20, 3) := by decide +kernel
theorem dX4_put_67 : decode cX4_put 67 = .ok (.iconst 1, 1) := by decide +kernel
theorem dX4_put_68 : decode cX4_put 68 = .ok (.iload_n 2, 1) := by decide +kernel
theorem dX4_put_69 : decode cX4_put 69 = .ok (.ishl, 1) := by decide +kernel
theorem dX4_put_70 : decode cX4_put 70 = .ok (.ior, 1) := by decide +kernel
theorem dX4_put_71 : decode cX4_put 71 = .ok (.putfield 20, 3) := by decide +kernel
theorem dX4_put_74 : decode cX4_put 74 = .ok (.return_, 1) := by decide +kernel
theorem dX4_drop_0 : decode cX4_drop 0 = .ok (.aload_n 0, 1) := by decide +kernel
theorem dX4_drop_1 : decode cX4_drop 1 = .ok (.dup, 1) := by decide +kernel
theorem dX4_drop_2 : decode cX4_drop 2 = .ok (.getfield 20, 3) := by decide +kernel
theorem dX4_drop_5 : decode cX4_drop 5 = .ok (.iconst 1, 1) := by decide +kernel
theorem dX4_drop_6 : decode cX4_drop 6 = .ok (.aload_n 0, 1) := by decide +kernel
theorem dX4_drop_7 : decode cX4_drop 7 = .ok (.getfield 9, 3) := by decide +kernel
theorem dX4_drop_10 : decode cX4_drop 10 = .ok (.iload_n 1, 1) := by decide +kernel
theorem dX4_drop_11 : decode cX4_drop 11 = .ok (.iaload, 1) := by decide +kernel
theorem dX4_drop_12 : decode cX4_drop 12 = .ok (.ishl, 1) := by decide +kernel
theorem dX4_drop_13 : decode cX4_drop 13 = .ok (.iconst (-1), 1) := by decide +kernel
theorem dX4_drop_14 : decode cX4_drop 14 = .ok (.ixor, 1) := by decide +kernel
theorem dX4_drop_15 : decode cX4_drop 15 = .ok (.iand, 1) := by decide +kernel
theorem dX4_drop_16 : decode cX4_drop 16 = .ok (.putfield 20, 3) := by decide +kernel
theorem dX4_drop_19 : decode cX4_drop 19 = .ok (.aload_n 0, 1) := by decide +kernel
theorem dX4_drop_20 : decode cX4_drop 20 = .ok (.getfield 9, 3) := by decide +kernel
theorem dX4_drop_23 : decode cX4_drop 23 = .ok (.iload_n 1, 1) := by decide +kernel
theorem dX4_drop_24 : decode cX4_drop 24 = .ok (.bipush 100, 2) := by decide +kernel
theorem dX4_drop_26 : decode cX4_drop 26 = .ok (.iload_n 2, 1) := by decide +kernel
theorem dX4_drop_27 : decode cX4_drop 27 = .ok (.iadd, 1) := by decide +kernel
theorem dX4_drop_28 : decode cX4_drop 28 = .ok (.iastore, 1) := by decide +kernel
theorem dX4_drop_29 : decode cX4_drop 29 = .ok (.aload_n 0, 1) := by decide +kernel
theorem dX4_drop_30 : decode cX4_drop 30 = .ok (.dup, 1) := by decide +kernel
theorem dX4_drop_31 : decode cX4_drop 31 = .ok (.getfield 24, 3) := by decide +kernel
theorem dX4_drop_34 : decode cX4_drop 34 = .ok (.iconst 1, 1) := by decide +kernel
theorem dX4_drop_35 : decode cX4_drop 35 = .ok (.iload_n 2, 1) := by decide +kernel
theorem dX4_drop_36 : decode cX4_drop 36 = .ok (.ishl, 1) := by decide +kernel
theorem dX4_drop_37 : decode cX4_drop 37 = .ok (.ior, 1) := by decide +kernel
theorem dX4_drop_38 : decode cX4_drop 38 = .ok (.putfield 24, 3) := by decide +kernel
theorem dX4_drop_41 : decode cX4_drop 41 = .ok (.return_, 1) := by decide +kernel
set_option maxRecDepth 20000 in
theorem ggX4_leave_X6_isCell : GoodIn wsX4_leave wsX6_isCell := goodIn_r _ [5] (by decide +kernel) (by decide +kernel)
set_option maxRecDepth 20000 in
theorem gX4_leave_X6_isCell_n47 : GoodIn wsX4_leave (wsX6_isCell) := ggX4_leave_X6_isCell
theorem dX4_leave_0 : decode cX4_leave 0 = .ok (.aload_n 0, 1) := by decide +kernel
theorem dX4_leave_1 : decode cX4_leave 1 = .ok (.getfield 9, 3) := by decide +kernel
theorem dX4_leave_4 : decode cX4_leave 4 = .ok (.iload_n 1, 1) := by decide +kernel
theorem dX4_leave_5 : decode cX4_leave 5 = .ok (.iaload, 1) := by decide +kernel
theorem dX4_leave_6 : decode cX4_leave 6 = .ok (.invokestatic 47, 3) := by decide +kernel
theorem dX4_leave_9 : decode cX4_leave 9 = .ok (.ifCond .eq 22, 3) := by decide +kernel
theorem dX4_leave_12 : decode cX4_leave 12 = .ok (.aload_n 0, 1) := by decide +kernel
theorem dX4_leave_13 : decode cX4_leave 13 = .ok (.dup, 1) := by decide +kernel
theorem dX4_leave_14 : decode cX4_leave 14 = .ok (.getfield 20, 3) := by decide +kernel
theorem dX4_leave_17 : decode cX4_leave 17 = .ok (.iconst 1, 1) := by decide +kernel
theorem dX4_leave_18 : decode cX4_leave 18 = .ok (.aload_n 0, 1) := by decide +kernel
theorem dX4_leave_19 : decode cX4_leave 19 = .ok (.getfield 9, 3) := by decide +kernel
theorem dX4_leave_22 : decode cX4_leave 22 = .ok (.iload_n 1, 1) := by decide +kernel
theorem dX4_leave_23 : decode cX4_leave 23 = .ok (.iaload, 1) := by decide +kernel
theorem dX4_leave_24 : decode cX4_leave 24 = .ok (.ishl, 1) := by decide +kernel
theorem dX4_leave_25 : decode cX4_leave 25 = .ok (.iconst (-1), 1) := by decide +kernel
theorem dX4_leave_26 : decode cX4_leave 26 = .ok (.ixor, 1) := by decide +kernel
theorem dX4_leave_27 : decode cX4_leave 27 = .ok (.iand, 1) := by decide +kernel
theorem dX4_leave_28 : decode cX4_leave 28 = .ok (.putfield 20, 3) := by decide +kernel
theorem dX4_leave_31 : decode cX4_leave 31 = .ok (.aload_n 0, 1) := by decide +kernel
theorem dX4_leave_32 : decode cX4_leave 32 = .ok (.getfield 9, 3) := by decide +kernel
theorem dX4_leave_35 : decode cX4_leave 35 = .ok (.iload_n 1, 1) := by decide +kernel
theorem dX4_leave_36 : decode cX4_leave 36 = .ok (.iconst (-1), 1) := by decide +kernel
theorem dX4_leave_37 : decode cX4_leave 37 = .ok (.iastore, 1) := by decide +kernel
theorem dX4_leave_38 : decode cX4_leave 38 = .ok (.return_, 1) := by decide +kernel
theorem dX5_init_0 : decode cX5_init 0 = .ok (.aload_n 0, 1) := by decide +kernel
theorem dX5_init_1 : decode cX5_init 1 = .ok (.invokespecial 3, 3) := by decide +kernel
theorem dX5_init_4 : decode cX5_init 4 = .ok (.aload_n 0, 1) := by decide +kernel
theorem dX5_init_5 : decode cX5_init 5 = .ok (.iconst 5, 1) := by decide +kernel
theorem dX5_init_6 : decode cX5_init 6 = .ok (.newarray .int, 2) := by decide +kernel
theorem dX5_init_8 : decode cX5_init 8 = .ok (.putfield 9, 3) := by decide +kernel
theorem dX5_init_11 : decode cX5_init 11 = .ok (.aload_n 0, 1) := by decide +kernel
theorem dX5_init_12 : decode cX5_init 12 = .ok (.iconst 4, 1) := by decide +kernel
theorem dX5_init_13 : decode cX5_init 13 = .ok (.newarray .int, 2) := by decide +kernel
theorem dX5_init_15 : decode cX5_init 15 = .ok (.putfield 15, 3) := by decide +kernel
theorem dX5_init_18 : decode cX5_init 18 = .ok (.aload_n 0, 1) := by decide +kernel
theorem dX5_init_19 : decode cX5_init 19 = .ok (.iconst 4, 1) := by decide +kernel
theorem dX5_init_20 : decode cX5_init 20 = .ok (.newarray .int, 2) := by decide +kernel
theorem dX5_init_22 : decode cX5_init 22 = .ok (.putfield 18, 3) := by decide +kernel
theorem dX5_init_25 : decode cX5_init 25 = .ok (.return_, 1) := by decide +kernel
theorem dX5_clear_0 : decode cX5_clear 0 = .ok (.iconst 0, 1) := by decide +kernel
theorem dX5_clear_1 : decode cX5_clear 1 = .ok (.istore_n 1, 1) := by decide +kernel
theorem dX5_clear_2 : decode cX5_clear 2 = .ok (.iload_n 1, 1) := by decide +kernel
theorem dX5_clear_3 : decode cX5_clear 3 = .ok (.iconst 5, 1) := by decide +kernel
theorem dX5_clear_4 : decode cX5_clear 4 = .ok (.if_icmp .ge 16, 3) := by decide +kernel
theorem dX5_clear_7 : decode cX5_clear 7 = .ok (.aload_n 0, 1) := by decide +kernel
theorem dX5_clear_8 : decode cX5_clear 8 = .ok (.getfield 9, 3) := by decide +kernel
theorem dX5_clear_11 : decode cX5_clear 11 = .ok (.iload_n 1, 1) := by decide +kernel
theorem dX5_clear_12 : decode cX5_clear 12 = .ok (.iconst 0, 1) := by decide +kernel
theorem dX5_clear_13 : decode cX5_clear 13 = .ok (.iastore, 1) := by decide +kernel
theorem dX5_clear_14 : decode cX5_clear 14 = .ok (.iinc 1 1, 3) := by decide +kernel
theorem dX5_clear_17 : decode cX5_clear 17 = .ok (.goto (-15), 3) := by decide +kernel
theorem dX5_clear_20 : decode cX5_clear 20 = .ok (.aload_n 0, 1) := by decide +kernel
theorem dX5_clear_21 : decode cX5_clear 21 = .ok (.iconst 0, 1) := by decide +kernel
theorem dX5_clear_22 : decode cX5_clear 22 = .ok (.putfield 21, 3) := by decide +kernel
theorem dX5_clear_25 : decode cX5_clear 25 = .ok (.aload_n 0, 1) := by decide +kernel
theorem dX5_clear_26 : decode cX5_clear 26 = .ok (.iconst 0, 1) := by decide +kernel
theorem dX5_clear_27 : decode cX5_clear 27 = .ok (.putfield 25, 3) := by decide +kernel
theorem dX5_clear_30 : decode cX5_clear 30 = .ok (.return_, 1) := by decide +kernel
set_option maxRecDepth 20000 in
theorem ggX5_hasRoom_J6_bitCount_0f7a4 : GoodIn wsX5_hasRoom wsJ6_bitCount_0f7a4 := goodIn_r _ [5, 6, 7, 8] (by decide +kernel) (by decide +kernel)
set_option maxRecDepth 20000 in
theorem gX5_hasRoom_J6_bitCount_0f7a4 : GoodIn wsX5_hasRoom (va_wsS RX5 28 yJ6_bitCount_0f7a4 wsJ6_bitCount_0f7a4) := goodIn_app (goodIn_of _ (by decide +kernel)) ggX5_hasRoom_J6_bitCount_0f7a4
theorem dX5_hasRoom_0 : decode cX5_hasRoom 0 = .ok (.aload_n 0, 1) := by decide +kernel
theorem dX5_hasRoom_1 : decode cX5_hasRoom 1 = .ok (.getfield 9, 3) := by decide +kernel
theorem dX5_hasRoom_4 : decode cX5_hasRoom 4 = .ok (.iload_n 1, 1) := by decide +kernel
theorem dX5_hasRoom_5 : decode cX5_hasRoom 5 = .ok (.iaload, 1) := by decide +kernel
theorem dX5_hasRoom_6 : decode cX5_hasRoom 6 = .ok (.invokestatic 28, 3) := by decide +kernel
theorem dX5_hasRoom_9 : decode cX5_hasRoom 9 = .ok (.getstatic 34, 3) := by decide +kernel
theorem dX5_hasRoom_12 : decode cX5_hasRoom 12 = .ok (.iload_n 1, 1) := by decide +kernel
theorem dX5_hasRoom_13 : decode cX5_hasRoom 13 = .ok (.iaload, 1) := by decide +kernel
theorem dX5_hasRoom_14 : decode cX5_hasRoom 14 = .ok (.if_icmp .ge 7, 3) := by decide +kernel
theorem dX5_hasRoom_17 : decode cX5_hasRoom 17 = .ok (.iconst 1, 1) := by decide +kernel
theorem dX5_hasRoom_18 : decode cX5_hasRoom 18 = .ok (.goto 4, 3) := by decide +kernel
theorem dX5_hasRoom_21 : decode cX5_hasRoom 21 = .ok (.iconst 0, 1) := by decide +kernel
theorem dX5_hasRoom_22 : decode cX5_hasRoom 22 = .ok (.ireturn, 1) := by decide +kernel
set_option maxRecDepth 20000 in
theorem ggX5_isUntold_X6_bitOf : GoodIn wsX5_isUntold wsX6_bitOf := goodIn_r _ [4] (by decide +kernel) (by decide +kernel)
set_option maxRecDepth 20000 in
theorem gX5_isUntold_X6_bitOf_n37 : GoodIn wsX5_isUntold (wsX6_bitOf) := ggX5_isUntold_X6_bitOf
set_option maxRecDepth 20000 in
theorem ggX5_isUntold_X5_isPlain : GoodIn wsX5_isUntold wsX5_isPlain := goodIn_r _ [9, 1, 2, 3, 4, 10, 11, 12, 13, 14] (by decide +kernel) (by decide +kernel)
set_option maxRecDepth 20000 in
theorem gX5_isUntold_X5_isPlain : GoodIn wsX5_isUntold (wsV RX5 41 RX5 yX5_isPlain wsX5_isPlain) := goodIn_app (goodIn_of _ (by decide +kernel)) ggX5_isUntold_X5_isPlain
theorem dX5_isUntold_0 : decode cX5_isUntold 0 = .ok (.aload_n 0, 1) := by decide +kernel
theorem dX5_isUntold_1 : decode cX5_isUntold 1 = .ok (.getfield 9, 3) := by decide +kernel
theorem dX5_isUntold_4 : decode cX5_isUntold 4 = .ok (.iconst 0, 1) := by decide +kernel
theorem dX5_isUntold_5 : decode cX5_isUntold 5 = .ok (.iaload, 1) := by decide +kernel
theorem dX5_isUntold_6 : decode cX5_isUntold 6 = .ok (.iload_n 1, 1) := by decide +kernel
theorem dX5_isUntold_7 : decode cX5_isUntold 7 = .ok (.invokestatic 37, 3) := by decide +kernel
theorem dX5_isUntold_10 : decode cX5_isUntold 10 = .ok (.ifCond .ne 15, 3) := by decide +kernel
theorem dX5_isUntold_13 : decode cX5_isUntold 13 = .ok (.aload_n 0, 1) := by decide +kernel
theorem dX5_isUntold_14 : decode cX5_isUntold 14 = .ok (.iload_n 1, 1) := by decide +kernel
theorem dX5_isUntold_15 : decode cX5_isUntold 15 = .ok (.invokevirtual 41, 3) := by decide +kernel
theorem dX5_isUntold_18 : decode cX5_isUntold 18 = .ok (.ifCond .eq 7, 3) := by decide +kernel
theorem dX5_isUntold_21 : decode cX5_isUntold 21 = .ok (.iconst 1, 1) := by decide +kernel
theorem dX5_isUntold_22 : decode cX5_isUntold 22 = .ok (.goto 4, 3) := by decide +kernel
theorem dX5_isUntold_25 : decode cX5_isUntold 25 = .ok (.iconst 0, 1) := by decide +kernel
theorem dX5_isUntold_26 : decode cX5_isUntold 26 = .ok (.ireturn, 1) := by decide +kernel
set_option maxRecDepth 20000 in
theorem ggX5_isPlain_X6_bitOf : GoodIn wsX5_isPlain wsX6_bitOf := goodIn_r _ [4] (by decide +kernel) (by decide +kernel)
set_option maxRecDepth 20000 in
theorem gX5_isPlain_X6_bitOf_n37 : GoodIn wsX5_isPlain (wsX6_bitOf) := ggX5_isPlain_X6_bitOf
theorem dX5_isPlain_0 : decode cX5_isPlain 0 = .ok (.aload_n 0, 1) := by decide +kernel
theorem dX5_isPlain_1 : decode cX5_isPlain 1 = .ok (.getfield 9, 3) := by decide +kernel
theorem dX5_isPlain_4 : decode cX5_isPlain 4 = .ok (.iconst 1, 1) := by decide +kernel
theorem dX5_isPlain_5 : decode cX5_isPlain 5 = .ok (.iaload, 1) := by decide +kernel
theorem dX5_isPlain_6 : decode cX5_isPlain 6 = .ok (.aload_n 0, 1) := by decide +kernel
theorem dX5_isPlain_7 : decode cX5_isPlain 7 = .ok (.getfield 9, 3) := by decide +kernel
theorem dX5_isPlain_10 : decode cX5_isPlain 10 = .ok (.iconst 2, 1) := by decide +kernel
theorem dX5_isPlain_11 : decode cX5_isPlain 11 = .ok (.iaload, 1) := by decide +kernel
theorem dX5_isPlain_12 : decode cX5_isPlain 12 = .ok (.ior, 1) := by decide +kernel
theorem dX5_isPlain_13 : decode cX5_isPlain 13 = .ok (.aload_n 0, 1) := by decide +kernel
theorem dX5_isPlain_14 : decode cX5_isPlain 14 = .ok (.getfield 9, 3) := by decide +kernel
theorem dX5_isPlain_17 : decode cX5_isPlain 17 = .ok (.iconst 3, 1) := by decide +kernel
theorem dX5_isPlain_18 : decode cX5_isPlain 18 = .ok (.iaload, 1) := by decide +kernel
theorem dX5_isPlain_19 : decode cX5_isPlain 19 = .ok (.ior, 1) := by decide +kernel
theorem dX5_isPlain_20 : decode cX5_isPlain 20 = .ok (.aload_n 0, 1) := by decide +kernel
theorem dX5_isPlain_21 : decode cX5_isPlain 21 = .ok (.getfield 9, 3) := by decide +kernel
theorem dX5_isPlain_24 : decode cX5_isPlain 24 = .ok (.iconst 4, 1) := by decide +kernel
theorem dX5_isPlain_25 : decode cX5_isPlain 25 = .ok (.iaload, 1) := by decide +kernel
theorem dX5_isPlain_26 : decode cX5_isPlain 26 = .ok (.ior, 1) := by decide +kernel
theorem dX5_isPlain_27 : decode cX5_isPlain 27 = .ok (.iload_n 1, 1) := by decide +kernel
theorem dX5_isPlain_28 : decode cX5_isPlain 28 = .ok (.invokestatic 37, 3) := by decide +kernel
theorem dX5_isPlain_31 : decode cX5_isPlain 31 = .ok (.ifCond .ne 7, 3) := by decide +kernel
theorem dX5_isPlain_34 : decode cX5_isPlain 34 = .ok (.iconst 1, 1) := by decide +kernel
theorem dX5_isPlain_35 : decode cX5_isPlain 35 = .ok (.goto 4, 3) := by decide +kernel
theorem dX5_isPlain_38 : decode cX5_isPlain 38 = .ok (.iconst 0, 1) := by decide +kernel
theorem dX5_isPlain_39 : decode cX5_isPlain 39 = .ok (.ireturn, 1) := by decide +kernel
set_option maxRecDepth 20000 in
theorem ggX5_tell_X5_drawAround : GoodIn wsX5_tell wsX5_drawAround := goodIn_r _ [9, 10, 11, 12, 13, 14, 15, 16, 17, 18] (by decide +kernel) (by decide +kernel)
set_option maxRecDepth 20000 in
theorem gX5_tell_X5_drawAround : GoodIn wsX5_tell (wsV RX5 45 RX5 yX5_drawAround wsX5_drawAround) := goodIn_app (goodIn_of _ (by decide +kernel)) ggX5_tell_X5_drawAround
theorem dX5_tell_0 : decode cX5_tell 0 = .ok (.aload_n 0, 1) := by decide +kernel
theorem dX5_tell_1 : decode cX5_tell 1 = .ok (.getfield 9, 3) := by decide +kernel
theorem dX5_tell_4 : decode cX5_tell 4 = .ok (.iload_n 1, 1) := by decide +kernel
theorem dX5_tell_5 : decode cX5_tell 5 = .ok (.dup2, 1) := by decide +kernel
theorem dX5_tell_6 : decode cX5_tell 6 = .ok (.iaload, 1) := by decide +kernel
theorem dX5_tell_7 : decode cX5_tell 7 = .ok (.iconst 1, 1) := by decide +kernel
theorem dX5_tell_8 : decode cX5_tell 8 = .ok (.iload_n 2, 1) := by decide +kernel
theorem dX5_tell_9 : decode cX5_tell 9 = .ok (.ishl, 1) := by decide +kernel
theorem dX5_tell_10 : decode cX5_tell 10 = .ok (.ior, 1) := by decide +kernel
theorem dX5_tell_11 : decode cX5_tell 11 = .ok (.iastore, 1) := by decide +kernel
theorem dX5_tell_12 : decode cX5_tell 12 = .ok (.iload_n 1, 1) := by decide +kernel
theorem dX5_tell_13 : decode cX5_tell 13 = .ok (.ifCond .ne 41, 3) := by decide +kernel
theorem dX5_tell_16 : decode cX5_tell 16 = .ok (.aload_n 0, 1) := by decide +kernel
theorem dX5_tell_17 : decode cX5_tell 17 = .ok (.getfield 21, 3) := by decide +kernel
theorem dX5_tell_20 : decode cX5_tell 20 = .ok (.iconst 4, 1) := by decide +kernel
theorem dX5_tell_21 : decode cX5_tell 21 = .ok (.if_icmp .ge 33, 3) := by decide +kernel
theorem dX5_tell_24 : decode cX5_tell 24 = .ok (.aload_n 0, 1) := by decide +kernel
theorem dX5_tell_25 : decode cX5_tell 25 = .ok (.getfield 15, 3) := by decide +kernel
theorem dX5_tell_28 : decode cX5_tell 28 = .ok (.aload_n 0, 1) := by decide +kernel
theorem dX5_tell_29 : decode cX5_tell 29 = .ok (.getfield 21, 3) := by decide +kernel
theorem dX5_tell_32 : decode cX5_tell 32 = .ok (.iload_n 3, 1) := by decide +kernel
theorem dX5_tell_33 : decode cX5_tell 33 = .ok (.iastore, 1) := by decide +kernel
theorem dX5_tell_34 : decode cX5_tell 34 = .ok (.aload_n 0, 1) := by decide +kernel
theorem dX5_tell_35 : decode cX5_tell 35 = .ok (.getfield 18, 3) := by decide +kernel
theorem dX5_tell_38 : decode cX5_tell 38 = .ok (.aload_n 0, 1) := by decide +kernel
theorem dX5_tell_39 : decode cX5_tell 39 = .ok (.getfield 21, 3) := by decide +kernel
theorem dX5_tell_42 : decode cX5_tell 42 = .ok (.iload_n 2, 1) := by decide +kernel
theorem dX5_tell_43 : decode cX5_tell 43 = .ok (.iastore, 1) := by decide +kernel
theorem dX5_tell_44 : decode cX5_tell 44 = .ok (.aload_n 0, 1) := by decide +kernel
theorem dX5_tell_45 : decode cX5_tell 45 = .ok (.dup, 1) := by decide +kernel
theorem dX5_tell_46 : decode cX5_tell 46 = .ok (.getfield 21, 3) := by decide +kernel
theorem dX5_tell_49 : decode cX5_tell 49 = .ok (.iconst 1, 1) := by decide +kernel
theorem dX5_tell_50 : decode cX5_tell 50 = .ok (.iadd, 1) := by decide +kernel
theorem dX5_tell_51 : decode cX5_tell 51 = .ok (.putfield 21, 3) := by decide +kernel
theorem dX5_tell_54 : decode cX5_tell 54 = .ok (.iload_n 1, 1) := by decide +kernel
theorem dX5_tell_55 : decode cX5_tell 55 = .ok (.iconst 4, 1) := by decide +kernel
theorem dX5_tell_56 : decode cX5_tell 56 = .ok (.if_icmp .ne 8, 3) := by decide +kernel
theorem dX5_tell_59 : decode cX5_tell 59 = .ok (.aload_n 0, 1) := by decide +kernel
theorem dX5_tell_60 : decode cX5_tell 60 = .ok (.iload_n 2, 1) := by decide +kernel
theorem dX5_tell_61 : decode cX5_tell 61 = .ok (.invokevirtual 45, 3) := by decide +kernel
theorem dX5_tell_64 : decode cX5_tell 64 = .ok (.return_, 1) := by decide +kernel
set_option maxRecDepth 20000 in
theorem ggX5_drawAround_X6_nextCell : GoodIn wsX5_drawAround wsX6_nextCell := goodIn_r _ [4] (by decide +kernel) (by decide +kernel)
set_option maxRecDepth 20000 in
theorem gX5_drawAround_X6_nextCell_n49 : GoodIn wsX5_drawAround (wsX6_nextCell) := ggX5_drawAround_X6_nextCell
theorem dX5_drawAround_0 : decode cX5_drawAround 0 = .ok (.iconst 0, 1) := by decide +kernel
theorem dX5_drawAround_1 : decode cX5_drawAround 1 = .ok (.istore_n 2, 1) := by decide +kernel
theorem dX5_drawAround_2 : decode cX5_drawAround 2 = .ok (.iload_n 2, 1) := by decide +kernel
theorem dX5_drawAround_3 : decode cX5_drawAround 3 = .ok (.iconst 4, 1) := by decide +kernel
theorem dX5_drawAround_4 : decode cX5_drawAround 4 = .ok (.if_icmp .ge 32, 3) := by decide +kernel
theorem dX5_drawAround_7 : decode cX5_drawAround 7 = .ok (.iload_n 1, 1) := by decide +kernel
theorem dX5_drawAround_8 : decode cX5_drawAround 8 = .ok (.iload_n 2, 1) := by decide +kernel
theorem dX5_drawAround_9 : decode cX5_drawAround 9 = .ok (.invokestatic 49, 3) := by decide +kernel
theorem dX5_drawAround_12 : decode cX5_drawAround 12 = .ok (.istore_n 3, 1) := by decide +kernel
theorem dX5_drawAround_13 : decode cX5_drawAround 13 = .ok (.iload_n 3, 1) := by decide +kernel
theorem dX5_drawAround_14 : decode cX5_drawAround 14 = .ok (.iconst (-1), 1) := by decide +kernel
theorem dX5_drawAround_15 : decode cX5_drawAround 15 = .ok (.if_icmp .eq 15, 3) := by decide +kernel
theorem dX5_drawAround_18 : decode cX5_drawAround 18 = .ok (.aload_n 0, 1) := by decide +kernel
theorem dX5_drawAround_19 : decode cX5_drawAround 19 = .ok (.dup, 1) := by decide +kernel
theorem dX5_drawAround_20 : decode cX5_drawAround 20 = .ok (.getfield 25, 3) := by decide +kernel
theorem dX5_drawAround_23 : decode cX5_drawAround 23 = .ok (.iconst 1, 1) := by decide +kernel
theorem dX5_drawAround_24 : decode cX5_drawAround 24 = .ok (.iload_n 3, 1) := by decide +kernel
theorem dX5_drawAround_25 : decode cX5_drawAround 25 = .ok (.ishl, 1) := by decide +kernel
theorem dX5_drawAround_26 : decode cX5_drawAround 26 = .ok (.ior, 1) := by decide +kernel
theorem dX5_drawAround_27 : decode cX5_drawAround 27 = .ok (.putfield 25, 3) := by decide +kernel
theorem dX5_drawAround_30 : decode cX5_drawAround 30 = .ok (.iinc 2 1, 3) := by decide +kernel
theorem dX5_drawAround_33 : decode cX5_drawAround 33 = .ok (.goto (-31), 3) := by decide +kernel
theorem dX5_drawAround_36 : decode cX5_drawAround 36 = .ok (.return_, 1) := by decide +kernel
set_option maxRecDepth 20000 in
theorem ggX5_partAt_X6_bitOf : GoodIn wsX5_partAt wsX6_bitOf := goodIn_r _ [4] (by decide +kernel) (by decide +kernel)
set_option maxRecDepth 20000 in
theorem gX5_partAt_X6_bitOf_n37 : GoodIn wsX5_partAt (wsX6_bitOf) := ggX5_partAt_X6_bitOf
theorem dX5_partAt_0 : decode cX5_partAt 0 = .ok (.iconst 1, 1) := by decide +kernel
theorem dX5_partAt_1 : decode cX5_partAt 1 = .ok (.istore_n 2, 1) := by decide +kernel
theorem dX5_partAt_2 : decode cX5_partAt 2 = .ok (.iload_n 2, 1) := by decide +kernel
theorem dX5_partAt_3 : decode cX5_partAt 3 = .ok (.iconst 5, 1) := by decide +kernel
theorem dX5_partAt_4 : decode cX5_partAt 4 = .ok (.if_icmp .ge 25, 3) := by decide +kernel
theorem dX5_partAt_7 : decode cX5_partAt 7 = .ok (.aload_n 0, 1) := by decide +kernel
theorem dX5_partAt_8 : decode cX5_partAt 8 = .ok (.getfield 9, 3) := by decide +kernel
theorem dX5_partAt_11 : decode cX5_partAt 11 = .ok (.iload_n 2, 1) := by decide +kernel
theorem dX5_partAt_12 : decode cX5_partAt 12 = .ok (.iaload, 1) := by decide +kernel
theorem dX5_partAt_13 : decode cX5_partAt 13 = .ok (.iload_n 1, 1) := by decide +kernel
theorem dX5_partAt_14 : decode cX5_partAt 14 = .ok (.invokestatic 37, 3) := by decide +kernel
theorem dX5_partAt_17 : decode cX5_partAt 17 = .ok (.iconst 1, 1) := by decide +kernel
theorem dX5_partAt_18 : decode cX5_partAt 18 = .ok (.if_icmp .ne 5, 3) := by decide +kernel
theorem dX5_partAt_21 : decode cX5_partAt 21 = .ok (.iload_n 2, 1) := by decide +kernel
theorem dX5_partAt_22 : decode cX5_partAt 22 = .ok (.ireturn, 1) := by decide +kernel
theorem dX5_partAt_23 : decode cX5_partAt 23 = .ok (.iinc 2 1, 3) := by decide +kernel
theorem dX5_partAt_26 : decode cX5_partAt 26 = .ok (.goto (-24), 3) := by decide +kernel
theorem dX5_partAt_29 : decode cX5_partAt 29 = .ok (.iconst 0, 1) := by decide +kernel
theorem dX5_partAt_30 : decode cX5_partAt 30 = .ok (.ireturn, 1) := by decide +kernel
theorem dX5_has_0 : decode cX5_has 0 = .ok (.iload_n 1, 1) := by decide +kernel
theorem dX5_has_1 : decode cX5_has 1 = .ok (.ifCond .lt 15, 3) := by decide +kernel
theorem dX5_has_4 : decode cX5_has 4 = .ok (.iload_n 1, 1) := by decide +kernel
theorem dX5_has_5 : decode cX5_has 5 = .ok (.aload_n 0, 1) := by decide +kernel
theorem dX5_has_6 : decode cX5_has 6 = .ok (.getfield 21, 3) := by decide +kernel
theorem dX5_has_9 : decode cX5_has 9 = .ok (.if_icmp .ge 7, 3) := by decide +kernel
theorem dX5_has_12 : decode cX5_has 12 = .ok (.iconst 1, 1) := by decide +kernel
theorem dX5_has_13 : decode cX5_has 13 = .ok (.goto 4, 3) := by decide +kernel
theorem dX5_has_16 : decode cX5_has 16 = .ok (.iconst 0, 1) := by decide +kernel
theorem dX5_has_17 : decode cX5_has 17 = .ok (.ireturn, 1) := by decide +kernel
set_option maxRecDepth 20000 in
theorem ggX5_canBe_X6_bitOf : GoodIn wsX5_canBe wsX6_bitOf := goodIn_r _ [6] (by decide +kernel) (by decide +kernel)
set_option maxRecDepth 20000 in
theorem gX5_canBe_X6_bitOf_n37 : GoodIn wsX5_canBe (wsX6_bitOf) := ggX5_canBe_X6_bitOf
theorem dX5_canBe_0 : decode cX5_canBe 0 = .ok (.aload_n 0, 1) := by decide +kernel
theorem dX5_canBe_1 : decode cX5_canBe 1 = .ok (.getfield 9, 3) := by decide +kernel
theorem dX5_canBe_4 : decode cX5_canBe 4 = .ok (.iconst 1, 1) := by decide +kernel
theorem dX5_canBe_5 : decode cX5_canBe 5 = .ok (.iaload, 1) := by decide +kernel
theorem dX5_canBe_6 : decode cX5_canBe 6 = .ok (.aload_n 0, 1) := by decide +kernel
theorem dX5_canBe_7 : decode cX5_canBe 7 = .ok (.getfield 9, 3) := by decide +kernel
theorem dX5_canBe_10 : decode cX5_canBe 10 = .ok (.iconst 4, 1) := by decide +kernel
theorem dX5_canBe_11 : decode cX5_canBe 11 = .ok (.iaload, 1) := by decide +kernel
theorem dX5_canBe_12 : decode cX5_canBe 12 = .ok (.ior, 1) := by decide +kernel
theorem dX5_canBe_13 : decode cX5_canBe 13 = .ok (.aload_n 1, 1) := by decide +kernel
theorem dX5_canBe_14 : decode cX5_canBe 14 = .ok (.getfield 52, 3) := by decide +kernel
theorem dX5_canBe_17 : decode cX5_canBe 17 = .ok (.ior, 1) := by decide +kernel
theorem dX5_canBe_18 : decode cX5_canBe 18 = .ok (.aload_n 1, 1) := by decide +kernel
theorem dX5_canBe_19 : decode cX5_canBe 19 = .ok (.getfield 57, 3) := by decide +kernel
theorem dX5_canBe_22 : decode cX5_canBe 22 = .ok (.ior, 1) := by decide +kernel
theorem dX5_canBe_23 : decode cX5_canBe 23 = .ok (.iload_n 2, 1) := by decide +kernel
theorem dX5_canBe_24 : decode cX5_canBe 24 = .ok (.invokestatic 37, 3) := by decide +kernel
theorem dX5_canBe_27 : decode cX5_canBe 27 = .ok (.ifCond .ne 7, 3) := by decide +kernel
theorem dX5_canBe_30 : decode cX5_canBe 30 = .ok (.iconst 1, 1) := by decide +kernel
theorem dX5_canBe_31 : decode cX5_canBe 31 = .ok (.goto 4, 3) := by decide +kernel
theorem dX5_canBe_34 : decode cX5_canBe 34 = .ok (.iconst 0, 1) := by decide +kernel
theorem dX5_canBe_35 : decode cX5_canBe 35 = .ok (.ireturn, 1) := by decide +kernel
set_option maxRecDepth 20000 in
theorem ggX5_isOpenHole_X6_bitOf : GoodIn wsX5_isOpenHole wsX6_bitOf := goodIn_r _ [5] (by decide +kernel) (by decide +kernel)
set_option maxRecDepth 20000 in
theorem gX5_isOpenHole_X6_bitOf_n37 : GoodIn wsX5_isOpenHole (wsX6_bitOf) := ggX5_isOpenHole_X6_bitOf
theorem dX5_isOpenHole_0 : decode cX5_isOpenHole 0 = .ok (.aload_n 0, 1) := by decide +kernel
theorem dX5_isOpenHole_1 : decode cX5_isOpenHole 1 = .ok (.getfield 9, 3) := by decide +kernel
theorem dX5_isOpenHole_4 : decode cX5_isOpenHole 4 = .ok (.iconst 2, 1) := by decide +kernel
theorem dX5_isOpenHole_5 : decode cX5_isOpenHole 5 = .ok (.iaload, 1) := by decide +kernel
theorem dX5_isOpenHole_6 : decode cX5_isOpenHole 6 = .ok (.aload_n 1, 1) := by decide +kernel
theorem dX5_isOpenHole_7 : decode cX5_isOpenHole 7 = .ok (.getfield 60, 3) := by decide +kernel
theorem dX5_isOpenHole_10 : decode cX5_isOpenHole 10 = .ok (.iconst (-1), 1) := by decide +kernel
theorem dX5_isOpenHole_11 : decode cX5_isOpenHole 11 = .ok (.ixor, 1) := by decide +kernel
theorem dX5_isOpenHole_12 : decode cX5_isOpenHole 12 = .ok (.iand, 1) := by decide +kernel
theorem dX5_isOpenHole_13 : decode cX5_isOpenHole 13 = .ok (.iload_n 2, 1) := by decide +kernel
theorem dX5_isOpenHole_14 : decode cX5_isOpenHole 14 = .ok (.invokestatic 37, 3) := by decide +kernel
theorem dX5_isOpenHole_17 : decode cX5_isOpenHole 17 = .ok (.iconst 1, 1) := by decide +kernel
theorem dX5_isOpenHole_18 : decode cX5_isOpenHole 18 = .ok (.if_icmp .ne 7, 3) := by decide +kernel
theorem dX5_isOpenHole_21 : decode cX5_isOpenHole 21 = .ok (.iconst 1, 1) := by decide +kernel
theorem dX5_isOpenHole_22 : decode cX5_isOpenHole 22 = .ok (.goto 4, 3) := by decide +kernel
theorem dX5_isOpenHole_25 : decode cX5_isOpenHole 25 = .ok (.iconst 0, 1) := by decide +kernel
theorem dX5_isOpenHole_26 : decode cX5_isOpenHole 26 = .ok (.ireturn, 1) := by decide +kernel
set_option maxRecDepth 20000 in
theorem ggX5_openHoles_J6_bitCount_0f7a4 : GoodIn wsX5_openHoles wsJ6_bitCount_0f7a4 := goodIn_r _ [6, 7, 8, 9] (by decide +kernel) (by decide +kernel)
set_option maxRecDepth 20000 in
theorem gX5_openHoles_J6_bitCount_0f7a4 : GoodIn wsX5_openHoles (va_wsS RX5 28 yJ6_bitCount_0f7a4 wsJ6_bitCount_0f7a4) := goodIn_app (goodIn_of _ (by decide +kernel)) ggX5_openHoles_J6_bitCount_0f7a4
theorem dX5_openHoles_0 : decode cX5_openHoles 0 = .ok (.aload_n 0, 1) := by decide +kernel
theorem dX5_openHoles_1 : decode cX5_openHoles 1 = .ok (.getfield 9, 3) := by decide +kernel
theorem dX5_openHoles_4 : decode cX5_openHoles 4 = .ok (.iconst 2, 1) := by decide +kernel
theorem dX5_openHoles_5 : decode cX5_openHoles 5 = .ok (.iaload, 1) := by decide +kernel
theorem dX5_openHoles_6 : decode cX5_openHoles 6 = .ok (.aload_n 1, 1) := by decide +kernel
theorem dX5_openHoles_7 : decode cX5_openHoles 7 = .ok (.getfield 60, 3) := by decide +kernel
theorem dX5_openHoles_10 : decode cX5_openHoles 10 = .ok (.iconst (-1), 1) := by decide +kernel
theorem dX5_openHoles_11 : decode cX5_openHoles 11 = .ok (.ixor, 1) := by decide +kernel
theorem dX5_openHoles_12 : decode cX5_openHoles 12 = .ok (.iand, 1) := by decide +kernel
theorem dX5_openHoles_13 : decode cX5_openHoles 13 = .ok (.invokestatic 28, 3) := by decide +kernel
theorem dX5_openHoles_16 : decode cX5_openHoles 16 = .ok (.ireturn, 1) := by decide +kernel
set_option maxRecDepth 20000 in
theorem ggX5_wedgeRefusal_X6_isCell : GoodIn wsX5_wedgeRefusal wsX6_isCell := goodIn_r _ [5] (by decide +kernel) (by decide +kernel)
set_option maxRecDepth 20000 in
theorem gX5_wedgeRefusal_X6_isCell_n63 : GoodIn wsX5_wedgeRefusal (wsX6_isCell) := ggX5_wedgeRefusal_X6_isCell
set_option maxRecDepth 20000 in
theorem ggX5_wedgeRefusal_X5_isPlain : GoodIn wsX5_wedgeRefusal wsX5_isPlain := goodIn_r _ [10, 11, 12, 4, 13, 26, 27, 28, 29, 30] (by decide +kernel) (by decide +kernel)
set_option maxRecDepth 20000 in
theorem gX5_wedgeRefusal_X5_isPlain : GoodIn wsX5_wedgeRefusal (wsV RX5 41 RX5 yX5_isPlain wsX5_isPlain) := goodIn_app (goodIn_of _ (by decide +kernel)) ggX5_wedgeRefusal_X5_isPlain
set_option maxRecDepth 20000 in
theorem ggX5_wedgeRefusal_X6_bitOf : GoodIn wsX5_wedgeRefusal wsX6_bitOf := goodIn_r _ [13] (by decide +kernel) (by decide +kernel)
set_option maxRecDepth 20000 in
theorem gX5_wedgeRefusal_X6_bitOf_n37 : GoodIn wsX5_wedgeRefusal (wsX6_bitOf) := ggX5_wedgeRefusal_X6_bitOf
set_option maxRecDepth 20000 in
theorem ggX5_wedgeRefusal_J6_bitCount_0f7a4 : GoodIn wsX5_wedgeRefusal wsJ6_bitCount_0f7a4 := goodIn_r _ [17, 18, 19, 20] (by decide +kernel) (by decide +kernel)
set_option maxRecDepth 20000 in
theorem gX5_wedgeRefusal_J6_bitCount_0f7a4 : GoodIn wsX5_wedgeRefusal (va_wsS RX5 28 yJ6_bitCount_0f7a4 wsJ6_bitCount_0f7a4) := goodIn_app (goodIn_of _ (by decide +kernel)) ggX5_wedgeRefusal_J6_bitCount_0f7a4
theorem dX5_wedgeRefusal_0 : decode cX5_wedgeRefusal 0 = .ok (.iload_n 2, 1) := by decide +kernel
theorem dX5_wedgeRefusal_1 : decode cX5_wedgeRefusal 1 = .ok (.invokestatic 63, 3) := by decide +kernel
theorem dX5_wedgeRefusal_4 : decode cX5_wedgeRefusal 4 = .ok (.ifCond .ne 5, 3) := by decide +kernel
theorem dX5_wedgeRefusal_7 : decode cX5_wedgeRefusal 7 = .ok (.iconst (-1), 1) := by decide +kernel
theorem dX5_wedgeRefusal_8 : decode cX5_wedgeRefusal 8 = .ok (.ireturn, 1) := by decide +kernel
theorem dX5_wedgeRefusal_9 : decode cX5_wedgeRefusal 9 = .ok (.aload_n 0, 1) := by decide +kernel
theorem dX5_wedgeRefusal_10 : decode cX5_wedgeRefusal 10 = .ok (.iload_n 2, 1) := by decide +kernel
theorem dX5_wedgeRefusal_11 : decode cX5_wedgeRefusal 11 = .ok (.invokevirtual 41, 3) := by decide +kernel
theorem dX5_wedgeRefusal_14 : decode cX5_wedgeRefusal 14 = .ok (.ifCond .eq 15, 3) := by decide +kernel
theorem dX5_wedgeRefusal_17 : decode cX5_wedgeRefusal 17 = .ok (.aload_n 1, 1) := by decide +kernel
theorem dX5_wedgeRefusal_18 : decode cX5_wedgeRefusal 18 = .ok (.getfield 52, 3) := by decide +kernel
theorem dX5_wedgeRefusal_21 : decode cX5_wedgeRefusal 21 = .ok (.iload_n 2, 1) := by decide +kernel
theorem dX5_wedgeRefusal_22 : decode cX5_wedgeRefusal 22 = .ok (.invokestatic 37, 3) := by decide +kernel
theorem dX5_wedgeRefusal_25 : decode cX5_wedgeRefusal 25 = .ok (.iconst 1, 1) := by decide +kernel
theorem dX5_wedgeRefusal_26 : decode cX5_wedgeRefusal 26 = .ok (.if_icmp .ne 6, 3) := by decide +kernel
theorem dX5_wedgeRefusal_29 : decode cX5_wedgeRefusal 29 = .ok (.bipush (-3), 2) := by decide +kernel
theorem dX5_wedgeRefusal_31 : decode cX5_wedgeRefusal 31 = .ok (.ireturn, 1) := by decide +kernel
theorem dX5_wedgeRefusal_32 : decode cX5_wedgeRefusal 32 = .ok (.aload_n 1, 1) := by decide +kernel
theorem dX5_wedgeRefusal_33 : decode cX5_wedgeRefusal 33 = .ok (.getfield 57, 3) := by decide +kernel
theorem dX5_wedgeRefusal_36 : decode cX5_wedgeRefusal 36 = .ok (.iload_n 2, 1) := by decide +kernel
theorem dX5_wedgeRefusal_37 : decode cX5_wedgeRefusal 37 = .ok (.invokestatic 37, 3) := by decide +kernel
theorem dX5_wedgeRefusal_40 : decode cX5_wedgeRefusal 40 = .ok (.ifCond .ne 17, 3) := by decide +kernel
theorem dX5_wedgeRefusal_43 : decode cX5_wedgeRefusal 43 = .ok (.aload_n 1, 1) := by decide +kernel
theorem dX5_wedgeRefusal_44 : decode cX5_wedgeRefusal 44 = .ok (.getfield 57, 3) := by decide +kernel
theorem dX5_wedgeRefusal_47 : decode cX5_wedgeRefusal 47 = .ok (.invokestatic 28, 3) := by decide +kernel
theorem dX5_wedgeRefusal_50 : decode cX5_wedgeRefusal 50 = .ok (.iconst 3, 1) := by decide +kernel
theorem dX5_wedgeRefusal_51 : decode cX5_wedgeRefusal 51 = .ok (.if_icmp .lt 6, 3) := by decide +kernel
theorem dX5_wedgeRefusal_54 : decode cX5_wedgeRefusal 54 = .ok (.bipush (-4), 2) := by decide +kernel
theorem dX5_wedgeRefusal_56 : decode cX5_wedgeRefusal 56 = .ok (.ireturn, 1) := by decide +kernel
theorem dX5_wedgeRefusal_57 : decode cX5_wedgeRefusal 57 = .ok (.iconst 0, 1) := by decide +kernel
theorem dX5_wedgeRefusal_58 : decode cX5_wedgeRefusal 58 = .ok (.ireturn, 1) := by decide +kernel
set_option maxRecDepth 20000 in
theorem ggX5_turnWedge_X5_wedgeRefusal : GoodIn wsX5_turnWedge wsX5_wedgeRefusal := goodIn_r _ [6, 7, 1, 8, 9, 10, 11, 12, 13, 5, 14, 15, 16, 17, 18, 19, 20, 21, 22, 23, 24, 25, 26, 27, 28, 29, 30, 31, 32, 33, 34] (by decide +kernel) (by decide +kernel)
set_option maxRecDepth 20000 in
theorem gX5_turnWedge_X5_wedgeRefusal : GoodIn wsX5_turnWedge (wsV RX5 66 RX5 yX5_wedgeRefusal wsX5_wedgeRefusal) := goodIn_app (goodIn_of _ (by decide +kernel)) ggX5_turnWedge_X5_wedgeRefusal
theorem dX5_turnWedge_0 : decode cX5_turnWedge 0 = .ok (.aload_n 0, 1) := by decide +kernel
theorem dX5_turnWedge_1 : decode cX5_turnWedge 1 = .ok (.aload_n 1, 1) := by decide +kernel
theorem dX5_turnWedge_2 : decode cX5_turnWedge 2 = .ok (.iload_n 2, 1) := by decide +kernel
theorem dX5_turnWedge_3 : decode cX5_turnWedge 3 = .ok (.invokevirtual 66, 3) := by decide +kernel
theorem dX5_turnWedge_6 : decode cX5_turnWedge 6 = .ok (.ifCond .eq 5, 3) := by decide +kernel
theorem dX5_turnWedge_9 : decode cX5_turnWedge 9 = .ok (.iconst 0, 1) := by decide +kernel
theorem dX5_turnWedge_10 : decode cX5_turnWedge 10 = .ok (.ireturn, 1) := by decide +kernel
theorem dX5_turnWedge_11 : decode cX5_turnWedge 11 = .ok (.aload_n 1, 1) := by decide +kernel
theorem dX5_turnWedge_12 : decode cX5_turnWedge 12 = .ok (.dup, 1) := by decide +kernel
theorem dX5_turnWedge_13 : decode cX5_turnWedge 13 = .ok (.getfield 57, 3) := by decide +kernel
theorem dX5_turnWedge_16 : decode cX5_turnWedge 16 = .ok (.iconst 1, 1) := by decide +kernel
theorem dX5_turnWedge_17 : decode cX5_turnWedge 17 = .ok (.iload_n 2, 1) := by decide +kernel
theorem dX5_turnWedge_18 : decode cX5_turnWedge 18 = .ok (.ishl, 1) := by decide +kernel
theorem dX5_turnWedge_19 : decode cX5_turnWedge 19 = .ok (.ixor, 1) := by decide +kernel
theorem dX5_turnWedge_20 : decode cX5_turnWedge 20 = .ok (.putfield 57, 3) := by decide +kernel
theorem dX5_turnWedge_23 : decode cX5_turnWedge 23 = .ok (.iconst 1, 1) := by decide +kernel
theorem dX5_turnWedge_24 : decode cX5_turnWedge 24 = .ok (.ireturn, 1) := by decide +kernel
set_option maxRecDepth 20000 in
theorem ggX5_roll_X5_stoppedAhead : GoodIn wsX5_roll wsX5_stoppedAhead := goodIn_r _ [7, 1, 2, 8, 9, 10, 11, 12, 13, 14, 49, 50, 51, 52, 53, 54, 55, 56, 57, 58] (by decide +kernel) (by decide +kernel)
set_option maxRecDepth 20000 in
theorem gX5_roll_X5_stoppedAhead : GoodIn wsX5_roll (wsV RX5 70 RX5 yX5_stoppedAhead wsX5_stoppedAhead) := goodIn_app (goodIn_of _ (by decide +kernel)) ggX5_roll_X5_stoppedAhead
set_option maxRecDepth 20000 in
theorem ggX5_roll_X6_bitOf : GoodIn wsX5_roll wsX6_bitOf := goodIn_r _ [14] (by decide +kernel) (by decide +kernel)
set_option maxRecDepth 20000 in
theorem gX5_roll_X6_bitOf_n37 : GoodIn wsX5_roll (wsX6_bitOf) := ggX5_roll_X6_bitOf
set_option maxRecDepth 20000 in
theorem ggX5_roll_X5_goOn : GoodIn wsX5_roll wsX5_goOn := goodIn_r _ [18, 2, 8, 19, 11, 20, 21, 22, 23, 6, 24, 25, 26, 27, 13, 14, 28, 29, 30, 31, 32, 33, 34, 35, 36, 37, 38, 39, 40, 41, 42, 43, 44, 54, 55, 56, 57, 58, 49, 50, 51, 52, 53] (by decide +kernel) (by decide +kernel)
set_option maxRecDepth 20000 in
theorem gX5_roll_X5_goOn : GoodIn wsX5_roll (wsV RX5 74 RX5 yX5_goOn wsX5_goOn) := goodIn_app (goodIn_of _ (by decide +kernel)) ggX5_roll_X5_goOn
set_option maxRecDepth 20000 in
theorem ggX5_roll_X5_stopsAt : GoodIn wsX5_roll wsX5_stopsAt := goodIn_r _ [48, 8, 25, 9, 10, 11, 12, 13, 14, 49, 50, 51, 52, 53] (by decide +kernel) (by decide +kernel)
set_option maxRecDepth 20000 in
theorem gX5_roll_X5_stopsAt : GoodIn wsX5_roll (wsV RX5 81 RX5 yX5_stopsAt wsX5_stopsAt) := goodIn_app (goodIn_of _ (by decide +kernel)) ggX5_roll_X5_stopsAt
theorem dX5_roll_0 : decode cX5_roll 0 = .ok (.aload_n 0, 1) := by decide +kernel
theorem dX5_roll_1 : decode cX5_roll 1 = .ok (.aload_n 1, 1) := by decide +kernel
theorem dX5_roll_2 : decode cX5_roll 2 = .ok (.invokevirtual 70, 3) := by decide +kernel
theorem dX5_roll_5 : decode cX5_roll 5 = .ok (.istore_n 3, 1) := by decide +kernel
theorem dX5_roll_6 : decode cX5_roll 6 = .ok (.iconst 1, 1) := by decide +kernel
theorem dX5_roll_7 : decode cX5_roll 7 = .ok (.istore 4, 2) := by decide +kernel
theorem dX5_roll_9 : decode cX5_roll 9 = .ok (.iconst 0, 1) := by decide +kernel
theorem dX5_roll_10 : decode cX5_roll 10 = .ok (.istore 5, 2) := by decide +kernel
theorem dX5_roll_12 : decode cX5_roll 12 = .ok (.iload 5, 2) := by decide +kernel
theorem dX5_roll_14 : decode cX5_roll 14 = .ok (.bipush 17, 2) := by decide +kernel
theorem dX5_roll_16 : decode cX5_roll 16 = .ok (.if_icmp .ge 81, 3) := by decide +kernel
theorem dX5_roll_19 : decode cX5_roll 19 = .ok (.iload 4, 2) := by decide +kernel
theorem dX5_roll_21 : decode cX5_roll 21 = .ok (.ifCond .eq 76, 3) := by decide +kernel
theorem dX5_roll_24 : decode cX5_roll 24 = .ok (.iconst 0, 1) := by decide +kernel
theorem dX5_roll_25 : decode cX5_roll 25 = .ok (.istore 4, 2) := by decide +kernel
theorem dX5_roll_27 : decode cX5_roll 27 = .ok (.iconst 0, 1) := by decide +kernel
theorem dX5_roll_28 : decode cX5_roll 28 = .ok (.istore 6, 2) := by decide +kernel
theorem dX5_roll_30 : decode cX5_roll 30 = .ok (.iload 6, 2) := by decide +kernel
theorem dX5_roll_32 : decode cX5_roll 32 = .ok (.aload_n 0, 1) := by decide +kernel
theorem dX5_roll_33 : decode cX5_roll 33 = .ok (.getfield 21, 3) := by decide +kernel
theorem dX5_roll_36 : decode cX5_roll 36 = .ok (.if_icmp .ge 55, 3) := by decide +kernel
theorem dX5_roll_39 : decode cX5_roll 39 = .ok (.iload_n 3, 1) := by decide +kernel
theorem dX5_roll_40 : decode cX5_roll 40 = .ok (.iload 6, 2) := by decide +kernel
theorem dX5_roll_42 : decode cX5_roll 42 = .ok (.invokestatic 37, 3) := by decide +kernel
theorem dX5_roll_45 : decode cX5_roll 45 = .ok (.ifCond .ne 40, 3) := by decide +kernel
theorem dX5_roll_48 : decode cX5_roll 48 = .ok (.aload_n 0, 1) := by decide +kernel
theorem dX5_roll_49 : decode cX5_roll 49 = .ok (.aload_n 1, 1) := by decide +kernel
theorem dX5_roll_50 : decode cX5_roll 50 = .ok (.iload 6, 2) := by decide +kernel
theorem dX5_roll_52 : decode cX5_roll 52 = .ok (.iload_n 2, 1) := by decide +kernel
theorem dX5_roll_53 : decode cX5_roll 53 = .ok (.invokevirtual 74, 3) := by decide +kernel
theorem dX5_roll_56 : decode cX5_roll 56 = .ok (.ifCond .eq 29, 3) := by decide +kernel
theorem dX5_roll_59 : decode cX5_roll 59 = .ok (.iconst 1, 1) := by decide +kernel
theorem dX5_roll_60 : decode cX5_roll 60 = .ok (.istore 4, 2) := by decide +kernel
theorem dX5_roll_62 : decode cX5_roll 62 = .ok (.aload_n 0, 1) := by decide +kernel
theorem dX5_roll_63 : decode cX5_roll 63 = .ok (.iload 6, 2) := by decide +kernel
theorem dX5_roll_65 : decode cX5_roll 65 = .ok (.aload_n 1, 1) := by decide +kernel
theorem dX5_roll_66 : decode cX5_roll 66 = .ok (.getfield 78, 3) := by decide +kernel
theorem dX5_roll_69 : decode cX5_roll 69 = .ok (.iload 6, 2) := by decide +kernel
theorem dX5_roll_71 : decode cX5_roll 71 = .ok (.iaload, 1) := by decide +kernel
theorem dX5_roll_72 : decode cX5_roll 72 = .ok (.invokevirtual 81, 3) := by decide +kernel
theorem dX5_roll_75 : decode cX5_roll 75 = .ok (.ifCond .eq 10, 3) := by decide +kernel
theorem dX5_roll_78 : decode cX5_roll 78 = .ok (.iload_n 3, 1) := by decide +kernel
theorem dX5_roll_79 : decode cX5_roll 79 = .ok (.iconst 1, 1) := by decide +kernel
theorem dX5_roll_80 : decode cX5_roll 80 = .ok (.iload 6, 2) := by decide +kernel
theorem dX5_roll_82 : decode cX5_roll 82 = .ok (.ishl, 1) := by decide +kernel
theorem dX5_roll_83 : decode cX5_roll 83 = .ok (.ior, 1) := by decide +kernel
theorem dX5_roll_84 : decode cX5_roll 84 = .ok (.istore_n 3, 1) := by decide +kernel
theorem dX5_roll_85 : decode cX5_roll 85 = .ok (.iinc 6 1, 3) := by decide +kernel
theorem dX5_roll_88 : decode cX5_roll 88 = .ok (.goto (-58), 3) := by decide +kernel
theorem dX5_roll_91 : decode cX5_roll 91 = .ok (.iinc 5 1, 3) := by decide +kernel
theorem dX5_roll_94 : decode cX5_roll 94 = .ok (.goto (-82), 3) := by decide +kernel
theorem dX5_roll_97 : decode cX5_roll 97 = .ok (.return_, 1) := by decide +kernel
set_option maxRecDepth 20000 in
theorem ggX5_stoppedAhead_X6_isCell : GoodIn wsX5_stoppedAhead wsX6_isCell := goodIn_r _ [7] (by decide +kernel) (by decide +kernel)
set_option maxRecDepth 20000 in
theorem gX5_stoppedAhead_X6_isCell_n63 : GoodIn wsX5_stoppedAhead (wsX6_isCell) := ggX5_stoppedAhead_X6_isCell
set_option maxRecDepth 20000 in
theorem ggX5_stoppedAhead_X6_bitOf : GoodIn wsX5_stoppedAhead wsX6_bitOf := goodIn_r _ [9] (by decide +kernel) (by decide +kernel)
set_option maxRecDepth 20000 in
theorem gX5_stoppedAhead_X6_bitOf_n37 : GoodIn wsX5_stoppedAhead (wsX6_bitOf) := ggX5_stoppedAhead_X6_bitOf
theorem dX5_stoppedAhead_0 : decode cX5_stoppedAhead 0 = .ok (.iconst 0, 1) := by decide +kernel
theorem dX5_stoppedAhead_1 : decode cX5_stoppedAhead 1 = .ok (.istore_n 2, 1) := by decide +kernel
theorem dX5_stoppedAhead_2 : decode cX5_stoppedAhead 2 = .ok (.iconst 0, 1) := by decide +kernel
theorem dX5_stoppedAhead_3 : decode cX5_stoppedAhead 3 = .ok (.istore_n 3, 1) := by decide +kernel
theorem dX5_stoppedAhead_4 : decode cX5_stoppedAhead 4 = .ok (.iload_n 3, 1) := by decide +kernel
theorem dX5_stoppedAhead_5 : decode cX5_stoppedAhead 5 = .ok (.aload_n 0, 1) := by decide +kernel
theorem dX5_stoppedAhead_6 : decode cX5_stoppedAhead 6 = .ok (.getfield 21, 3) := by decide +kernel
theorem dX5_stoppedAhead_9 : decode cX5_stoppedAhead 9 = .ok (.if_icmp .ge 54, 3) := by decide +kernel
theorem dX5_stoppedAhead_12 : decode cX5_stoppedAhead 12 = .ok (.aload_n 1, 1) := by decide +kernel
theorem dX5_stoppedAhead_13 : decode cX5_stoppedAhead 13 = .ok (.getfield 78, 3) := by decide +kernel
theorem dX5_stoppedAhead_16 : decode cX5_stoppedAhead 16 = .ok (.iload_n 3, 1) := by decide +kernel
theorem dX5_stoppedAhead_17 : decode cX5_stoppedAhead 17 = .ok (.iaload, 1) := by decide +kernel
theorem dX5_stoppedAhead_18 : decode cX5_stoppedAhead 18 = .ok (.istore 4, 2) := by decide +kernel
theorem dX5_stoppedAhead_20 : decode cX5_stoppedAhead 20 = .ok (.iload 4, 2) := by decide +kernel
theorem dX5_stoppedAhead_22 : decode cX5_stoppedAhead 22 = .ok (.invokestatic 63, 3) := by decide +kernel
theorem dX5_stoppedAhead_25 : decode cX5_stoppedAhead 25 = .ok (.ifCond .eq 26, 3) := by decide +kernel
theorem dX5_stoppedAhead_28 : decode cX5_stoppedAhead 28 = .ok (.aload_n 0, 1) := by decide +kernel
theorem dX5_stoppedAhead_29 : decode cX5_stoppedAhead 29 = .ok (.getfield 15, 3) := by decide +kernel
theorem dX5_stoppedAhead_32 : decode cX5_stoppedAhead 32 = .ok (.iload_n 3, 1) := by decide +kernel
theorem dX5_stoppedAhead_33 : decode cX5_stoppedAhead 33 = .ok (.iaload, 1) := by decide +kernel
theorem dX5_stoppedAhead_34 : decode cX5_stoppedAhead 34 = .ok (.iconst 1, 1) := by decide +kernel
theorem dX5_stoppedAhead_35 : decode cX5_stoppedAhead 35 = .ok (.if_icmp .ne 22, 3) := by decide +kernel
theorem dX5_stoppedAhead_38 : decode cX5_stoppedAhead 38 = .ok (.aload_n 0, 1) := by decide +kernel
theorem dX5_stoppedAhead_39 : decode cX5_stoppedAhead 39 = .ok (.getfield 25, 3) := by decide +kernel
theorem dX5_stoppedAhead_42 : decode cX5_stoppedAhead 42 = .ok (.iload 4, 2) := by decide +kernel
theorem dX5_stoppedAhead_44 : decode cX5_stoppedAhead 44 = .ok (.invokestatic 37, 3) := by decide +kernel
theorem dX5_stoppedAhead_47 : decode cX5_stoppedAhead 47 = .ok (.iconst 1, 1) := by decide +kernel
theorem dX5_stoppedAhead_48 : decode cX5_stoppedAhead 48 = .ok (.if_icmp .ne 9, 3) := by decide +kernel
theorem dX5_stoppedAhead_51 : decode cX5_stoppedAhead 51 = .ok (.iload_n 2, 1) := by decide +kernel
theorem dX5_stoppedAhead_52 : decode cX5_stoppedAhead 52 = .ok (.iconst 1, 1) := by decide +kernel
theorem dX5_stoppedAhead_53 : decode cX5_stoppedAhead 53 = .ok (.iload_n 3, 1) := by decide +kernel
theorem dX5_stoppedAhead_54 : decode cX5_stoppedAhead 54 = .ok (.ishl, 1) := by decide +kernel
theorem dX5_stoppedAhead_55 : decode cX5_stoppedAhead 55 = .ok (.ior, 1) := by decide +kernel
theorem dX5_stoppedAhead_56 : decode cX5_stoppedAhead 56 = .ok (.istore_n 2, 1) := by decide +kernel
theorem dX5_stoppedAhead_57 : decode cX5_stoppedAhead 57 = .ok (.iinc 3 1, 3) := by decide +kernel
theorem dX5_stoppedAhead_60 : decode cX5_stoppedAhead 60 = .ok (.goto (-56), 3) := by decide +kernel
theorem dX5_stoppedAhead_63 : decode cX5_stoppedAhead 63 = .ok (.iload_n 2, 1) := by decide +kernel
theorem dX5_stoppedAhead_64 : decode cX5_stoppedAhead 64 = .ok (.ireturn, 1) := by decide +kernel
set_option maxRecDepth 20000 in
theorem ggX5_goOn_X6_nextCell : GoodIn wsX5_goOn wsX6_nextCell := goodIn_r _ [5] (by decide +kernel) (by decide +kernel)
set_option maxRecDepth 20000 in
theorem gX5_goOn_X6_nextCell_n49 : GoodIn wsX5_goOn (wsX6_nextCell) := ggX5_goOn_X6_nextCell
set_option maxRecDepth 20000 in
theorem ggX5_goOn_X5_canBe : GoodIn wsX5_goOn wsX5_canBe := goodIn_r _ [10, 11, 12, 13, 14, 4, 15, 38, 39, 40, 41, 42, 33, 34, 35, 36, 37] (by decide +kernel) (by decide +kernel)
set_option maxRecDepth 20000 in
theorem gX5_goOn_X5_canBe : GoodIn wsX5_goOn (wsV RX5 85 RX5 yX5_canBe wsX5_canBe) := goodIn_app (goodIn_of _ (by decide +kernel)) ggX5_goOn_X5_canBe
set_option maxRecDepth 20000 in
theorem ggX5_goOn_X5_isOpenHole : GoodIn wsX5_goOn wsX5_isOpenHole := goodIn_r _ [19, 11, 20, 14, 4, 15, 38, 39, 40, 41, 42, 33, 34, 35, 36, 37] (by decide +kernel) (by decide +kernel)
set_option maxRecDepth 20000 in
theorem gX5_goOn_X5_isOpenHole : GoodIn wsX5_goOn (wsV RX5 89 RX5 yX5_isOpenHole wsX5_isOpenHole) := goodIn_app (goodIn_of _ (by decide +kernel)) ggX5_goOn_X5_isOpenHole
set_option maxRecDepth 20000 in
theorem ggX5_goOn_X4_drop : GoodIn wsX5_goOn wsX4_drop := goodIn_r _ [25, 26, 27, 28, 33, 34, 35, 36, 37] (by decide +kernel) (by decide +kernel)
set_option maxRecDepth 20000 in
theorem gX5_goOn_X4_drop : GoodIn wsX5_goOn (wsV RX5 92 RX4 yX4_drop wsX4_drop) := goodIn_app (goodIn_of _ (by decide +kernel)) ggX5_goOn_X4_drop
set_option maxRecDepth 20000 in
theorem ggX5_goOn_X4_put : GoodIn wsX5_goOn wsX4_put := goodIn_r _ [32, 27, 28, 26, 33, 34, 35, 36, 37] (by decide +kernel) (by decide +kernel)
set_option maxRecDepth 20000 in
theorem gX5_goOn_X4_put : GoodIn wsX5_goOn (wsV RX5 96 RX4 yX4_put wsX4_put) := goodIn_app (goodIn_of _ (by decide +kernel)) ggX5_goOn_X4_put
theorem dX5_goOn_0 : decode cX5_goOn 0 = .ok (.aload_n 1, 1) := by decide +kernel
theorem dX5_goOn_1 : decode cX5_goOn 1 = .ok (.getfield 78, 3) := by decide +kernel
theorem dX5_goOn_4 : decode cX5_goOn 4 = .ok (.iload_n 2, 1) := by decide +kernel
theorem dX5_goOn_5 : decode cX5_goOn 5 = .ok (.iaload, 1) := by decide +kernel
theorem dX5_goOn_6 : decode cX5_goOn 6 = .ok (.aload_n 0, 1) := by decide +kernel
theorem dX5_goOn_7 : decode cX5_goOn 7 = .ok (.getfield 15, 3) := by decide +kernel
theorem dX5_goOn_10 : decode cX5_goOn 10 = .ok (.iload_n 2, 1) := by decide +kernel
theorem dX5_goOn_11 : decode cX5_goOn 11 = .ok (.iaload, 1) := by decide +kernel
theorem dX5_goOn_12 : decode cX5_goOn 12 = .ok (.iconst 3, 1) := by decide +kernel
theorem dX5_goOn_13 : decode cX5_goOn 13 = .ok (.if_icmp .ne 9, 3) := by decide +kernel
theorem dX5_goOn_16 : decode cX5_goOn 16 = .ok (.iload_n 3, 1) := by decide +kernel
theorem dX5_goOn_17 : decode cX5_goOn 17 = .ok (.iconst 1, 1) := by decide +kernel
theorem dX5_goOn_18 : decode cX5_goOn 18 = .ok (.ixor, 1) := by decide +kernel
theorem dX5_goOn_19 : decode cX5_goOn 19 = .ok (.goto 4, 3) := by decide +kernel
theorem dX5_goOn_22 : decode cX5_goOn 22 = .ok (.iload_n 3, 1) := by decide +kernel
theorem dX5_goOn_23 : decode cX5_goOn 23 = .ok (.invokestatic 49, 3) := by decide +kernel
theorem dX5_goOn_26 : decode cX5_goOn 26 = .ok (.istore 4, 2) := by decide +kernel
theorem dX5_goOn_28 : decode cX5_goOn 28 = .ok (.iload 4, 2) := by decide +kernel
theorem dX5_goOn_30 : decode cX5_goOn 30 = .ok (.iconst (-1), 1) := by decide +kernel
theorem dX5_goOn_31 : decode cX5_goOn 31 = .ok (.if_icmp .eq 13, 3) := by decide +kernel
theorem dX5_goOn_34 : decode cX5_goOn 34 = .ok (.aload_n 0, 1) := by decide +kernel
theorem dX5_goOn_35 : decode cX5_goOn 35 = .ok (.aload_n 1, 1) := by decide +kernel
theorem dX5_goOn_36 : decode cX5_goOn 36 = .ok (.iload 4, 2) := by decide +kernel
theorem dX5_goOn_38 : decode cX5_goOn 38 = .ok (.invokevirtual 85, 3) := by decide +kernel
theorem dX5_goOn_41 : decode cX5_goOn 41 = .ok (.ifCond .ne 5, 3) := by decide +kernel
theorem dX5_goOn_44 : decode cX5_goOn 44 = .ok (.iconst 0, 1) := by decide +kernel
theorem dX5_goOn_45 : decode cX5_goOn 45 = .ok (.ireturn, 1) := by decide +kernel
theorem dX5_goOn_46 : decode cX5_goOn 46 = .ok (.aload_n 0, 1) := by decide +kernel
theorem dX5_goOn_47 : decode cX5_goOn 47 = .ok (.aload_n 1, 1) := by decide +kernel
theorem dX5_goOn_48 : decode cX5_goOn 48 = .ok (.iload 4, 2) := by decide +kernel
theorem dX5_goOn_50 : decode cX5_goOn 50 = .ok (.invokevirtual 89, 3) := by decide +kernel
theorem dX5_goOn_53 : decode cX5_goOn 53 = .ok (.ifCond .eq 13, 3) := by decide +kernel
theorem dX5_goOn_56 : decode cX5_goOn 56 = .ok (.aload_n 1, 1) := by decide +kernel
theorem dX5_goOn_57 : decode cX5_goOn 57 = .ok (.iload_n 2, 1) := by decide +kernel
theorem dX5_goOn_58 : decode cX5_goOn 58 = .ok (.iload 4, 2) := by decide +kernel
theorem dX5_goOn_60 : decode cX5_goOn 60 = .ok (.invokevirtual 92, 3) := by decide +kernel
theorem dX5_goOn_63 : decode cX5_goOn 63 = .ok (.goto 10, 3) := by decide +kernel
theorem dX5_goOn_66 : decode cX5_goOn 66 = .ok (.aload_n 1, 1) := by decide +kernel
theorem dX5_goOn_67 : decode cX5_goOn 67 = .ok (.iload_n 2, 1) := by decide +kernel
theorem dX5_goOn_68 : decode cX5_goOn 68 = .ok (.iload 4, 2) := by decide +kernel
theorem dX5_goOn_70 : decode cX5_goOn 70 = .ok (.invokevirtual 96, 3) := by decide +kernel
theorem dX5_goOn_73 : decode cX5_goOn 73 = .ok (.iconst 1, 1) := by decide +kernel
theorem dX5_goOn_74 : decode cX5_goOn 74 = .ok (.ireturn, 1) := by decide +kernel
set_option maxRecDepth 20000 in
theorem ggX5_stopsAt_X6_isCell : GoodIn wsX5_stopsAt wsX6_isCell := goodIn_r _ [6] (by decide +kernel) (by decide +kernel)
set_option maxRecDepth 20000 in
theorem gX5_stopsAt_X6_isCell_n63 : GoodIn wsX5_stopsAt (wsX6_isCell) := ggX5_stopsAt_X6_isCell
set_option maxRecDepth 20000 in
theorem ggX5_stopsAt_X6_bitOf : GoodIn wsX5_stopsAt wsX6_bitOf := goodIn_r _ [8] (by decide +kernel) (by decide +kernel)
set_option maxRecDepth 20000 in
theorem gX5_stopsAt_X6_bitOf_n37 : GoodIn wsX5_stopsAt (wsX6_bitOf) := ggX5_stopsAt_X6_bitOf
theorem dX5_stopsAt_0 : decode cX5_stopsAt 0 = .ok (.iload_n 2, 1) := by decide +kernel
theorem dX5_stopsAt_1 : decode cX5_stopsAt 1 = .ok (.invokestatic 63, 3) := by decide +kernel
theorem dX5_stopsAt_4 : decode cX5_stopsAt 4 = .ok (.ifCond .ne 5, 3) := by decide +kernel
theorem dX5_stopsAt_7 : decode cX5_stopsAt 7 = .ok (.iconst 1, 1) := by decide +kernel
theorem dX5_stopsAt_8 : decode cX5_stopsAt 8 = .ok (.ireturn, 1) := by decide +kernel
theorem dX5_stopsAt_9 : decode cX5_stopsAt 9 = .ok (.aload_n 0, 1) := by decide +kernel
theorem dX5_stopsAt_10 : decode cX5_stopsAt 10 = .ok (.getfield 15, 3) := by decide +kernel
theorem dX5_stopsAt_13 : decode cX5_stopsAt 13 = .ok (.iload_n 1, 1) := by decide +kernel
theorem dX5_stopsAt_14 : decode cX5_stopsAt 14 = .ok (.iaload, 1) := by decide +kernel
theorem dX5_stopsAt_15 : decode cX5_stopsAt 15 = .ok (.tableswitch 54 0 2 #[25, 29, 27], 25) := by decide +kernel
theorem dX5_stopsAt_40 : decode cX5_stopsAt 40 = .ok (.iconst 0, 1) := by decide +kernel
theorem dX5_stopsAt_41 : decode cX5_stopsAt 41 = .ok (.ireturn, 1) := by decide +kernel
theorem dX5_stopsAt_42 : decode cX5_stopsAt 42 = .ok (.iconst 1, 1) := by decide +kernel
theorem dX5_stopsAt_43 : decode cX5_stopsAt 43 = .ok (.ireturn, 1) := by decide +kernel
theorem dX5_stopsAt_44 : decode cX5_stopsAt 44 = .ok (.aload_n 0, 1) := by decide +kernel
theorem dX5_stopsAt_45 : decode cX5_stopsAt 45 = .ok (.getfield 9, 3) := by decide +kernel
theorem dX5_stopsAt_48 : decode cX5_stopsAt 48 = .ok (.iconst 3, 1) := by decide +kernel
theorem dX5_stopsAt_49 : decode cX5_stopsAt 49 = .ok (.iaload, 1) := by decide +kernel
theorem dX5_stopsAt_50 : decode cX5_stopsAt 50 = .ok (.aload_n 0, 1) := by decide +kernel
theorem dX5_stopsAt_51 : decode cX5_stopsAt 51 = .ok (.getfield 25, 3) := by decide +kernel
theorem dX5_stopsAt_54 : decode cX5_stopsAt 54 = .ok (.ior, 1) := by decide +kernel
theorem dX5_stopsAt_55 : decode cX5_stopsAt 55 = .ok (.iload_n 2, 1) := by decide +kernel
theorem dX5_stopsAt_56 : decode cX5_stopsAt 56 = .ok (.invokestatic 37, 3) := by decide +kernel
theorem dX5_stopsAt_59 : decode cX5_stopsAt 59 = .ok (.iconst 1, 1) := by decide +kernel
theorem dX5_stopsAt_60 : decode cX5_stopsAt 60 = .ok (.if_icmp .ne 7, 3) := by decide +kernel
theorem dX5_stopsAt_63 : decode cX5_stopsAt 63 = .ok (.iconst 1, 1) := by decide +kernel
theorem dX5_stopsAt_64 : decode cX5_stopsAt 64 = .ok (.goto 4, 3) := by decide +kernel
theorem dX5_stopsAt_67 : decode cX5_stopsAt 67 = .ok (.iconst 0, 1) := by decide +kernel
theorem dX5_stopsAt_68 : decode cX5_stopsAt 68 = .ok (.ireturn, 1) := by decide +kernel
theorem dX5_stopsAt_69 : decode cX5_stopsAt 69 = .ok (.aload_n 0, 1) := by decide +kernel
theorem dX5_stopsAt_70 : decode cX5_stopsAt 70 = .ok (.getfield 9, 3) := by decide +kernel
theorem dX5_stopsAt_73 : decode cX5_stopsAt 73 = .ok (.iconst 3, 1) := by decide +kernel
theorem dX5_stopsAt_74 : decode cX5_stopsAt 74 = .ok (.iaload, 1) := by decide +kernel
theorem dX5_stopsAt_75 : decode cX5_stopsAt 75 = .ok (.iload_n 2, 1) := by decide +kernel
theorem dX5_stopsAt_76 : decode cX5_stopsAt 76 = .ok (.invokestatic 37, 3) := by decide +kernel
theorem dX5_stopsAt_79 : decode cX5_stopsAt 79 = .ok (.iconst 1, 1) := by decide +kernel
theorem dX5_stopsAt_80 : decode cX5_stopsAt 80 = .ok (.if_icmp .ne 7, 3) := by decide +kernel
theorem dX5_stopsAt_83 : decode cX5_stopsAt 83 = .ok (.iconst 1, 1) := by decide +kernel
theorem dX5_stopsAt_84 : decode cX5_stopsAt 84 = .ok (.goto 4, 3) := by decide +kernel
theorem dX5_stopsAt_87 : decode cX5_stopsAt 87 = .ok (.iconst 0, 1) := by decide +kernel
theorem dX5_stopsAt_88 : decode cX5_stopsAt 88 = .ok (.ireturn, 1) := by decide +kernel
set_option maxRecDepth 20000 in
theorem ggX6_init_X5_init : GoodIn wsX6_init wsX5_init := goodIn_r _ [36, 37, 2, 3, 33, 38, 39, 40, 82, 83, 84, 85, 86] (by decide +kernel) (by decide +kernel)
set_option maxRecDepth 20000 in
theorem gX6_init_X5_init_n15 : GoodIn wsX6_init (wsX5_init) := ggX6_init_X5_init
set_option maxRecDepth 20000 in
theorem ggX6_init_X4_init : GoodIn wsX6_init wsX4_init := goodIn_r _ [42, 43, 2, 3, 33, 44, 87, 88, 89, 90, 91] (by decide +kernel) (by decide +kernel)
set_option maxRecDepth 20000 in
theorem gX6_init_X4_init_n25 : GoodIn wsX6_init (wsX4_init) := ggX6_init_X4_init
set_option maxRecDepth 20000 in
theorem ggX6_init_X0_init : GoodIn wsX6_init wsX0_init := goodIn_r _ [47, 48, 2, 3, 49, 50, 12, 13, 41, 42, 43, 33, 44, 92, 93, 94, 87, 88, 89, 90, 91] (by decide +kernel) (by decide +kernel)
set_option maxRecDepth 20000 in
theorem gX6_init_X0_init : GoodIn wsX6_init (wsX0_init) := ggX6_init_X0_init
set_option maxRecDepth 20000 in
theorem ggX6_init_X3_init : GoodIn wsX6_init wsX3_init := goodIn_r _ [52, 53, 2, 3, 33, 54, 55, 56, 95, 96, 97, 98] (by decide +kernel) (by decide +kernel)
set_option maxRecDepth 20000 in
theorem gX6_init_X3_init_n46 : GoodIn wsX6_init (wsX3_init) := ggX6_init_X3_init
set_option maxRecDepth 20000 in
theorem ggX6_init_X2_init : GoodIn wsX6_init wsX2_init := goodIn_r _ [59, 60, 2, 3, 61, 62, 12, 13, 41, 42, 43, 33, 44, 99, 100, 101, 102, 87, 88, 89, 90, 91] (by decide +kernel) (by decide +kernel)
set_option maxRecDepth 20000 in
theorem gX6_init_X2_init : GoodIn wsX6_init (wsX2_init) := ggX6_init_X2_init
set_option maxRecDepth 20000 in
theorem ggX6_init_X1_init : GoodIn wsX6_init wsX1_init := goodIn_r _ [64, 65, 2, 3, 33, 66, 67, 103, 104] (by decide +kernel) (by decide +kernel)
set_option maxRecDepth 20000 in
theorem gX6_init_X1_init_n60 : GoodIn wsX6_init (wsX1_init) := ggX6_init_X1_init
theorem dX6_init_0 : decode cX6_init 0 = .ok (.aload_n 0, 1) := by decide +kernel
theorem dX6_init_1 : decode cX6_init 1 = .ok (.invokespecial 1, 3) := by decide +kernel
theorem dX6_init_4 : decode cX6_init 4 = .ok (.aload_n 0, 1) := by decide +kernel
theorem dX6_init_5 : decode cX6_init 5 = .ok (.bipush 48, 2) := by decide +kernel
theorem dX6_init_7 : decode cX6_init 7 = .ok (.newarray .char, 2) := by decide +kernel
theorem dX6_init_9 : decode cX6_init 9 = .ok (.putfield 9, 3) := by decide +kernel
theorem dX6_init_12 : decode cX6_init 12 = .ok (.aload_n 0, 1) := by decide +kernel
theorem dX6_init_13 : decode cX6_init 13 = .ok (.new 13, 3) := by decide +kernel
theorem dX6_init_16 : decode cX6_init 16 = .ok (.dup, 1) := by decide +kernel
theorem dX6_init_17 : decode cX6_init 17 = .ok (.invokespecial 15, 3) := by decide +kernel
theorem dX6_init_20 : decode cX6_init 20 = .ok (.putfield 16, 3) := by decide +kernel
theorem dX6_init_23 : decode cX6_init 23 = .ok (.aload_n 0, 1) := by decide +kernel
theorem dX6_init_24 : decode cX6_init 24 = .ok (.new 13, 3) := by decide +kernel
theorem dX6_init_27 : decode cX6_init 27 = .ok (.dup, 1) := by decide +kernel
theorem dX6_init_28 : decode cX6_init 28 = .ok (.invokespecial 15, 3) := by decide +kernel
theorem dX6_init_31 : decode cX6_init 31 = .ok (.putfield 20, 3) := by decide +kernel
theorem dX6_init_34 : decode cX6_init 34 = .ok (.aload_n 0, 1) := by decide +kernel
theorem dX6_init_35 : decode cX6_init 35 = .ok (.new 23, 3) := by decide +kernel
theorem dX6_init_38 : decode cX6_init 38 = .ok (.dup, 1) := by decide +kernel
theorem dX6_init_39 : decode cX6_init 39 = .ok (.invokespecial 25, 3) := by decide +kernel
theorem dX6_init_42 : decode cX6_init 42 = .ok (.putfield 26, 3) := by decide +kernel
theorem dX6_init_45 : decode cX6_init 45 = .ok (.aload_n 0, 1) := by decide +kernel
theorem dX6_init_46 : decode cX6_init 46 = .ok (.new 23, 3) := by decide +kernel
theorem dX6_init_49 : decode cX6_init 49 = .ok (.dup, 1) := by decide +kernel
theorem dX6_init_50 : decode cX6_init 50 = .ok (.invokespecial 25, 3) := by decide +kernel
theorem dX6_init_53 : decode cX6_init 53 = .ok (.putfield 30, 3) := by decide +kernel
theorem dX6_init_56 : decode cX6_init 56 = .ok (.aload_n 0, 1) := by decide +kernel
theorem dX6_init_57 : decode cX6_init 57 = .ok (.new 33, 3) := by decide +kernel
theorem dX6_init_60 : decode cX6_init 60 = .ok (.dup, 1) := by decide +kernel
theorem dX6_init_61 : decode cX6_init 61 = .ok (.invokespecial 35, 3) := by decide +kernel
theorem dX6_init_64 : decode cX6_init 64 = .ok (.putfield 36, 3) := by decide +kernel
theorem dX6_init_67 : decode cX6_init 67 = .ok (.aload_n 0, 1) := by decide +kernel
theorem dX6_init_68 : decode cX6_init 68 = .ok (.iconst 2, 1) := by decide +kernel
theorem dX6_init_69 : decode cX6_init 69 = .ok (.anewarray 23, 3) := by decide +kernel
theorem dX6_init_72 : decode cX6_init 72 = .ok (.putfield 40, 3) := by decide +kernel
theorem dX6_init_75 : decode cX6_init 75 = .ok (.aload_n 0, 1) := by decide +kernel
theorem dX6_init_76 : decode cX6_init 76 = .ok (.new 44, 3) := by decide +kernel
theorem dX6_init_79 : decode cX6_init 79 = .ok (.dup, 1) := by decide +kernel
theorem dX6_init_80 : decode cX6_init 80 = .ok (.invokespecial 46, 3) := by decide +kernel
theorem dX6_init_83 : decode cX6_init 83 = .ok (.putfield 47, 3) := by decide +kernel
theorem dX6_init_86 : decode cX6_init 86 = .ok (.aload_n 0, 1) := by decide +kernel
theorem dX6_init_87 : decode cX6_init 87 = .ok (.new 51, 3) := by decide +kernel
theorem dX6_init_90 : decode cX6_init 90 = .ok (.dup, 1) := by decide +kernel
theorem dX6_init_91 : decode cX6_init 91 = .ok (.invokespecial 53, 3) := by decide +kernel
theorem dX6_init_94 : decode cX6_init 94 = .ok (.putfield 54, 3) := by decide +kernel
theorem dX6_init_97 : decode cX6_init 97 = .ok (.aload_n 0, 1) := by decide +kernel
theorem dX6_init_98 : decode cX6_init 98 = .ok (.new 58, 3) := by decide +kernel
theorem dX6_init_101 : decode cX6_init 101 = .ok (.dup, 1) := by decide +kernel
theorem dX6_init_102 : decode cX6_init 102 = .ok (.invokespecial 60, 3) := by decide +kernel
theorem dX6_init_105 : decode cX6_init 105 = .ok (.putfield 61, 3) := by decide +kernel
theorem dX6_init_108 : decode cX6_init 108 = .ok (.aload_n 0, 1) := by decide +kernel
theorem dX6_init_109 : decode cX6_init 109 = .ok (.bipush 16, 2) := by decide +kernel
theorem dX6_init_111 : decode cX6_init 111 = .ok (.newarray .int, 2) := by decide +kernel
theorem dX6_init_113 : decode cX6_init 113 = .ok (.putfield 65, 3) := by decide +kernel
theorem dX6_init_116 : decode cX6_init 116 = .ok (.iconst 0, 1) := by decide +kernel
theorem dX6_init_117 : decode cX6_init 117 = .ok (.istore_n 1, 1) := by decide +kernel
theorem dX6_init_118 : decode cX6_init 118 = .ok (.iload_n 1, 1) := by decide +kernel
theorem dX6_init_119 : decode cX6_init 119 = .ok (.iconst 2, 1) := by decide +kernel
theorem dX6_init_120 : decode cX6_init 120 = .ok (.if_icmp .ge 22, 3) := by decide +kernel
theorem dX6_init_123 : decode cX6_init 123 = .ok (.aload_n 0, 1) := by decide +kernel
theorem dX6_init_124 : decode cX6_init 124 = .ok (.getfield 40, 3) := by decide +kernel
theorem dX6_init_127 : decode cX6_init 127 = .ok (.iload_n 1, 1) := by decide +kernel
theorem dX6_init_128 : decode cX6_init 128 = .ok (.new 23, 3) := by decide +kernel
theorem dX6_init_131 : decode cX6_init 131 = .ok (.dup, 1) := by decide +kernel
theorem dX6_init_132 : decode cX6_init 132 = .ok (.invokespecial 25, 3) := by decide +kernel
theorem dX6_init_135 : decode cX6_init 135 = .ok (.aastore, 1) := by decide +kernel
theorem dX6_init_136 : decode cX6_init 136 = .ok (.iinc 1 1, 3) := by decide +kernel
theorem dX6_init_139 : decode cX6_init 139 = .ok (.goto (-21), 3) := by decide +kernel
theorem dX6_init_142 : decode cX6_init 142 = .ok (.return_, 1) := by decide +kernel
theorem dX6_write_0 : decode cX6_write 0 = .ok (.iload_n 1, 1) := by decide +kernel
theorem dX6_write_1 : decode cX6_write 1 = .ok (.ifCond .lt 10, 3) := by decide +kernel
theorem dX6_write_4 : decode cX6_write 4 = .ok (.iload_n 1, 1) := by decide +kernel
theorem dX6_write_5 : decode cX6_write 5 = .ok (.sipush 255, 3) := by decide +kernel
theorem dX6_write_8 : decode cX6_write 8 = .ok (.if_icmp .le 6, 3) := by decide +kernel
theorem dX6_write_11 : decode cX6_write 11 = .ok (.bipush (-2), 2) := by decide +kernel
theorem dX6_write_13 : decode cX6_write 13 = .ok (.ireturn, 1) := by decide +kernel
theorem dX6_write_14 : decode cX6_write 14 = .ok (.aload_n 0, 1) := by decide +kernel
theorem dX6_write_15 : decode cX6_write 15 = .ok (.getfield 69, 3) := by decide +kernel
theorem dX6_write_18 : decode cX6_write 18 = .ok (.bipush 48, 2) := by decide +kernel
theorem dX6_write_20 : decode cX6_write 20 = .ok (.if_icmp .lt 6, 3) := by decide +kernel
theorem dX6_write_23 : decode cX6_write 23 = .ok (.bipush (-4), 2) := by decide +kernel
theorem dX6_write_25 : decode cX6_write 25 = .ok (.ireturn, 1) := by decide +kernel
theorem dX6_write_26 : decode cX6_write 26 = .ok (.aload_n 0, 1) := by decide +kernel
theorem dX6_write_27 : decode cX6_write 27 = .ok (.getfield 9, 3) := by decide +kernel
theorem dX6_write_30 : decode cX6_write 30 = .ok (.aload_n 0, 1) := by decide +kernel
theorem dX6_write_31 : decode cX6_write 31 = .ok (.getfield 69, 3) := by decide +kernel
theorem dX6_write_34 : decode cX6_write 34 = .ok (.iload_n 1, 1) := by decide +kernel
theorem dX6_write_35 : decode cX6_write 35 = .ok (.i2c, 1) := by decide +kernel
theorem dX6_write_36 : decode cX6_write 36 = .ok (.castore, 1) := by decide +kernel
theorem dX6_write_37 : decode cX6_write 37 = .ok (.aload_n 0, 1) := by decide +kernel
theorem dX6_write_38 : decode cX6_write 38 = .ok (.dup, 1) := by decide +kernel
theorem dX6_write_39 : decode cX6_write 39 = .ok (.getfield 69, 3) := by decide +kernel
theorem dX6_write_42 : decode cX6_write 42 = .ok (.iconst 1, 1) := by decide +kernel
theorem dX6_write_43 : decode cX6_write 43 = .ok (.iadd, 1) := by decide +kernel
theorem dX6_write_44 : decode cX6_write 44 = .ok (.putfield 69, 3) := by decide +kernel
theorem dX6_write_47 : decode cX6_write 47 = .ok (.aload_n 0, 1) := by decide +kernel
theorem dX6_write_48 : decode cX6_write 48 = .ok (.getfield 69, 3) := by decide +kernel
theorem dX6_write_51 : decode cX6_write 51 = .ok (.ireturn, 1) := by decide +kernel
theorem dX6_wipe_0 : decode cX6_wipe 0 = .ok (.aload_n 0, 1) := by decide +kernel
theorem dX6_wipe_1 : decode cX6_wipe 1 = .ok (.getfield 69, 3) := by decide +kernel
theorem dX6_wipe_4 : decode cX6_wipe 4 = .ok (.istore_n 1, 1) := by decide +kernel
theorem dX6_wipe_5 : decode cX6_wipe 5 = .ok (.aload_n 0, 1) := by decide +kernel
theorem dX6_wipe_6 : decode cX6_wipe 6 = .ok (.iconst 0, 1) := by decide +kernel
theorem dX6_wipe_7 : decode cX6_wipe 7 = .ok (.putfield 69, 3) := by decide +kernel
theorem dX6_wipe_10 : decode cX6_wipe 10 = .ok (.iload_n 1, 1) := by decide +kernel
theorem dX6_wipe_11 : decode cX6_wipe 11 = .ok (.ireturn, 1) := by decide +kernel
set_option maxRecDepth 20000 in
theorem ggX6_fault_X6_readText : GoodIn wsX6_fault wsX6_readText := goodIn_r _ [5, 6, 7, 8, 9, 10, 11, 12, 13, 14, 15, 16, 17, 18, 4, 19, 20, 21, 22, 23, 24, 25, 26, 27, 28, 29, 30, 31, 32, 33, 34, 35, 36, 37, 38, 39, 40, 41, 42, 43, 44, 45, 46, 47, 48, 49, 50, 51, 52, 53, 54, 55, 56, 57, 58, 59, 60, 61, 62, 63, 64, 65, 66, 67, 68, 69, 70, 71, 72, 73, 74, 75, 76, 77, 78] (by decide +kernel) (by decide +kernel)
set_option maxRecDepth 20000 in
theorem gX6_fault_X6_readText : GoodIn wsX6_fault (wsV RX6 73 RX6 yX6_readText wsX6_readText) := goodIn_app (goodIn_of _ (by decide +kernel)) ggX6_fault_X6_readText
theorem dX6_fault_0 : decode cX6_fault 0 = .ok (.aload_n 0, 1) := by decide +kernel
theorem dX6_fault_1 : decode cX6_fault 1 = .ok (.invokevirtual 73, 3) := by decide +kernel
theorem dX6_fault_4 : decode cX6_fault 4 = .ok (.ireturn, 1) := by decide +kernel
set_option maxRecDepth 20000 in
theorem ggX6_table_X6_readText : GoodIn wsX6_table wsX6_readText := goodIn_r _ [12, 1, 13, 14, 15, 16, 17, 18, 19, 20, 21, 22, 23, 24, 11, 25, 26, 27, 28, 29, 30, 31, 32, 33, 34, 35, 36, 37, 38, 39, 40, 41, 42, 43, 44, 45, 46, 47, 48, 49, 50, 51, 52, 53, 54, 55, 56, 57, 58, 59, 60, 61, 62, 63, 64, 65, 87, 88, 89, 90, 91, 92, 93, 94, 95, 96, 97, 98, 99, 100, 101, 102, 103, 104, 105] (by decide +kernel) (by decide +kernel)
set_option maxRecDepth 20000 in
theorem gX6_table_X6_readText : GoodIn wsX6_table (wsV RX6 73 RX6 yX6_readText wsX6_readText) := goodIn_app (goodIn_of _ (by decide +kernel)) ggX6_table_X6_readText
set_option maxRecDepth 20000 in
theorem ggX6_table_X4_begin : GoodIn wsX6_table wsX4_begin := goodIn_r _ [70, 71, 72, 73, 74, 75, 76, 77, 78, 101, 102, 103, 104, 105, 106, 107, 108, 109, 110] (by decide +kernel) (by decide +kernel)
set_option maxRecDepth 20000 in
theorem gX6_table_X4_begin : GoodIn wsX6_table (wsV RX6 77 RX4 yX4_begin wsX4_begin) := goodIn_app (goodIn_of _ (by decide +kernel)) ggX6_table_X4_begin
set_option maxRecDepth 20000 in
theorem ggX6_table_X0_forget : GoodIn wsX6_table wsX0_forget := goodIn_r _ [83, 84, 85, 111, 112, 113] (by decide +kernel) (by decide +kernel)
set_option maxRecDepth 20000 in
theorem gX6_table_X0_forget : GoodIn wsX6_table (wsV RX6 81 RX0 yX0_forget wsX0_forget) := goodIn_app (goodIn_of _ (by decide +kernel)) ggX6_table_X0_forget
set_option maxRecDepth 20000 in
theorem ggX6_table_J6_bitCount_0f7a4 : GoodIn wsX6_table wsJ6_bitCount_0f7a4 := goodIn_r _ [33, 34, 35, 36] (by decide +kernel) (by decide +kernel)
set_option maxRecDepth 20000 in
theorem gX6_table_J6_bitCount_0f7a4 : GoodIn wsX6_table (va_wsS RX6 90 yJ6_bitCount_0f7a4 wsJ6_bitCount_0f7a4) := goodIn_app (goodIn_of _ (by decide +kernel)) ggX6_table_J6_bitCount_0f7a4
theorem dX6_table_0 : decode cX6_table 0 = .ok (.aload_n 0, 1) := by decide +kernel
theorem dX6_table_1 : decode cX6_table 1 = .ok (.invokevirtual 73, 3) := by decide +kernel
theorem dX6_table_4 : decode cX6_table 4 = .ok (.bipush (-9), 2) := by decide +kernel
theorem dX6_table_6 : decode cX6_table 6 = .ok (.if_icmp .eq 6, 3) := by decide +kernel
theorem dX6_table_9 : decode cX6_table 9 = .ok (.bipush (-3), 2) := by decide +kernel
theorem dX6_table_11 : decode cX6_table 11 = .ok (.ireturn, 1) := by decide +kernel
theorem dX6_table_12 : decode cX6_table 12 = .ok (.aload_n 0, 1) := by decide +kernel
theorem dX6_table_13 : decode cX6_table 13 = .ok (.getfield 20, 3) := by decide +kernel
theorem dX6_table_16 : decode cX6_table 16 = .ok (.astore_n 1, 1) := by decide +kernel
theorem dX6_table_17 : decode cX6_table 17 = .ok (.aload_n 0, 1) := by decide +kernel
theorem dX6_table_18 : decode cX6_table 18 = .ok (.aload_n 0, 1) := by decide +kernel
theorem dX6_table_19 : decode cX6_table 19 = .ok (.getfield 16, 3) := by decide +kernel
theorem dX6_table_22 : decode cX6_table 22 = .ok (.putfield 20, 3) := by decide +kernel
theorem dX6_table_25 : decode cX6_table 25 = .ok (.aload_n 0, 1) := by decide +kernel
theorem dX6_table_26 : decode cX6_table 26 = .ok (.aload_n 1, 1) := by decide +kernel
theorem dX6_table_27 : decode cX6_table 27 = .ok (.putfield 16, 3) := by decide +kernel
theorem dX6_table_30 : decode cX6_table 30 = .ok (.aload_n 0, 1) := by decide +kernel
theorem dX6_table_31 : decode cX6_table 31 = .ok (.getfield 26, 3) := by decide +kernel
theorem dX6_table_34 : decode cX6_table 34 = .ok (.aload_n 0, 1) := by decide +kernel
theorem dX6_table_35 : decode cX6_table 35 = .ok (.getfield 16, 3) := by decide +kernel
theorem dX6_table_38 : decode cX6_table 38 = .ok (.invokevirtual 77, 3) := by decide +kernel
theorem dX6_table_41 : decode cX6_table 41 = .ok (.aload_n 0, 1) := by decide +kernel
theorem dX6_table_42 : decode cX6_table 42 = .ok (.getfield 36, 3) := by decide +kernel
theorem dX6_table_45 : decode cX6_table 45 = .ok (.invokevirtual 81, 3) := by decide +kernel
theorem dX6_table_48 : decode cX6_table 48 = .ok (.aload_n 0, 1) := by decide +kernel
theorem dX6_table_49 : decode cX6_table 49 = .ok (.iconst 0, 1) := by decide +kernel
theorem dX6_table_50 : decode cX6_table 50 = .ok (.putfield 84, 3) := by decide +kernel
theorem dX6_table_53 : decode cX6_table 53 = .ok (.bipush 100, 2) := by decide +kernel
theorem dX6_table_55 : decode cX6_table 55 = .ok (.aload_n 0, 1) := by decide +kernel
theorem dX6_table_56 : decode cX6_table 56 = .ok (.getfield 16, 3) := by decide +kernel
theorem dX6_table_59 : decode cX6_table 59 = .ok (.getfield 87, 3) := by decide +kernel
theorem dX6_table_62 : decode cX6_table 62 = .ok (.iconst 1, 1) := by decide +kernel
theorem dX6_table_63 : decode cX6_table 63 = .ok (.iaload, 1) := by decide +kernel
theorem dX6_table_64 : decode cX6_table 64 = .ok (.invokestatic 90, 3) := by decide +kernel
theorem dX6_table_67 : decode cX6_table 67 = .ok (.imul, 1) := by decide +kernel
theorem dX6_table_68 : decode cX6_table 68 = .ok (.bipush 10, 2) := by decide +kernel
theorem dX6_table_70 : decode cX6_table 70 = .ok (.aload_n 0, 1) := by decide +kernel
theorem dX6_table_71 : decode cX6_table 71 = .ok (.getfield 16, 3) := by decide +kernel
theorem dX6_table_74 : decode cX6_table 74 = .ok (.getfield 87, 3) := by decide +kernel
theorem dX6_table_77 : decode cX6_table 77 = .ok (.iconst 2, 1) := by decide +kernel
theorem dX6_table_78 : decode cX6_table 78 = .ok (.iaload, 1) := by decide +kernel
theorem dX6_table_79 : decode cX6_table 79 = .ok (.invokestatic 90, 3) := by decide +kernel
theorem dX6_table_82 : decode cX6_table 82 = .ok (.imul, 1) := by decide +kernel
theorem dX6_table_83 : decode cX6_table 83 = .ok (.iadd, 1) := by decide +kernel
theorem dX6_table_84 : decode cX6_table 84 = .ok (.aload_n 0, 1) := by decide +kernel
theorem dX6_table_85 : decode cX6_table 85 = .ok (.getfield 16, 3) := by decide +kernel
theorem dX6_table_88 : decode cX6_table 88 = .ok (.getfield 96, 3) := by decide +kernel
theorem dX6_table_91 : decode cX6_table 91 = .ok (.iadd, 1) := by decide +kernel
theorem dX6_table_92 : decode cX6_table 92 = .ok (.ireturn, 1) := by decide +kernel
set_option maxRecDepth 20000 in
theorem ggX6_cell_X6_isCell : GoodIn wsX6_cell wsX6_isCell := goodIn_r _ [8] (by decide +kernel) (by decide +kernel)
set_option maxRecDepth 20000 in
theorem gX6_cell_X6_isCell : GoodIn wsX6_cell (va_wsS RX6 99 yX6_isCell wsX6_isCell) := goodIn_app (goodIn_of _ (by decide +kernel)) ggX6_cell_X6_isCell
set_option maxRecDepth 20000 in
theorem ggX6_cell_X5_partAt : GoodIn wsX6_cell wsX5_partAt := goodIn_r _ [13, 14, 15, 7, 16, 43, 44, 45, 46, 47] (by decide +kernel) (by decide +kernel)
set_option maxRecDepth 20000 in
theorem gX6_cell_X5_partAt : GoodIn wsX6_cell (wsV RX6 103 RX5 yX5_partAt wsX5_partAt) := goodIn_app (goodIn_of _ (by decide +kernel)) ggX6_cell_X5_partAt
set_option maxRecDepth 20000 in
theorem ggX6_cell_X4_marbleAt : GoodIn wsX6_cell wsX4_marbleAt := goodIn_r _ [21, 22, 38, 39, 40, 41, 42] (by decide +kernel) (by decide +kernel)
set_option maxRecDepth 20000 in
theorem gX6_cell_X4_marbleAt : GoodIn wsX6_cell (wsV RX6 106 RX4 yX4_marbleAt wsX4_marbleAt) := goodIn_app (goodIn_of _ (by decide +kernel)) ggX6_cell_X4_marbleAt
set_option maxRecDepth 20000 in
theorem ggX6_cell_X6_bitOf : GoodIn wsX6_cell wsX6_bitOf := goodIn_r _ [16] (by decide +kernel) (by decide +kernel)
set_option maxRecDepth 20000 in
theorem gX6_cell_X6_bitOf : GoodIn wsX6_cell (va_wsS RX6 112 yX6_bitOf wsX6_bitOf) := goodIn_app (goodIn_of _ (by decide +kernel)) ggX6_cell_X6_bitOf
theorem dX6_cell_0 : decode cX6_cell 0 = .ok (.iload_n 1, 1) := by decide +kernel
theorem dX6_cell_1 : decode cX6_cell 1 = .ok (.invokestatic 99, 3) := by decide +kernel
theorem dX6_cell_4 : decode cX6_cell 4 = .ok (.ifCond .ne 5, 3) := by decide +kernel
theorem dX6_cell_7 : decode cX6_cell 7 = .ok (.iconst (-1), 1) := by decide +kernel
theorem dX6_cell_8 : decode cX6_cell 8 = .ok (.ireturn, 1) := by decide +kernel
theorem dX6_cell_9 : decode cX6_cell 9 = .ok (.iload_n 2, 1) := by decide +kernel
theorem dX6_cell_10 : decode cX6_cell 10 = .ok (.tableswitch 72 0 3 #[30, 39, 48, 60], 30) := by decide +kernel
theorem dX6_cell_40 : decode cX6_cell 40 = .ok (.aload_n 0, 1) := by decide +kernel
theorem dX6_cell_41 : decode cX6_cell 41 = .ok (.getfield 16, 3) := by decide +kernel
theorem dX6_cell_44 : decode cX6_cell 44 = .ok (.iload_n 1, 1) := by decide +kernel
theorem dX6_cell_45 : decode cX6_cell 45 = .ok (.invokevirtual 103, 3) := by decide +kernel
theorem dX6_cell_48 : decode cX6_cell 48 = .ok (.ireturn, 1) := by decide +kernel
theorem dX6_cell_49 : decode cX6_cell 49 = .ok (.aload_n 0, 1) := by decide +kernel
theorem dX6_cell_50 : decode cX6_cell 50 = .ok (.getfield 26, 3) := by decide +kernel
theorem dX6_cell_53 : decode cX6_cell 53 = .ok (.iload_n 1, 1) := by decide +kernel
theorem dX6_cell_54 : decode cX6_cell 54 = .ok (.invokevirtual 106, 3) := by decide +kernel
theorem dX6_cell_57 : decode cX6_cell 57 = .ok (.ireturn, 1) := by decide +kernel
theorem dX6_cell_58 : decode cX6_cell 58 = .ok (.aload_n 0, 1) := by decide +kernel
theorem dX6_cell_59 : decode cX6_cell 59 = .ok (.getfield 26, 3) := by decide +kernel
theorem dX6_cell_62 : decode cX6_cell 62 = .ok (.getfield 109, 3) := by decide +kernel
theorem dX6_cell_65 : decode cX6_cell 65 = .ok (.iload_n 1, 1) := by decide +kernel
theorem dX6_cell_66 : decode cX6_cell 66 = .ok (.invokestatic 112, 3) := by decide +kernel
theorem dX6_cell_69 : decode cX6_cell 69 = .ok (.ireturn, 1) := by decide +kernel
theorem dX6_cell_70 : decode cX6_cell 70 = .ok (.aload_n 0, 1) := by decide +kernel
theorem dX6_cell_71 : decode cX6_cell 71 = .ok (.getfield 26, 3) := by decide +kernel
theorem dX6_cell_74 : decode cX6_cell 74 = .ok (.getfield 116, 3) := by decide +kernel
theorem dX6_cell_77 : decode cX6_cell 77 = .ok (.iload_n 1, 1) := by decide +kernel
theorem dX6_cell_78 : decode cX6_cell 78 = .ok (.invokestatic 112, 3) := by decide +kernel
theorem dX6_cell_81 : decode cX6_cell 81 = .ok (.ireturn, 1) := by decide +kernel
theorem dX6_cell_82 : decode cX6_cell 82 = .ok (.bipush (-2), 2) := by decide +kernel
theorem dX6_cell_84 : decode cX6_cell 84 = .ok (.ireturn, 1) := by decide +kernel
set_option maxRecDepth 20000 in
theorem ggX6_marble_X5_has : GoodIn wsX6_marble wsX5_has := goodIn_r _ [9, 10, 102, 103, 104, 105, 106] (by decide +kernel) (by decide +kernel)
set_option maxRecDepth 20000 in
theorem gX6_marble_X5_has : GoodIn wsX6_marble (wsV RX6 119 RX5 yX5_has wsX5_has) := goodIn_app (goodIn_of _ (by decide +kernel)) ggX6_marble_X5_has
set_option maxRecDepth 20000 in
theorem ggX6_marble_X6_waysElsewhere : GoodIn wsX6_marble wsX6_waysElsewhere := goodIn_r _ [15, 3, 4, 16, 17, 18, 14, 19, 20, 21, 22, 23, 24, 1, 25, 26, 27, 28, 29, 30, 31, 32, 33, 34, 35, 36, 37, 8, 38, 10, 39, 40, 41, 42, 43, 44, 45, 46, 47, 48, 49, 50, 51, 52, 53, 54, 55, 56, 57, 58, 59, 60, 61, 62, 63, 64, 65, 66, 67, 68, 69, 70, 71, 72, 73, 74, 75, 76, 77, 78, 79, 88, 89, 90, 91, 92, 93, 94, 95, 96, 97, 98, 99, 100, 101, 107, 108, 109, 110, 111, 102, 103, 104, 105, 106] (by decide +kernel) (by decide +kernel)
set_option maxRecDepth 20000 in
theorem gX6_marble_X6_waysElsewhere : GoodIn wsX6_marble (wsV RX6 128 RX6 yX6_waysElsewhere wsX6_waysElsewhere) := goodIn_app (goodIn_of _ (by decide +kernel)) ggX6_marble_X6_waysElsewhere
set_option maxRecDepth 20000 in
theorem ggX6_marble_X6_waysOfFall : GoodIn wsX6_marble wsX6_waysOfFall := goodIn_r _ [83, 3, 84, 85, 86, 28, 87, 30, 16, 17, 18, 14, 19, 20, 4, 21, 22, 23, 24, 1, 25, 26, 27, 29, 31, 32, 33, 34, 35, 36, 37, 8, 38, 10, 39, 40, 41, 42, 43, 44, 45, 46, 47, 48, 49, 50, 51, 52, 53, 54, 55, 56, 57, 58, 59, 60, 61, 62, 63, 64, 65, 66, 67, 68, 69, 70, 71, 72, 73, 74, 75, 76, 77, 78, 79, 88, 89, 90, 91, 92, 93, 94, 95, 96, 97, 98, 99, 100, 101, 107, 108, 109, 110, 111, 102, 103, 104, 105, 106] (by decide +kernel) (by decide +kernel)
set_option maxRecDepth 20000 in
theorem gX6_marble_X6_waysOfFall : GoodIn wsX6_marble (wsV RX6 131 RX6 yX6_waysOfFall wsX6_waysOfFall) := goodIn_app (goodIn_of _ (by decide +kernel)) ggX6_marble_X6_waysOfFall
theorem dX6_marble_0 : decode cX6_marble 0 = .ok (.aload_n 0, 1) := by decide +kernel
theorem dX6_marble_1 : decode cX6_marble 1 = .ok (.getfield 16, 3) := by decide +kernel
theorem dX6_marble_4 : decode cX6_marble 4 = .ok (.iload_n 1, 1) := by decide +kernel
theorem dX6_marble_5 : decode cX6_marble 5 = .ok (.invokevirtual 119, 3) := by decide +kernel
theorem dX6_marble_8 : decode cX6_marble 8 = .ok (.ifCond .ne 5, 3) := by decide +kernel
theorem dX6_marble_11 : decode cX6_marble 11 = .ok (.iconst (-1), 1) := by decide +kernel
theorem dX6_marble_12 : decode cX6_marble 12 = .ok (.ireturn, 1) := by decide +kernel
theorem dX6_marble_13 : decode cX6_marble 13 = .ok (.iload_n 2, 1) := by decide +kernel
theorem dX6_marble_14 : decode cX6_marble 14 = .ok (.tableswitch 62 0 3 #[30, 40, 50, 56], 30) := by decide +kernel
theorem dX6_marble_44 : decode cX6_marble 44 = .ok (.aload_n 0, 1) := by decide +kernel
theorem dX6_marble_45 : decode cX6_marble 45 = .ok (.getfield 16, 3) := by decide +kernel
theorem dX6_marble_48 : decode cX6_marble 48 = .ok (.getfield 122, 3) := by decide +kernel
theorem dX6_marble_51 : decode cX6_marble 51 = .ok (.iload_n 1, 1) := by decide +kernel
theorem dX6_marble_52 : decode cX6_marble 52 = .ok (.iaload, 1) := by decide +kernel
theorem dX6_marble_53 : decode cX6_marble 53 = .ok (.ireturn, 1) := by decide +kernel
theorem dX6_marble_54 : decode cX6_marble 54 = .ok (.aload_n 0, 1) := by decide +kernel
theorem dX6_marble_55 : decode cX6_marble 55 = .ok (.getfield 26, 3) := by decide +kernel
theorem dX6_marble_58 : decode cX6_marble 58 = .ok (.getfield 125, 3) := by decide +kernel
theorem dX6_marble_61 : decode cX6_marble 61 = .ok (.iload_n 1, 1) := by decide +kernel
theorem dX6_marble_62 : decode cX6_marble 62 = .ok (.iaload, 1) := by decide +kernel
theorem dX6_marble_63 : decode cX6_marble 63 = .ok (.ireturn, 1) := by decide +kernel
theorem dX6_marble_64 : decode cX6_marble 64 = .ok (.aload_n 0, 1) := by decide +kernel
theorem dX6_marble_65 : decode cX6_marble 65 = .ok (.iload_n 1, 1) := by decide +kernel
theorem dX6_marble_66 : decode cX6_marble 66 = .ok (.invokevirtual 128, 3) := by decide +kernel
theorem dX6_marble_69 : decode cX6_marble 69 = .ok (.ireturn, 1) := by decide +kernel
theorem dX6_marble_70 : decode cX6_marble 70 = .ok (.aload_n 0, 1) := by decide +kernel
theorem dX6_marble_71 : decode cX6_marble 71 = .ok (.iload_n 1, 1) := by decide +kernel
theorem dX6_marble_72 : decode cX6_marble 72 = .ok (.invokevirtual 131, 3) := by decide +kernel
theorem dX6_marble_75 : decode cX6_marble 75 = .ok (.ireturn, 1) := by decide +kernel
theorem dX6_marble_76 : decode cX6_marble 76 = .ok (.bipush (-2), 2) := by decide +kernel
theorem dX6_marble_78 : decode cX6_marble 78 = .ok (.ireturn, 1) := by decide +kernel
set_option maxRecDepth 20000 in
theorem ggX6_tilt_X6_isWay : GoodIn wsX6_tilt wsX6_isWay := goodIn_r _ [8] (by decide +kernel) (by decide +kernel)
set_option maxRecDepth 20000 in
theorem gX6_tilt_X6_isWay : GoodIn wsX6_tilt (va_wsS RX6 134 yX6_isWay wsX6_isWay) := goodIn_app (goodIn_of _ (by decide +kernel)) ggX6_tilt_X6_isWay
set_option maxRecDepth 20000 in
theorem ggX6_tilt_X0_remember : GoodIn wsX6_tilt wsX0_remember := goodIn_r _ [13, 14, 15, 16, 17, 18, 19, 20, 21, 22, 23, 24, 25, 26, 105, 106, 107, 100, 101, 102, 103, 104] (by decide +kernel) (by decide +kernel)
set_option maxRecDepth 20000 in
theorem gX6_tilt_X0_remember : GoodIn wsX6_tilt (wsV RX6 137 RX0 yX0_remember wsX0_remember) := goodIn_app (goodIn_of _ (by decide +kernel)) ggX6_tilt_X0_remember
set_option maxRecDepth 20000 in
theorem ggX6_tilt_X4_fallen : GoodIn wsX6_tilt wsX4_fallen := goodIn_r _ [30, 31, 32, 33, 20, 34, 35, 36, 37, 38, 22, 100, 101, 102, 103, 104] (by decide +kernel) (by decide +kernel)
set_option maxRecDepth 20000 in
theorem gX6_tilt_X4_fallen : GoodIn wsX6_tilt (wsV RX6 141 RX4 yX4_fallen wsX4_fallen) := goodIn_app (goodIn_of _ (by decide +kernel)) ggX6_tilt_X4_fallen
set_option maxRecDepth 20000 in
theorem ggX6_tilt_X5_roll : GoodIn wsX6_tilt wsX5_roll := goodIn_r _ [43, 44, 45, 46, 47, 48, 42, 49, 50, 51, 52, 7, 53, 54, 55, 56, 57, 58, 59, 60, 61, 62, 63, 64, 65, 66, 67, 68, 69, 70, 71, 72, 73, 74, 75, 76, 20, 77, 23, 22, 24, 78, 79, 80, 81, 82, 83, 84, 85, 108, 109, 110, 111, 112, 100, 101, 102, 103, 104] (by decide +kernel) (by decide +kernel)
set_option maxRecDepth 20000 in
theorem gX6_tilt_X5_roll : GoodIn wsX6_tilt (wsV RX6 144 RX5 yX5_roll wsX5_roll) := goodIn_app (goodIn_of _ (by decide +kernel)) ggX6_tilt_X5_roll
theorem dX6_tilt_0 : decode cX6_tilt 0 = .ok (.iload_n 1, 1) := by decide +kernel
theorem dX6_tilt_1 : decode cX6_tilt 1 = .ok (.invokestatic 134, 3) := by decide +kernel
theorem dX6_tilt_4 : decode cX6_tilt 4 = .ok (.ifCond .ne 6, 3) := by decide +kernel
theorem dX6_tilt_7 : decode cX6_tilt 7 = .ok (.bipush (-2), 2) := by decide +kernel
theorem dX6_tilt_9 : decode cX6_tilt 9 = .ok (.ireturn, 1) := by decide +kernel
theorem dX6_tilt_10 : decode cX6_tilt 10 = .ok (.aload_n 0, 1) := by decide +kernel
theorem dX6_tilt_11 : decode cX6_tilt 11 = .ok (.getfield 36, 3) := by decide +kernel
theorem dX6_tilt_14 : decode cX6_tilt 14 = .ok (.aload_n 0, 1) := by decide +kernel
theorem dX6_tilt_15 : decode cX6_tilt 15 = .ok (.getfield 26, 3) := by decide +kernel
theorem dX6_tilt_18 : decode cX6_tilt 18 = .ok (.invokevirtual 137, 3) := by decide +kernel
theorem dX6_tilt_21 : decode cX6_tilt 21 = .ok (.aload_n 0, 1) := by decide +kernel
theorem dX6_tilt_22 : decode cX6_tilt 22 = .ok (.getfield 26, 3) := by decide +kernel
theorem dX6_tilt_25 : decode cX6_tilt 25 = .ok (.invokevirtual 141, 3) := by decide +kernel
theorem dX6_tilt_28 : decode cX6_tilt 28 = .ok (.istore_n 2, 1) := by decide +kernel
theorem dX6_tilt_29 : decode cX6_tilt 29 = .ok (.aload_n 0, 1) := by decide +kernel
theorem dX6_tilt_30 : decode cX6_tilt 30 = .ok (.getfield 16, 3) := by decide +kernel
theorem dX6_tilt_33 : decode cX6_tilt 33 = .ok (.aload_n 0, 1) := by decide +kernel
theorem dX6_tilt_34 : decode cX6_tilt 34 = .ok (.getfield 26, 3) := by decide +kernel
theorem dX6_tilt_37 : decode cX6_tilt 37 = .ok (.iload_n 1, 1) := by decide +kernel
theorem dX6_tilt_38 : decode cX6_tilt 38 = .ok (.invokevirtual 144, 3) := by decide +kernel
theorem dX6_tilt_41 : decode cX6_tilt 41 = .ok (.aload_n 0, 1) := by decide +kernel
theorem dX6_tilt_42 : decode cX6_tilt 42 = .ok (.getfield 26, 3) := by decide +kernel
theorem dX6_tilt_45 : decode cX6_tilt 45 = .ok (.dup, 1) := by decide +kernel
theorem dX6_tilt_46 : decode cX6_tilt 46 = .ok (.getfield 148, 3) := by decide +kernel
theorem dX6_tilt_49 : decode cX6_tilt 49 = .ok (.iconst 1, 1) := by decide +kernel
theorem dX6_tilt_50 : decode cX6_tilt 50 = .ok (.iadd, 1) := by decide +kernel
theorem dX6_tilt_51 : decode cX6_tilt 51 = .ok (.putfield 148, 3) := by decide +kernel
theorem dX6_tilt_54 : decode cX6_tilt 54 = .ok (.aload_n 0, 1) := by decide +kernel
theorem dX6_tilt_55 : decode cX6_tilt 55 = .ok (.getfield 26, 3) := by decide +kernel
theorem dX6_tilt_58 : decode cX6_tilt 58 = .ok (.invokevirtual 141, 3) := by decide +kernel
theorem dX6_tilt_61 : decode cX6_tilt 61 = .ok (.iload_n 2, 1) := by decide +kernel
theorem dX6_tilt_62 : decode cX6_tilt 62 = .ok (.isub, 1) := by decide +kernel
theorem dX6_tilt_63 : decode cX6_tilt 63 = .ok (.ireturn, 1) := by decide +kernel
set_option maxRecDepth 20000 in
theorem ggX6_lift_X5_has : GoodIn wsX6_lift wsX5_has := goodIn_r _ [9, 10, 70, 71, 72, 73, 74] (by decide +kernel) (by decide +kernel)
set_option maxRecDepth 20000 in
theorem gX6_lift_X5_has : GoodIn wsX6_lift (wsV RX6 119 RX5 yX5_has wsX5_has) := goodIn_app (goodIn_of _ (by decide +kernel)) ggX6_lift_X5_has
set_option maxRecDepth 20000 in
theorem ggX6_lift_X6_isCell : GoodIn wsX6_lift wsX6_isCell := goodIn_r _ [14] (by decide +kernel) (by decide +kernel)
set_option maxRecDepth 20000 in
theorem gX6_lift_X6_isCell : GoodIn wsX6_lift (va_wsS RX6 99 yX6_isCell wsX6_isCell) := goodIn_app (goodIn_of _ (by decide +kernel)) ggX6_lift_X6_isCell
set_option maxRecDepth 20000 in
theorem ggX6_lift_X5_canBe : GoodIn wsX6_lift wsX5_canBe := goodIn_r _ [18, 19, 20, 21, 22, 13, 23, 70, 71, 72, 73, 74, 65, 66, 67, 68, 69] (by decide +kernel) (by decide +kernel)
set_option maxRecDepth 20000 in
theorem gX6_lift_X5_canBe : GoodIn wsX6_lift (wsV RX6 151 RX5 yX5_canBe wsX5_canBe) := goodIn_app (goodIn_of _ (by decide +kernel)) ggX6_lift_X5_canBe
set_option maxRecDepth 20000 in
theorem ggX6_lift_X5_isOpenHole : GoodIn wsX6_lift wsX5_isOpenHole := goodIn_r _ [27, 19, 28, 22, 13, 23, 70, 71, 72, 73, 74, 65, 66, 67, 68, 69] (by decide +kernel) (by decide +kernel)
set_option maxRecDepth 20000 in
theorem gX6_lift_X5_isOpenHole : GoodIn wsX6_lift (wsV RX6 155 RX5 yX5_isOpenHole wsX5_isOpenHole) := goodIn_app (goodIn_of _ (by decide +kernel)) ggX6_lift_X5_isOpenHole
set_option maxRecDepth 20000 in
theorem ggX6_lift_X0_remember : GoodIn wsX6_lift wsX0_remember := goodIn_r _ [33, 34, 35, 36, 37, 38, 39, 40, 41, 42, 43, 44, 45, 46, 75, 76, 77, 65, 66, 67, 68, 69] (by decide +kernel) (by decide +kernel)
set_option maxRecDepth 20000 in
theorem gX6_lift_X0_remember : GoodIn wsX6_lift (wsV RX6 137 RX0 yX0_remember wsX0_remember) := goodIn_app (goodIn_of _ (by decide +kernel)) ggX6_lift_X0_remember
set_option maxRecDepth 20000 in
theorem ggX6_lift_X4_put : GoodIn wsX6_lift wsX4_put := goodIn_r _ [50, 42, 44, 43, 65, 66, 67, 68, 69] (by decide +kernel) (by decide +kernel)
set_option maxRecDepth 20000 in
theorem gX6_lift_X4_put : GoodIn wsX6_lift (wsV RX6 158 RX4 yX4_put wsX4_put) := goodIn_app (goodIn_of _ (by decide +kernel)) ggX6_lift_X4_put
theorem dX6_lift_0 : decode cX6_lift 0 = .ok (.aload_n 0, 1) := by decide +kernel
theorem dX6_lift_1 : decode cX6_lift 1 = .ok (.getfield 16, 3) := by decide +kernel
theorem dX6_lift_4 : decode cX6_lift 4 = .ok (.iload_n 1, 1) := by decide +kernel
theorem dX6_lift_5 : decode cX6_lift 5 = .ok (.invokevirtual 119, 3) := by decide +kernel
theorem dX6_lift_8 : decode cX6_lift 8 = .ok (.ifCond .eq 10, 3) := by decide +kernel
theorem dX6_lift_11 : decode cX6_lift 11 = .ok (.iload_n 2, 1) := by decide +kernel
theorem dX6_lift_12 : decode cX6_lift 12 = .ok (.invokestatic 99, 3) := by decide +kernel
theorem dX6_lift_15 : decode cX6_lift 15 = .ok (.ifCond .ne 5, 3) := by decide +kernel
theorem dX6_lift_18 : decode cX6_lift 18 = .ok (.iconst (-1), 1) := by decide +kernel
theorem dX6_lift_19 : decode cX6_lift 19 = .ok (.ireturn, 1) := by decide +kernel
theorem dX6_lift_20 : decode cX6_lift 20 = .ok (.aload_n 0, 1) := by decide +kernel
theorem dX6_lift_21 : decode cX6_lift 21 = .ok (.getfield 26, 3) := by decide +kernel
theorem dX6_lift_24 : decode cX6_lift 24 = .ok (.getfield 125, 3) := by decide +kernel
theorem dX6_lift_27 : decode cX6_lift 27 = .ok (.iload_n 1, 1) := by decide +kernel
theorem dX6_lift_28 : decode cX6_lift 28 = .ok (.iaload, 1) := by decide +kernel
theorem dX6_lift_29 : decode cX6_lift 29 = .ok (.istore_n 3, 1) := by decide +kernel
theorem dX6_lift_30 : decode cX6_lift 30 = .ok (.iload_n 3, 1) := by decide +kernel
theorem dX6_lift_31 : decode cX6_lift 31 = .ok (.iload_n 2, 1) := by decide +kernel
theorem dX6_lift_32 : decode cX6_lift 32 = .ok (.if_icmp .eq 41, 3) := by decide +kernel
theorem dX6_lift_35 : decode cX6_lift 35 = .ok (.iload_n 3, 1) := by decide +kernel
theorem dX6_lift_36 : decode cX6_lift 36 = .ok (.bipush 100, 2) := by decide +kernel
theorem dX6_lift_38 : decode cX6_lift 38 = .ok (.iload_n 2, 1) := by decide +kernel
theorem dX6_lift_39 : decode cX6_lift 39 = .ok (.iadd, 1) := by decide +kernel
theorem dX6_lift_40 : decode cX6_lift 40 = .ok (.if_icmp .eq 33, 3) := by decide +kernel
theorem dX6_lift_43 : decode cX6_lift 43 = .ok (.aload_n 0, 1) := by decide +kernel
theorem dX6_lift_44 : decode cX6_lift 44 = .ok (.getfield 16, 3) := by decide +kernel
theorem dX6_lift_47 : decode cX6_lift 47 = .ok (.aload_n 0, 1) := by decide +kernel
theorem dX6_lift_48 : decode cX6_lift 48 = .ok (.getfield 26, 3) := by decide +kernel
theorem dX6_lift_51 : decode cX6_lift 51 = .ok (.iload_n 2, 1) := by decide +kernel
theorem dX6_lift_52 : decode cX6_lift 52 = .ok (.invokevirtual 151, 3) := by decide +kernel
theorem dX6_lift_55 : decode cX6_lift 55 = .ok (.ifCond .eq 18, 3) := by decide +kernel
theorem dX6_lift_58 : decode cX6_lift 58 = .ok (.aload_n 0, 1) := by decide +kernel
theorem dX6_lift_59 : decode cX6_lift 59 = .ok (.getfield 16, 3) := by decide +kernel
theorem dX6_lift_62 : decode cX6_lift 62 = .ok (.aload_n 0, 1) := by decide +kernel
theorem dX6_lift_63 : decode cX6_lift 63 = .ok (.getfield 26, 3) := by decide +kernel
