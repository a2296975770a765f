set_option maxRecDepth 20000 in
theorem ggX7_alone_X7_has : GoodIn wsX7_alone wsX7_has := goodIn_r _ [8] (by decide +kernel) (by decide +kernel)
set_option maxRecDepth 20000 in
theorem gX7_alone_X7_has : GoodIn wsX7_alone (va_wsS RX7 82 yX7_has wsX7_has) := goodIn_app (goodIn_of _ (by decide +kernel)) ggX7_alone_X7_has
theorem dX7_alone_0 : decode cX7_alone 0 = .ok (.iload_n 1, 1) := by decide +kernel
theorem dX7_alone_1 : decode cX7_alone 1 = .ok (.istore 4, 2) := by decide +kernel
theorem dX7_alone_3 : decode cX7_alone 3 = .ok (.iload 4, 2) := by decide +kernel
theorem dX7_alone_5 : decode cX7_alone 5 = .ok (.iload_n 2, 1) := by decide +kernel
theorem dX7_alone_6 : decode cX7_alone 6 = .ok (.invokestatic 98, 3) := by decide +kernel
theorem dX7_alone_9 : decode cX7_alone 9 = .ok (.istore 5, 2) := by decide +kernel
theorem dX7_alone_11 : decode cX7_alone 11 = .ok (.iload 5, 2) := by decide +kernel
theorem dX7_alone_13 : decode cX7_alone 13 = .ok (.bipush (-9), 2) := by decide +kernel
theorem dX7_alone_15 : decode cX7_alone 15 = .ok (.if_icmp .eq 62, 3) := by decide +kernel
theorem dX7_alone_18 : decode cX7_alone 18 = .ok (.iload 5, 2) := by decide +kernel
theorem dX7_alone_20 : decode cX7_alone 20 = .ok (.iload_n 3, 1) := by decide +kernel
theorem dX7_alone_21 : decode cX7_alone 21 = .ok (.if_icmp .eq 56, 3) := by decide +kernel
theorem dX7_alone_24 : decode cX7_alone 24 = .ok (.aload_n 0, 1) := by decide +kernel
theorem dX7_alone_25 : decode cX7_alone 25 = .ok (.getfield 13, 3) := by decide +kernel
theorem dX7_alone_28 : decode cX7_alone 28 = .ok (.iconst 0, 1) := by decide +kernel
theorem dX7_alone_29 : decode cX7_alone 29 = .ok (.iaload, 1) := by decide +kernel
theorem dX7_alone_30 : decode cX7_alone 30 = .ok (.aload_n 0, 1) := by decide +kernel
theorem dX7_alone_31 : decode cX7_alone 31 = .ok (.getfield 13, 3) := by decide +kernel
theorem dX7_alone_34 : decode cX7_alone 34 = .ok (.iconst 3, 1) := by decide +kernel
theorem dX7_alone_35 : decode cX7_alone 35 = .ok (.iaload, 1) := by decide +kernel
theorem dX7_alone_36 : decode cX7_alone 36 = .ok (.ior, 1) := by decide +kernel
theorem dX7_alone_37 : decode cX7_alone 37 = .ok (.iload 5, 2) := by decide +kernel
theorem dX7_alone_39 : decode cX7_alone 39 = .ok (.invokestatic 82, 3) := by decide +kernel
theorem dX7_alone_42 : decode cX7_alone 42 = .ok (.ifCond .ne 35, 3) := by decide +kernel
theorem dX7_alone_45 : decode cX7_alone 45 = .ok (.iload 5, 2) := by decide +kernel
theorem dX7_alone_47 : decode cX7_alone 47 = .ok (.istore 4, 2) := by decide +kernel
theorem dX7_alone_49 : decode cX7_alone 49 = .ok (.aload_n 0, 1) := by decide +kernel
theorem dX7_alone_50 : decode cX7_alone 50 = .ok (.getfield 13, 3) := by decide +kernel
theorem dX7_alone_53 : decode cX7_alone 53 = .ok (.iconst 1, 1) := by decide +kernel
theorem dX7_alone_54 : decode cX7_alone 54 = .ok (.iaload, 1) := by decide +kernel
theorem dX7_alone_55 : decode cX7_alone 55 = .ok (.iload 4, 2) := by decide +kernel
theorem dX7_alone_57 : decode cX7_alone 57 = .ok (.invokestatic 82, 3) := by decide +kernel
theorem dX7_alone_60 : decode cX7_alone 60 = .ok (.ifCond .eq 6, 3) := by decide +kernel
theorem dX7_alone_63 : decode cX7_alone 63 = .ok (.bipush 25, 2) := by decide +kernel
theorem dX7_alone_65 : decode cX7_alone 65 = .ok (.ireturn, 1) := by decide +kernel
theorem dX7_alone_66 : decode cX7_alone 66 = .ok (.iload 4, 2) := by decide +kernel
theorem dX7_alone_68 : decode cX7_alone 68 = .ok (.iload_n 2, 1) := by decide +kernel
theorem dX7_alone_69 : decode cX7_alone 69 = .ok (.invokestatic 98, 3) := by decide +kernel
theorem dX7_alone_72 : decode cX7_alone 72 = .ok (.istore 5, 2) := by decide +kernel
theorem dX7_alone_74 : decode cX7_alone 74 = .ok (.goto (-63), 3) := by decide +kernel
theorem dX7_alone_77 : decode cX7_alone 77 = .ok (.iload 4, 2) := by decide +kernel
theorem dX7_alone_79 : decode cX7_alone 79 = .ok (.ireturn, 1) := by decide +kernel
set_option maxRecDepth 20000 in
theorem ggX7_hidden_X7_has : GoodIn wsX7_hidden wsX7_has := goodIn_r _ [9] (by decide +kernel) (by decide +kernel)
set_option maxRecDepth 20000 in
theorem gX7_hidden_X7_has : GoodIn wsX7_hidden (va_wsS RX7 82 yX7_has wsX7_has) := goodIn_app (goodIn_of _ (by decide +kernel)) ggX7_hidden_X7_has
set_option maxRecDepth 20000 in
theorem ggX7_hidden_X7_alone : GoodIn wsX7_hidden wsX7_alone := goodIn_r _ [13, 1, 14, 15, 8, 16, 6, 7, 9, 17, 18, 19, 20, 21, 22, 23, 24, 25, 26, 27, 28, 29, 30, 31, 32, 33, 34, 35, 36, 37, 38, 39, 40] (by decide +kernel) (by decide +kernel)
set_option maxRecDepth 20000 in
theorem gX7_hidden_X7_alone : GoodIn wsX7_hidden (wsV RX7 188 RX7 yX7_alone wsX7_alone) := goodIn_app (goodIn_of _ (by decide +kernel)) ggX7_hidden_X7_alone
theorem dX7_hidden_0 : decode cX7_hidden 0 = .ok (.aload_n 0, 1) := by decide +kernel
theorem dX7_hidden_1 : decode cX7_hidden 1 = .ok (.getfield 13, 3) := by decide +kernel
theorem dX7_hidden_4 : decode cX7_hidden 4 = .ok (.iconst 0, 1) := by decide +kernel
theorem dX7_hidden_5 : decode cX7_hidden 5 = .ok (.iaload, 1) := by decide +kernel
theorem dX7_hidden_6 : decode cX7_hidden 6 = .ok (.aload_n 0, 1) := by decide +kernel
theorem dX7_hidden_7 : decode cX7_hidden 7 = .ok (.getfield 13, 3) := by decide +kernel
theorem dX7_hidden_10 : decode cX7_hidden 10 = .ok (.iconst 1, 1) := by decide +kernel
theorem dX7_hidden_11 : decode cX7_hidden 11 = .ok (.iaload, 1) := by decide +kernel
theorem dX7_hidden_12 : decode cX7_hidden 12 = .ok (.ior, 1) := by decide +kernel
theorem dX7_hidden_13 : decode cX7_hidden 13 = .ok (.aload_n 0, 1) := by decide +kernel
theorem dX7_hidden_14 : decode cX7_hidden 14 = .ok (.getfield 13, 3) := by decide +kernel
theorem dX7_hidden_17 : decode cX7_hidden 17 = .ok (.iconst 2, 1) := by decide +kernel
theorem dX7_hidden_18 : decode cX7_hidden 18 = .ok (.iaload, 1) := by decide +kernel
theorem dX7_hidden_19 : decode cX7_hidden 19 = .ok (.ior, 1) := by decide +kernel
theorem dX7_hidden_20 : decode cX7_hidden 20 = .ok (.aload_n 0, 1) := by decide +kernel
theorem dX7_hidden_21 : decode cX7_hidden 21 = .ok (.getfield 13, 3) := by decide +kernel
theorem dX7_hidden_24 : decode cX7_hidden 24 = .ok (.iconst 3, 1) := by decide +kernel
theorem dX7_hidden_25 : decode cX7_hidden 25 = .ok (.iaload, 1) := by decide +kernel
theorem dX7_hidden_26 : decode cX7_hidden 26 = .ok (.ior, 1) := by decide +kernel
theorem dX7_hidden_27 : decode cX7_hidden 27 = .ok (.istore_n 1, 1) := by decide +kernel
theorem dX7_hidden_28 : decode cX7_hidden 28 = .ok (.iconst 0, 1) := by decide +kernel
theorem dX7_hidden_29 : decode cX7_hidden 29 = .ok (.istore_n 2, 1) := by decide +kernel
theorem dX7_hidden_30 : decode cX7_hidden 30 = .ok (.iconst 0, 1) := by decide +kernel
theorem dX7_hidden_31 : decode cX7_hidden 31 = .ok (.istore_n 3, 1) := by decide +kernel
theorem dX7_hidden_32 : decode cX7_hidden 32 = .ok (.iload_n 3, 1) := by decide +kernel
theorem dX7_hidden_33 : decode cX7_hidden 33 = .ok (.bipush 25, 2) := by decide +kernel
theorem dX7_hidden_35 : decode cX7_hidden 35 = .ok (.if_icmp .ge 136, 3) := by decide +kernel
theorem dX7_hidden_38 : decode cX7_hidden 38 = .ok (.iload_n 1, 1) := by decide +kernel
theorem dX7_hidden_39 : decode cX7_hidden 39 = .ok (.iload_n 3, 1) := by decide +kernel
theorem dX7_hidden_40 : decode cX7_hidden 40 = .ok (.invokestatic 82, 3) := by decide +kernel
theorem dX7_hidden_43 : decode cX7_hidden 43 = .ok (.ifCond .ne 7, 3) := by decide +kernel
theorem dX7_hidden_46 : decode cX7_hidden 46 = .ok (.iconst 1, 1) := by decide +kernel
theorem dX7_hidden_47 : decode cX7_hidden 47 = .ok (.goto 4, 3) := by decide +kernel
theorem dX7_hidden_50 : decode cX7_hidden 50 = .ok (.iconst 0, 1) := by decide +kernel
theorem dX7_hidden_51 : decode cX7_hidden 51 = .ok (.istore 4, 2) := by decide +kernel
theorem dX7_hidden_53 : decode cX7_hidden 53 = .ok (.iconst 0, 1) := by decide +kernel
theorem dX7_hidden_54 : decode cX7_hidden 54 = .ok (.istore 5, 2) := by decide +kernel
theorem dX7_hidden_56 : decode cX7_hidden 56 = .ok (.iload 5, 2) := by decide +kernel
theorem dX7_hidden_58 : decode cX7_hidden 58 = .ok (.aload_n 0, 1) := by decide +kernel
theorem dX7_hidden_59 : decode cX7_hidden 59 = .ok (.getfield 185, 3) := by decide +kernel
theorem dX7_hidden_62 : decode cX7_hidden 62 = .ok (.if_icmp .ge 88, 3) := by decide +kernel
theorem dX7_hidden_65 : decode cX7_hidden 65 = .ok (.iload 4, 2) := by decide +kernel
theorem dX7_hidden_67 : decode cX7_hidden 67 = .ok (.ifCond .eq 83, 3) := by decide +kernel
theorem dX7_hidden_70 : decode cX7_hidden 70 = .ok (.aload_n 0, 1) := by decide +kernel
theorem dX7_hidden_71 : decode cX7_hidden 71 = .ok (.getfield 38, 3) := by decide +kernel
theorem dX7_hidden_74 : decode cX7_hidden 74 = .ok (.iload 5, 2) := by decide +kernel
theorem dX7_hidden_76 : decode cX7_hidden 76 = .ok (.iaload, 1) := by decide +kernel
theorem dX7_hidden_77 : decode cX7_hidden 77 = .ok (.istore 6, 2) := by decide +kernel
theorem dX7_hidden_79 : decode cX7_hidden 79 = .ok (.iload 6, 2) := by decide +kernel
theorem dX7_hidden_81 : decode cX7_hidden 81 = .ok (.iload_n 3, 1) := by decide +kernel
theorem dX7_hidden_82 : decode cX7_hidden 82 = .ok (.if_icmp .eq 59, 3) := by decide +kernel
theorem dX7_hidden_85 : decode cX7_hidden 85 = .ok (.aload_n 0, 1) := by decide +kernel
theorem dX7_hidden_86 : decode cX7_hidden 86 = .ok (.getfield 13, 3) := by decide +kernel
theorem dX7_hidden_89 : decode cX7_hidden 89 = .ok (.iconst 0, 1) := by decide +kernel
theorem dX7_hidden_90 : decode cX7_hidden 90 = .ok (.iaload, 1) := by decide +kernel
theorem dX7_hidden_91 : decode cX7_hidden 91 = .ok (.aload_n 0, 1) := by decide +kernel
theorem dX7_hidden_92 : decode cX7_hidden 92 = .ok (.getfield 13, 3) := by decide +kernel
theorem dX7_hidden_95 : decode cX7_hidden 95 = .ok (.iconst 1, 1) := by decide +kernel
theorem dX7_hidden_96 : decode cX7_hidden 96 = .ok (.iaload, 1) := by decide +kernel
theorem dX7_hidden_97 : decode cX7_hidden 97 = .ok (.ior, 1) := by decide +kernel
theorem dX7_hidden_98 : decode cX7_hidden 98 = .ok (.aload_n 0, 1) := by decide +kernel
theorem dX7_hidden_99 : decode cX7_hidden 99 = .ok (.getfield 13, 3) := by decide +kernel
theorem dX7_hidden_102 : decode cX7_hidden 102 = .ok (.iconst 3, 1) := by decide +kernel
theorem dX7_hidden_103 : decode cX7_hidden 103 = .ok (.iaload, 1) := by decide +kernel
theorem dX7_hidden_104 : decode cX7_hidden 104 = .ok (.ior, 1) := by decide +kernel
theorem dX7_hidden_105 : decode cX7_hidden 105 = .ok (.iload 6, 2) := by decide +kernel
theorem dX7_hidden_107 : decode cX7_hidden 107 = .ok (.invokestatic 82, 3) := by decide +kernel
theorem dX7_hidden_110 : decode cX7_hidden 110 = .ok (.ifCond .ne 31, 3) := by decide +kernel
theorem dX7_hidden_113 : decode cX7_hidden 113 = .ok (.aload_n 0, 1) := by decide +kernel
theorem dX7_hidden_114 : decode cX7_hidden 114 = .ok (.iload 6, 2) := by decide +kernel
theorem dX7_hidden_116 : decode cX7_hidden 116 = .ok (.aload_n 0, 1) := by decide +kernel
theorem dX7_hidden_117 : decode cX7_hidden 117 = .ok (.getfield 41, 3) := by decide +kernel
theorem dX7_hidden_120 : decode cX7_hidden 120 = .ok (.iload 5, 2) := by decide +kernel
theorem dX7_hidden_122 : decode cX7_hidden 122 = .ok (.iaload, 1) := by decide +kernel
theorem dX7_hidden_123 : decode cX7_hidden 123 = .ok (.iload_n 3, 1) := by decide +kernel
theorem dX7_hidden_124 : decode cX7_hidden 124 = .ok (.invokevirtual 188, 3) := by decide +kernel
theorem dX7_hidden_127 : decode cX7_hidden 127 = .ok (.aload_n 0, 1) := by decide +kernel
theorem dX7_hidden_128 : decode cX7_hidden 128 = .ok (.getfield 44, 3) := by decide +kernel
theorem dX7_hidden_131 : decode cX7_hidden 131 = .ok (.iload 5, 2) := by decide +kernel
theorem dX7_hidden_133 : decode cX7_hidden 133 = .ok (.iaload, 1) := by decide +kernel
theorem dX7_hidden_134 : decode cX7_hidden 134 = .ok (.if_icmp .ne 7, 3) := by decide +kernel
theorem dX7_hidden_137 : decode cX7_hidden 137 = .ok (.iconst 1, 1) := by decide +kernel
theorem dX7_hidden_138 : decode cX7_hidden 138 = .ok (.goto 4, 3) := by decide +kernel
theorem dX7_hidden_141 : decode cX7_hidden 141 = .ok (.iconst 0, 1) := by decide +kernel
theorem dX7_hidden_142 : decode cX7_hidden 142 = .ok (.istore 4, 2) := by decide +kernel
theorem dX7_hidden_144 : decode cX7_hidden 144 = .ok (.iinc 5 1, 3) := by decide +kernel
theorem dX7_hidden_147 : decode cX7_hidden 147 = .ok (.goto (-91), 3) := by decide +kernel
theorem dX7_hidden_150 : decode cX7_hidden 150 = .ok (.iload_n 2, 1) := by decide +kernel
theorem dX7_hidden_151 : decode cX7_hidden 151 = .ok (.iload 4, 2) := by decide +kernel
theorem dX7_hidden_153 : decode cX7_hidden 153 = .ok (.ifCond .eq 9, 3) := by decide +kernel
theorem dX7_hidden_156 : decode cX7_hidden 156 = .ok (.iconst 1, 1) := by decide +kernel
theorem dX7_hidden_157 : decode cX7_hidden 157 = .ok (.iload_n 3, 1) := by decide +kernel
theorem dX7_hidden_158 : decode cX7_hidden 158 = .ok (.ishl, 1) := by decide +kernel
theorem dX7_hidden_159 : decode cX7_hidden 159 = .ok (.goto 4, 3) := by decide +kernel
theorem dX7_hidden_162 : decode cX7_hidden 162 = .ok (.iconst 0, 1) := by decide +kernel
theorem dX7_hidden_163 : decode cX7_hidden 163 = .ok (.ior, 1) := by decide +kernel
theorem dX7_hidden_164 : decode cX7_hidden 164 = .ok (.istore_n 2, 1) := by decide +kernel
theorem dX7_hidden_165 : decode cX7_hidden 165 = .ok (.iinc 3 1, 3) := by decide +kernel
theorem dX7_hidden_168 : decode cX7_hidden 168 = .ok (.goto (-136), 3) := by decide +kernel
theorem dX7_hidden_171 : decode cX7_hidden 171 = .ok (.iload_n 2, 1) := by decide +kernel
theorem dX7_hidden_172 : decode cX7_hidden 172 = .ok (.ireturn, 1) := by decide +kernel
theorem dX7_factorial_0 : decode cX7_factorial 0 = .ok (.iconst 1, 1) := by decide +kernel
theorem dX7_factorial_1 : decode cX7_factorial 1 = .ok (.istore_n 1, 1) := by decide +kernel
theorem dX7_factorial_2 : decode cX7_factorial 2 = .ok (.iconst 2, 1) := by decide +kernel
theorem dX7_factorial_3 : decode cX7_factorial 3 = .ok (.istore_n 2, 1) := by decide +kernel
theorem dX7_factorial_4 : decode cX7_factorial 4 = .ok (.iload_n 2, 1) := by decide +kernel
theorem dX7_factorial_5 : decode cX7_factorial 5 = .ok (.iload_n 0, 1) := by decide +kernel
theorem dX7_factorial_6 : decode cX7_factorial 6 = .ok (.if_icmp .gt 13, 3) := by decide +kernel
theorem dX7_factorial_9 : decode cX7_factorial 9 = .ok (.iload_n 1, 1) := by decide +kernel
theorem dX7_factorial_10 : decode cX7_factorial 10 = .ok (.iload_n 2, 1) := by decide +kernel
theorem dX7_factorial_11 : decode cX7_factorial 11 = .ok (.imul, 1) := by decide +kernel
theorem dX7_factorial_12 : decode cX7_factorial 12 = .ok (.istore_n 1, 1) := by decide +kernel
theorem dX7_factorial_13 : decode cX7_factorial 13 = .ok (.iinc 2 1, 3) := by decide +kernel
theorem dX7_factorial_16 : decode cX7_factorial 16 = .ok (.goto (-12), 3) := by decide +kernel
theorem dX7_factorial_19 : decode cX7_factorial 19 = .ok (.iload_n 1, 1) := by decide +kernel
theorem dX7_factorial_20 : decode cX7_factorial 20 = .ok (.ireturn, 1) := by decide +kernel
theorem dX7_common_0 : decode cX7_common 0 = .ok (.iload_n 0, 1) := by decide +kernel
theorem dX7_common_1 : decode cX7_common 1 = .ok (.ifCond .ge 8, 3) := by decide +kernel
theorem dX7_common_4 : decode cX7_common 4 = .ok (.iload_n 0, 1) := by decide +kernel
theorem dX7_common_5 : decode cX7_common 5 = .ok (.ineg, 1) := by decide +kernel
theorem dX7_common_6 : decode cX7_common 6 = .ok (.goto 4, 3) := by decide +kernel
theorem dX7_common_9 : decode cX7_common 9 = .ok (.iload_n 0, 1) := by decide +kernel
theorem dX7_common_10 : decode cX7_common 10 = .ok (.istore_n 2, 1) := by decide +kernel
theorem dX7_common_11 : decode cX7_common 11 = .ok (.iload_n 1, 1) := by decide +kernel
theorem dX7_common_12 : decode cX7_common 12 = .ok (.istore_n 3, 1) := by decide +kernel
theorem dX7_common_13 : decode cX7_common 13 = .ok (.iload_n 3, 1) := by decide +kernel
theorem dX7_common_14 : decode cX7_common 14 = .ok (.ifCond .eq 16, 3) := by decide +kernel
theorem dX7_common_17 : decode cX7_common 17 = .ok (.iload_n 2, 1) := by decide +kernel
theorem dX7_common_18 : decode cX7_common 18 = .ok (.iload_n 3, 1) := by decide +kernel
theorem dX7_common_19 : decode cX7_common 19 = .ok (.irem, 1) := by decide +kernel
theorem dX7_common_20 : decode cX7_common 20 = .ok (.istore 4, 2) := by decide +kernel
theorem dX7_common_22 : decode cX7_common 22 = .ok (.iload_n 3, 1) := by decide +kernel
theorem dX7_common_23 : decode cX7_common 23 = .ok (.istore_n 2, 1) := by decide +kernel
theorem dX7_common_24 : decode cX7_common 24 = .ok (.iload 4, 2) := by decide +kernel
theorem dX7_common_26 : decode cX7_common 26 = .ok (.istore_n 3, 1) := by decide +kernel
theorem dX7_common_27 : decode cX7_common 27 = .ok (.goto (-14), 3) := by decide +kernel
theorem dX7_common_30 : decode cX7_common 30 = .ok (.iload_n 2, 1) := by decide +kernel
theorem dX7_common_31 : decode cX7_common 31 = .ok (.ireturn, 1) := by decide +kernel
set_option maxRecDepth 20000 in
theorem ggX7_bestBy_X7_bestOf : GoodIn wsX7_bestBy wsX7_bestOf := goodIn_r _ [6, 7, 8, 9, 5, 10, 11, 12, 13, 14, 15, 16, 17, 18, 19, 20, 21, 22, 23, 24, 25, 26, 27, 28, 29, 30, 31, 32, 33, 1, 34, 35, 36, 37, 38, 39, 40, 41, 42, 43, 44, 45, 46, 47, 48, 49, 50, 51, 52, 53, 54, 55, 56, 57, 58, 59, 60, 61, 62, 63, 64, 65, 66, 67, 68, 69, 70, 71, 72, 73, 74, 75, 76, 77, 78, 79, 80, 81, 82, 83, 84, 85, 86, 87, 88] (by decide +kernel) (by decide +kernel)
set_option maxRecDepth 20000 in
theorem gX7_bestBy_X7_bestOf : GoodIn wsX7_bestBy (wsV RX7 168 RX7 yX7_bestOf wsX7_bestOf) := goodIn_app (goodIn_of _ (by decide +kernel)) ggX7_bestBy_X7_bestOf
theorem dX7_bestBy_0 : decode cX7_bestBy 0 = .ok (.aload_n 0, 1) := by decide +kernel
theorem dX7_bestBy_1 : decode cX7_bestBy 1 = .ok (.iload_n 1, 1) := by decide +kernel
theorem dX7_bestBy_2 : decode cX7_bestBy 2 = .ok (.putfield 31, 3) := by decide +kernel
theorem dX7_bestBy_5 : decode cX7_bestBy 5 = .ok (.aload_n 0, 1) := by decide +kernel
theorem dX7_bestBy_6 : decode cX7_bestBy 6 = .ok (.iconst 2, 1) := by decide +kernel
theorem dX7_bestBy_7 : decode cX7_bestBy 7 = .ok (.invokevirtual 168, 3) := by decide +kernel
theorem dX7_bestBy_10 : decode cX7_bestBy 10 = .ok (.istore_n 2, 1) := by decide +kernel
theorem dX7_bestBy_11 : decode cX7_bestBy 11 = .ok (.aload_n 0, 1) := by decide +kernel
theorem dX7_bestBy_12 : decode cX7_bestBy 12 = .ok (.bipush 15, 2) := by decide +kernel
theorem dX7_bestBy_14 : decode cX7_bestBy 14 = .ok (.putfield 31, 3) := by decide +kernel
theorem dX7_bestBy_17 : decode cX7_bestBy 17 = .ok (.iload_n 2, 1) := by decide +kernel
theorem dX7_bestBy_18 : decode cX7_bestBy 18 = .ok (.ireturn, 1) := by decide +kernel
set_option maxRecDepth 20000 in
theorem ggX7_share_X7_isMarble : GoodIn wsX7_share wsX7_isMarble := goodIn_r _ [6, 1, 7, 8, 5, 9, 85, 86, 87, 88, 89, 90, 91, 92, 93, 94, 95, 96, 97, 98, 99, 100, 101, 102, 103, 104, 105, 106, 107, 108] (by decide +kernel) (by decide +kernel)
set_option maxRecDepth 20000 in
theorem gX7_share_X7_isMarble : GoodIn wsX7_share (wsV RX7 137 RX7 yX7_isMarble wsX7_isMarble) := goodIn_app (goodIn_of _ (by decide +kernel)) ggX7_share_X7_isMarble
set_option maxRecDepth 20000 in
theorem ggX7_share_X7_has : GoodIn wsX7_share wsX7_has := goodIn_r _ [12] (by decide +kernel) (by decide +kernel)
set_option maxRecDepth 20000 in
theorem gX7_share_X7_has : GoodIn wsX7_share (va_wsS RX7 82 yX7_has wsX7_has) := goodIn_app (goodIn_of _ (by decide +kernel)) ggX7_share_X7_has
set_option maxRecDepth 20000 in
theorem ggX7_share_X7_ones : GoodIn wsX7_share wsX7_ones := goodIn_r _ [15] (by decide +kernel) (by decide +kernel)
set_option maxRecDepth 20000 in
theorem gX7_share_X7_ones : GoodIn wsX7_share (va_wsS RX7 63 yX7_ones wsX7_ones) := goodIn_app (goodIn_of _ (by decide +kernel)) ggX7_share_X7_ones
set_option maxRecDepth 20000 in
theorem ggX7_share_X7_factorial : GoodIn wsX7_share wsX7_factorial := goodIn_r _ [18] (by decide +kernel) (by decide +kernel)
set_option maxRecDepth 20000 in
theorem gX7_share_X7_factorial : GoodIn wsX7_share (va_wsS RX7 192 yX7_factorial wsX7_factorial) := goodIn_app (goodIn_of _ (by decide +kernel)) ggX7_share_X7_factorial
set_option maxRecDepth 20000 in
theorem ggX7_share_X7_bestBy : GoodIn wsX7_share wsX7_bestBy := goodIn_r _ [22, 23, 24, 25, 26, 5, 27, 28, 29, 30, 31, 32, 33, 34, 35, 36, 37, 38, 39, 40, 10, 11, 12, 41, 42, 43, 44, 45, 1, 46, 47, 48, 49, 50, 51, 52, 53, 54, 55, 56, 57, 58, 59, 60, 61, 62, 63, 64, 65, 66, 67, 68, 69, 70, 71, 72, 73, 74, 75, 76, 77, 78, 79, 80, 81, 85, 86, 87, 88, 89, 90, 91, 92, 93, 94, 95, 96, 97, 98, 99, 100, 101, 102, 103, 104, 105, 106, 107, 108] (by decide +kernel) (by decide +kernel)
set_option maxRecDepth 20000 in
theorem gX7_share_X7_bestBy : GoodIn wsX7_share (wsV RX7 195 RX7 yX7_bestBy wsX7_bestBy) := goodIn_app (goodIn_of _ (by decide +kernel)) ggX7_share_X7_bestBy
set_option maxRecDepth 20000 in
theorem ggX7_share_X7_common : GoodIn wsX7_share wsX7_common := goodIn_r _ [84] (by decide +kernel) (by decide +kernel)
set_option maxRecDepth 20000 in
theorem gX7_share_X7_common : GoodIn wsX7_share (va_wsS RX7 198 yX7_common wsX7_common) := goodIn_app (goodIn_of _ (by decide +kernel)) ggX7_share_X7_common
theorem dX7_share_0 : decode cX7_share 0 = .ok (.aload_n 0, 1) := by decide +kernel
theorem dX7_share_1 : decode cX7_share 1 = .ok (.iload_n 1, 1) := by decide +kernel
theorem dX7_share_2 : decode cX7_share 2 = .ok (.invokevirtual 137, 3) := by decide +kernel
theorem dX7_share_5 : decode cX7_share 5 = .ok (.ifCond .ne 5, 3) := by decide +kernel
theorem dX7_share_8 : decode cX7_share 8 = .ok (.iconst (-1), 1) := by decide +kernel
theorem dX7_share_9 : decode cX7_share 9 = .ok (.ireturn, 1) := by decide +kernel
theorem dX7_share_10 : decode cX7_share 10 = .ok (.iconst 0, 1) := by decide +kernel
theorem dX7_share_11 : decode cX7_share 11 = .ok (.istore_n 3, 1) := by decide +kernel
theorem dX7_share_12 : decode cX7_share 12 = .ok (.iconst 0, 1) := by decide +kernel
theorem dX7_share_13 : decode cX7_share 13 = .ok (.istore 4, 2) := by decide +kernel
theorem dX7_share_15 : decode cX7_share 15 = .ok (.iload 4, 2) := by decide +kernel
theorem dX7_share_17 : decode cX7_share 17 = .ok (.iconst 1, 1) := by decide +kernel
theorem dX7_share_18 : decode cX7_share 18 = .ok (.aload_n 0, 1) := by decide +kernel
theorem dX7_share_19 : decode cX7_share 19 = .ok (.getfield 92, 3) := by decide +kernel
theorem dX7_share_22 : decode cX7_share 22 = .ok (.ishl, 1) := by decide +kernel
theorem dX7_share_23 : decode cX7_share 23 = .ok (.if_icmp .ge 67, 3) := by decide +kernel
theorem dX7_share_26 : decode cX7_share 26 = .ok (.iload 4, 2) := by decide +kernel
theorem dX7_share_28 : decode cX7_share 28 = .ok (.iload_n 1, 1) := by decide +kernel
theorem dX7_share_29 : decode cX7_share 29 = .ok (.invokestatic 82, 3) := by decide +kernel
theorem dX7_share_32 : decode cX7_share 32 = .ok (.ifCond .ne 52, 3) := by decide +kernel
theorem dX7_share_35 : decode cX7_share 35 = .ok (.iload 4, 2) := by decide +kernel
theorem dX7_share_37 : decode cX7_share 37 = .ok (.invokestatic 63, 3) := by decide +kernel
theorem dX7_share_40 : decode cX7_share 40 = .ok (.invokestatic 192, 3) := by decide +kernel
theorem dX7_share_43 : decode cX7_share 43 = .ok (.aload_n 0, 1) := by decide +kernel
theorem dX7_share_44 : decode cX7_share 44 = .ok (.getfield 92, 3) := by decide +kernel
theorem dX7_share_47 : decode cX7_share 47 = .ok (.iconst 1, 1) := by decide +kernel
theorem dX7_share_48 : decode cX7_share 48 = .ok (.isub, 1) := by decide +kernel
theorem dX7_share_49 : decode cX7_share 49 = .ok (.iload 4, 2) := by decide +kernel
theorem dX7_share_51 : decode cX7_share 51 = .ok (.invokestatic 63, 3) := by decide +kernel
theorem dX7_share_54 : decode cX7_share 54 = .ok (.isub, 1) := by decide +kernel
theorem dX7_share_55 : decode cX7_share 55 = .ok (.invokestatic 192, 3) := by decide +kernel
theorem dX7_share_58 : decode cX7_share 58 = .ok (.imul, 1) := by decide +kernel
theorem dX7_share_59 : decode cX7_share 59 = .ok (.istore 5, 2) := by decide +kernel
theorem dX7_share_61 : decode cX7_share 61 = .ok (.iload_n 3, 1) := by decide +kernel
theorem dX7_share_62 : decode cX7_share 62 = .ok (.iload 5, 2) := by decide +kernel
theorem dX7_share_64 : decode cX7_share 64 = .ok (.aload_n 0, 1) := by decide +kernel
theorem dX7_share_65 : decode cX7_share 65 = .ok (.iload 4, 2) := by decide +kernel
theorem dX7_share_67 : decode cX7_share 67 = .ok (.iconst 1, 1) := by decide +kernel
theorem dX7_share_68 : decode cX7_share 68 = .ok (.iload_n 1, 1) := by decide +kernel
theorem dX7_share_69 : decode cX7_share 69 = .ok (.ishl, 1) := by decide +kernel
theorem dX7_share_70 : decode cX7_share 70 = .ok (.ior, 1) := by decide +kernel
theorem dX7_share_71 : decode cX7_share 71 = .ok (.invokevirtual 195, 3) := by decide +kernel
theorem dX7_share_74 : decode cX7_share 74 = .ok (.aload_n 0, 1) := by decide +kernel
theorem dX7_share_75 : decode cX7_share 75 = .ok (.iload 4, 2) := by decide +kernel
theorem dX7_share_77 : decode cX7_share 77 = .ok (.invokevirtual 195, 3) := by decide +kernel
theorem dX7_share_80 : decode cX7_share 80 = .ok (.isub, 1) := by decide +kernel
theorem dX7_share_81 : decode cX7_share 81 = .ok (.imul, 1) := by decide +kernel
theorem dX7_share_82 : decode cX7_share 82 = .ok (.iadd, 1) := by decide +kernel
theorem dX7_share_83 : decode cX7_share 83 = .ok (.istore_n 3, 1) := by decide +kernel
theorem dX7_share_84 : decode cX7_share 84 = .ok (.iinc 4 1, 3) := by decide +kernel
theorem dX7_share_87 : decode cX7_share 87 = .ok (.goto (-72), 3) := by decide +kernel
theorem dX7_share_90 : decode cX7_share 90 = .ok (.iload_n 3, 1) := by decide +kernel
theorem dX7_share_91 : decode cX7_share 91 = .ok (.aload_n 0, 1) := by decide +kernel
theorem dX7_share_92 : decode cX7_share 92 = .ok (.getfield 92, 3) := by decide +kernel
theorem dX7_share_95 : decode cX7_share 95 = .ok (.invokestatic 192, 3) := by decide +kernel
theorem dX7_share_98 : decode cX7_share 98 = .ok (.invokestatic 198, 3) := by decide +kernel
theorem dX7_share_101 : decode cX7_share 101 = .ok (.istore 4, 2) := by decide +kernel
theorem dX7_share_103 : decode cX7_share 103 = .ok (.iload_n 2, 1) := by decide +kernel
theorem dX7_share_104 : decode cX7_share 104 = .ok (.ifCond .eq 10, 3) := by decide +kernel
theorem dX7_share_107 : decode cX7_share 107 = .ok (.iload_n 3, 1) := by decide +kernel
theorem dX7_share_108 : decode cX7_share 108 = .ok (.iload 4, 2) := by decide +kernel
theorem dX7_share_110 : decode cX7_share 110 = .ok (.idiv, 1) := by decide +kernel
theorem dX7_share_111 : decode cX7_share 111 = .ok (.goto 13, 3) := by decide +kernel
theorem dX7_share_114 : decode cX7_share 114 = .ok (.aload_n 0, 1) := by decide +kernel
theorem dX7_share_115 : decode cX7_share 115 = .ok (.getfield 92, 3) := by decide +kernel
theorem dX7_share_118 : decode cX7_share 118 = .ok (.invokestatic 192, 3) := by decide +kernel
theorem dX7_share_121 : decode cX7_share 121 = .ok (.iload 4, 2) := by decide +kernel
theorem dX7_share_123 : decode cX7_share 123 = .ok (.idiv, 1) := by decide +kernel
theorem dX7_share_124 : decode cX7_share 124 = .ok (.ireturn, 1) := by decide +kernel
set_option maxRecDepth 20000 in
theorem ggX7_gain_X7_tiltRow : GoodIn wsX7_gain wsX7_tiltRow := goodIn_r _ [7, 8, 9, 10, 6, 11, 2, 12, 13, 14, 15, 16, 17, 18, 19, 20, 21, 22, 1, 23, 24, 25, 26, 27, 28, 29, 30, 31, 32, 33, 34, 35, 36, 37, 38, 39, 40, 41, 42, 43, 44, 45, 46, 47, 48, 49, 50, 51, 52, 53, 54, 55, 56, 57, 58, 59, 60, 61, 62, 63, 64, 65, 66, 67, 68, 69, 70, 71, 72, 73, 74, 75, 76, 77, 78, 79, 80] (by decide +kernel) (by decide +kernel)
set_option maxRecDepth 20000 in
theorem gX7_gain_X7_tiltRow : GoodIn wsX7_gain (wsV RX7 156 RX7 yX7_tiltRow wsX7_tiltRow) := goodIn_app (goodIn_of _ (by decide +kernel)) ggX7_gain_X7_tiltRow
theorem dX7_gain_0 : decode cX7_gain 0 = .ok (.aload_n 0, 1) := by decide +kernel
theorem dX7_gain_1 : decode cX7_gain 1 = .ok (.iconst 2, 1) := by decide +kernel
theorem dX7_gain_2 : decode cX7_gain 2 = .ok (.iconst 4, 1) := by decide +kernel
theorem dX7_gain_3 : decode cX7_gain 3 = .ok (.iload_n 1, 1) := by decide +kernel
theorem dX7_gain_4 : decode cX7_gain 4 = .ok (.imul, 1) := by decide +kernel
theorem dX7_gain_5 : decode cX7_gain 5 = .ok (.iload_n 2, 1) := by decide +kernel
theorem dX7_gain_6 : decode cX7_gain 6 = .ok (.iadd, 1) := by decide +kernel
theorem dX7_gain_7 : decode cX7_gain 7 = .ok (.iconst 0, 1) := by decide +kernel
theorem dX7_gain_8 : decode cX7_gain 8 = .ok (.invokevirtual 156, 3) := by decide +kernel
theorem dX7_gain_11 : decode cX7_gain 11 = .ok (.iconst 0, 1) := by decide +kernel
theorem dX7_gain_12 : decode cX7_gain 12 = .ok (.istore 4, 2) := by decide +kernel
theorem dX7_gain_14 : decode cX7_gain 14 = .ok (.iload_n 3, 1) := by decide +kernel
theorem dX7_gain_15 : decode cX7_gain 15 = .ok (.istore 5, 2) := by decide +kernel
theorem dX7_gain_17 : decode cX7_gain 17 = .ok (.iload 5, 2) := by decide +kernel
theorem dX7_gain_19 : decode cX7_gain 19 = .ok (.aload_n 0, 1) := by decide +kernel
theorem dX7_gain_20 : decode cX7_gain 20 = .ok (.getfield 92, 3) := by decide +kernel
theorem dX7_gain_23 : decode cX7_gain 23 = .ok (.if_icmp .ge 34, 3) := by decide +kernel
theorem dX7_gain_26 : decode cX7_gain 26 = .ok (.iload 4, 2) := by decide +kernel
theorem dX7_gain_28 : decode cX7_gain 28 = .ok (.aload_n 0, 1) := by decide +kernel
theorem dX7_gain_29 : decode cX7_gain 29 = .ok (.getfield 16, 3) := by decide +kernel
theorem dX7_gain_32 : decode cX7_gain 32 = .ok (.bipush 7, 2) := by decide +kernel
theorem dX7_gain_34 : decode cX7_gain 34 = .ok (.iload 5, 2) := by decide +kernel
theorem dX7_gain_36 : decode cX7_gain 36 = .ok (.iadd, 1) := by decide +kernel
theorem dX7_gain_37 : decode cX7_gain 37 = .ok (.iaload, 1) := by decide +kernel
theorem dX7_gain_38 : decode cX7_gain 38 = .ok (.bipush 100, 2) := by decide +kernel
theorem dX7_gain_40 : decode cX7_gain 40 = .ok (.if_icmp .lt 7, 3) := by decide +kernel
theorem dX7_gain_43 : decode cX7_gain 43 = .ok (.iconst 1, 1) := by decide +kernel
theorem dX7_gain_44 : decode cX7_gain 44 = .ok (.goto 4, 3) := by decide +kernel
theorem dX7_gain_47 : decode cX7_gain 47 = .ok (.iconst 0, 1) := by decide +kernel
theorem dX7_gain_48 : decode cX7_gain 48 = .ok (.iadd, 1) := by decide +kernel
theorem dX7_gain_49 : decode cX7_gain 49 = .ok (.istore 4, 2) := by decide +kernel
theorem dX7_gain_51 : decode cX7_gain 51 = .ok (.iinc 5 2, 3) := by decide +kernel
theorem dX7_gain_54 : decode cX7_gain 54 = .ok (.goto (-37), 3) := by decide +kernel
theorem dX7_gain_57 : decode cX7_gain 57 = .ok (.iload_n 1, 1) := by decide +kernel
theorem dX7_gain_58 : decode cX7_gain 58 = .ok (.iload_n 2, 1) := by decide +kernel
theorem dX7_gain_59 : decode cX7_gain 59 = .ok (.if_icmp .ne 10, 3) := by decide +kernel
theorem dX7_gain_62 : decode cX7_gain 62 = .ok (.iload 4, 2) := by decide +kernel
theorem dX7_gain_64 : decode cX7_gain 64 = .ok (.iconst 1, 1) := by decide +kernel
theorem dX7_gain_65 : decode cX7_gain 65 = .ok (.isub, 1) := by decide +kernel
theorem dX7_gain_66 : decode cX7_gain 66 = .ok (.goto 5, 3) := by decide +kernel
theorem dX7_gain_69 : decode cX7_gain 69 = .ok (.iload 4, 2) := by decide +kernel
theorem dX7_gain_71 : decode cX7_gain 71 = .ok (.ireturn, 1) := by decide +kernel
set_option maxRecDepth 20000 in
theorem ggX7_isRest_X7_gain : GoodIn wsX7_isRest wsX7_gain := goodIn_r _ [5, 6, 7, 8, 9, 10, 4, 11, 12, 13, 14, 15, 16, 17, 18, 19, 20, 21, 22, 23, 24, 25, 26, 27, 28, 29, 30, 31, 32, 33, 34, 35, 36, 37, 38, 39, 40, 41, 42, 43, 44, 45, 46, 47, 48, 49, 50, 51, 52, 53, 54, 55, 56, 57, 58, 59, 60, 61, 62, 63, 64, 65, 66, 67, 68, 69, 70, 71, 72, 73, 74, 75, 76, 77, 78, 79, 80, 81, 82, 83, 84] (by decide +kernel) (by decide +kernel)
set_option maxRecDepth 20000 in
theorem gX7_isRest_X7_gain : GoodIn wsX7_isRest (wsV RX7 201 RX7 yX7_gain wsX7_gain) := goodIn_app (goodIn_of _ (by decide +kernel)) ggX7_isRest_X7_gain
theorem dX7_isRest_0 : decode cX7_isRest 0 = .ok (.iconst 1, 1) := by decide +kernel
theorem dX7_isRest_1 : decode cX7_isRest 1 = .ok (.istore_n 3, 1) := by decide +kernel
theorem dX7_isRest_2 : decode cX7_isRest 2 = .ok (.iconst 0, 1) := by decide +kernel
theorem dX7_isRest_3 : decode cX7_isRest 3 = .ok (.istore 4, 2) := by decide +kernel
theorem dX7_isRest_5 : decode cX7_isRest 5 = .ok (.iload 4, 2) := by decide +kernel
theorem dX7_isRest_7 : decode cX7_isRest 7 = .ok (.iconst 4, 1) := by decide +kernel
theorem dX7_isRest_8 : decode cX7_isRest 8 = .ok (.if_icmp .ge 55, 3) := by decide +kernel
theorem dX7_isRest_11 : decode cX7_isRest 11 = .ok (.iload_n 3, 1) := by decide +kernel
theorem dX7_isRest_12 : decode cX7_isRest 12 = .ok (.ifCond .eq 43, 3) := by decide +kernel
theorem dX7_isRest_15 : decode cX7_isRest 15 = .ok (.aload_n 0, 1) := by decide +kernel
theorem dX7_isRest_16 : decode cX7_isRest 16 = .ok (.iload 4, 2) := by decide +kernel
theorem dX7_isRest_18 : decode cX7_isRest 18 = .ok (.iload_n 2, 1) := by decide +kernel
theorem dX7_isRest_19 : decode cX7_isRest 19 = .ok (.iconst 0, 1) := by decide +kernel
theorem dX7_isRest_20 : decode cX7_isRest 20 = .ok (.invokevirtual 201, 3) := by decide +kernel
theorem dX7_isRest_23 : decode cX7_isRest 23 = .ok (.aload_n 0, 1) := by decide +kernel
theorem dX7_isRest_24 : decode cX7_isRest 24 = .ok (.iload_n 1, 1) := by decide +kernel
theorem dX7_isRest_25 : decode cX7_isRest 25 = .ok (.iload_n 2, 1) := by decide +kernel
theorem dX7_isRest_26 : decode cX7_isRest 26 = .ok (.iconst 0, 1) := by decide +kernel
theorem dX7_isRest_27 : decode cX7_isRest 27 = .ok (.invokevirtual 201, 3) := by decide +kernel
theorem dX7_isRest_30 : decode cX7_isRest 30 = .ok (.if_icmp .gt 25, 3) := by decide +kernel
theorem dX7_isRest_33 : decode cX7_isRest 33 = .ok (.aload_n 0, 1) := by decide +kernel
theorem dX7_isRest_34 : decode cX7_isRest 34 = .ok (.iload_n 1, 1) := by decide +kernel
theorem dX7_isRest_35 : decode cX7_isRest 35 = .ok (.iload 4, 2) := by decide +kernel
theorem dX7_isRest_37 : decode cX7_isRest 37 = .ok (.iconst 1, 1) := by decide +kernel
theorem dX7_isRest_38 : decode cX7_isRest 38 = .ok (.invokevirtual 201, 3) := by decide +kernel
theorem dX7_isRest_41 : decode cX7_isRest 41 = .ok (.aload_n 0, 1) := by decide +kernel
theorem dX7_isRest_42 : decode cX7_isRest 42 = .ok (.iload_n 1, 1) := by decide +kernel
theorem dX7_isRest_43 : decode cX7_isRest 43 = .ok (.iload_n 2, 1) := by decide +kernel
theorem dX7_isRest_44 : decode cX7_isRest 44 = .ok (.iconst 1, 1) := by decide +kernel
theorem dX7_isRest_45 : decode cX7_isRest 45 = .ok (.invokevirtual 201, 3) := by decide +kernel
theorem dX7_isRest_48 : decode cX7_isRest 48 = .ok (.if_icmp .gt 7, 3) := by decide +kernel
theorem dX7_isRest_51 : decode cX7_isRest 51 = .ok (.iconst 1, 1) := by decide +kernel
theorem dX7_isRest_52 : decode cX7_isRest 52 = .ok (.goto 4, 3) := by decide +kernel
theorem dX7_isRest_55 : decode cX7_isRest 55 = .ok (.iconst 0, 1) := by decide +kernel
theorem dX7_isRest_56 : decode cX7_isRest 56 = .ok (.istore_n 3, 1) := by decide +kernel
theorem dX7_isRest_57 : decode cX7_isRest 57 = .ok (.iinc 4 1, 3) := by decide +kernel
theorem dX7_isRest_60 : decode cX7_isRest 60 = .ok (.goto (-55), 3) := by decide +kernel
theorem dX7_isRest_63 : decode cX7_isRest 63 = .ok (.iload_n 3, 1) := by decide +kernel
theorem dX7_isRest_64 : decode cX7_isRest 64 = .ok (.ireturn, 1) := by decide +kernel
set_option maxRecDepth 20000 in
theorem ggX7_rests_X7_in : GoodIn wsX7_rests wsX7_in := goodIn_r _ [4] (by decide +kernel) (by decide +kernel)
set_option maxRecDepth 20000 in
theorem gX7_rests_X7_in : GoodIn wsX7_rests (va_wsS RX7 56 yX7_in wsX7_in) := goodIn_app (goodIn_of _ (by decide +kernel)) ggX7_rests_X7_in
set_option maxRecDepth 20000 in
theorem ggX7_rests_X7_isRest : GoodIn wsX7_rests wsX7_isRest := goodIn_r _ [8, 9, 10, 11, 3, 12, 13, 14, 15, 16, 17, 18, 19, 20, 21, 22, 23, 24, 25, 26, 27, 28, 29, 30, 31, 32, 33, 34, 35, 36, 37, 38, 39, 40, 41, 42, 43, 44, 45, 46, 47, 48, 49, 50, 51, 52, 53, 54, 55, 56, 57, 58, 59, 60, 61, 62, 63, 64, 65, 66, 67, 68, 69, 70, 71, 72, 73, 74, 75, 76, 77, 78, 79, 80, 81, 82, 83, 84, 85, 86, 87, 88, 89, 90, 91] (by decide +kernel) (by decide +kernel)
set_option maxRecDepth 20000 in
theorem gX7_rests_X7_isRest : GoodIn wsX7_rests (wsV RX7 204 RX7 yX7_isRest wsX7_isRest) := goodIn_app (goodIn_of _ (by decide +kernel)) ggX7_rests_X7_isRest
theorem dX7_rests_0 : decode cX7_rests 0 = .ok (.iload_n 1, 1) := by decide +kernel
theorem dX7_rests_1 : decode cX7_rests 1 = .ok (.i2l, 1) := by decide +kernel
theorem dX7_rests_2 : decode cX7_rests 2 = .ok (.lconst 0, 1) := by decide +kernel
theorem dX7_rests_3 : decode cX7_rests 3 = .ok (.lconst 1, 1) := by decide +kernel
theorem dX7_rests_4 : decode cX7_rests 4 = .ok (.invokestatic 56, 3) := by decide +kernel
theorem dX7_rests_7 : decode cX7_rests 7 = .ok (.ifCond .ne 6, 3) := by decide +kernel
theorem dX7_rests_10 : decode cX7_rests 10 = .ok (.bipush (-2), 2) := by decide +kernel
theorem dX7_rests_12 : decode cX7_rests 12 = .ok (.ireturn, 1) := by decide +kernel
theorem dX7_rests_13 : decode cX7_rests 13 = .ok (.iconst 0, 1) := by decide +kernel
theorem dX7_rests_14 : decode cX7_rests 14 = .ok (.istore_n 2, 1) := by decide +kernel
theorem dX7_rests_15 : decode cX7_rests 15 = .ok (.bipush (-9), 2) := by decide +kernel
theorem dX7_rests_17 : decode cX7_rests 17 = .ok (.istore_n 3, 1) := by decide +kernel
theorem dX7_rests_18 : decode cX7_rests 18 = .ok (.iconst 0, 1) := by decide +kernel
theorem dX7_rests_19 : decode cX7_rests 19 = .ok (.istore 4, 2) := by decide +kernel
theorem dX7_rests_21 : decode cX7_rests 21 = .ok (.iload 4, 2) := by decide +kernel
theorem dX7_rests_23 : decode cX7_rests 23 = .ok (.bipush 16, 2) := by decide +kernel
theorem dX7_rests_25 : decode cX7_rests 25 = .ok (.if_icmp .ge 48, 3) := by decide +kernel
theorem dX7_rests_28 : decode cX7_rests 28 = .ok (.aload_n 0, 1) := by decide +kernel
theorem dX7_rests_29 : decode cX7_rests 29 = .ok (.iload 4, 2) := by decide +kernel
theorem dX7_rests_31 : decode cX7_rests 31 = .ok (.iconst 4, 1) := by decide +kernel
theorem dX7_rests_32 : decode cX7_rests 32 = .ok (.idiv, 1) := by decide +kernel
theorem dX7_rests_33 : decode cX7_rests 33 = .ok (.iload 4, 2) := by decide +kernel
theorem dX7_rests_35 : decode cX7_rests 35 = .ok (.iconst 4, 1) := by decide +kernel
theorem dX7_rests_36 : decode cX7_rests 36 = .ok (.irem, 1) := by decide +kernel
theorem dX7_rests_37 : decode cX7_rests 37 = .ok (.invokevirtual 204, 3) := by decide +kernel
theorem dX7_rests_40 : decode cX7_rests 40 = .ok (.ifCond .eq 27, 3) := by decide +kernel
theorem dX7_rests_43 : decode cX7_rests 43 = .ok (.iload_n 2, 1) := by decide +kernel
theorem dX7_rests_44 : decode cX7_rests 44 = .ok (.ifCond .ne 18, 3) := by decide +kernel
theorem dX7_rests_47 : decode cX7_rests 47 = .ok (.bipush 10, 2) := by decide +kernel
theorem dX7_rests_49 : decode cX7_rests 49 = .ok (.iload 4, 2) := by decide +kernel
theorem dX7_rests_51 : decode cX7_rests 51 = .ok (.iconst 4, 1) := by decide +kernel
theorem dX7_rests_52 : decode cX7_rests 52 = .ok (.idiv, 1) := by decide +kernel
theorem dX7_rests_53 : decode cX7_rests 53 = .ok (.imul, 1) := by decide +kernel
theorem dX7_rests_54 : decode cX7_rests 54 = .ok (.iload 4, 2) := by decide +kernel
theorem dX7_rests_56 : decode cX7_rests 56 = .ok (.iconst 4, 1) := by decide +kernel
theorem dX7_rests_57 : decode cX7_rests 57 = .ok (.irem, 1) := by decide +kernel
theorem dX7_rests_58 : decode cX7_rests 58 = .ok (.iadd, 1) := by decide +kernel
theorem dX7_rests_59 : decode cX7_rests 59 = .ok (.goto 4, 3) := by decide +kernel
theorem dX7_rests_62 : decode cX7_rests 62 = .ok (.iload_n 3, 1) := by decide +kernel
theorem dX7_rests_63 : decode cX7_rests 63 = .ok (.istore_n 3, 1) := by decide +kernel
theorem dX7_rests_64 : decode cX7_rests 64 = .ok (.iinc 2 1, 3) := by decide +kernel
theorem dX7_rests_67 : decode cX7_rests 67 = .ok (.iinc 4 1, 3) := by decide +kernel
theorem dX7_rests_70 : decode cX7_rests 70 = .ok (.goto (-49), 3) := by decide +kernel
theorem dX7_rests_73 : decode cX7_rests 73 = .ok (.iload_n 1, 1) := by decide +kernel
theorem dX7_rests_74 : decode cX7_rests 74 = .ok (.ifCond .ne 7, 3) := by decide +kernel
theorem dX7_rests_77 : decode cX7_rests 77 = .ok (.iload_n 2, 1) := by decide +kernel
theorem dX7_rests_78 : decode cX7_rests 78 = .ok (.goto 4, 3) := by decide +kernel
theorem dX7_rests_81 : decode cX7_rests 81 = .ok (.iload_n 3, 1) := by decide +kernel
theorem dX7_rests_82 : decode cX7_rests 82 = .ok (.ireturn, 1) := by decide +kernel
set_option maxRecDepth 20000 in
theorem ggX7_foursOf_X7_in : GoodIn wsX7_foursOf wsX7_in := goodIn_r _ [5] (by decide +kernel) (by decide +kernel)
set_option maxRecDepth 20000 in
theorem gX7_foursOf_X7_in : GoodIn wsX7_foursOf (va_wsS RX7 56 yX7_in wsX7_in) := goodIn_app (goodIn_of _ (by decide +kernel)) ggX7_foursOf_X7_in
set_option maxRecDepth 20000 in
theorem ggX7_foursOf_X7_power : GoodIn wsX7_foursOf wsX7_power := goodIn_r _ [8] (by decide +kernel) (by decide +kernel)
set_option maxRecDepth 20000 in
theorem gX7_foursOf_X7_power : GoodIn wsX7_foursOf (va_wsS RX7 153 yX7_power wsX7_power) := goodIn_app (goodIn_of _ (by decide +kernel)) ggX7_foursOf_X7_power
theorem dX7_foursOf_0 : decode cX7_foursOf 0 = .ok (.iconst 0, 1) := by decide +kernel
theorem dX7_foursOf_1 : decode cX7_foursOf 1 = .ok (.istore_n 2, 1) := by decide +kernel
theorem dX7_foursOf_2 : decode cX7_foursOf 2 = .ok (.iload_n 1, 1) := by decide +kernel
theorem dX7_foursOf_3 : decode cX7_foursOf 3 = .ok (.istore_n 3, 1) := by decide +kernel
theorem dX7_foursOf_4 : decode cX7_foursOf 4 = .ok (.iconst 0, 1) := by decide +kernel
theorem dX7_foursOf_5 : decode cX7_foursOf 5 = .ok (.istore 4, 2) := by decide +kernel
theorem dX7_foursOf_7 : decode cX7_foursOf 7 = .ok (.iload 4, 2) := by decide +kernel
theorem dX7_foursOf_9 : decode cX7_foursOf 9 = .ok (.iload_n 0, 1) := by decide +kernel
theorem dX7_foursOf_10 : decode cX7_foursOf 10 = .ok (.if_icmp .ge 50, 3) := by decide +kernel
theorem dX7_foursOf_13 : decode cX7_foursOf 13 = .ok (.iload_n 3, 1) := by decide +kernel
theorem dX7_foursOf_14 : decode cX7_foursOf 14 = .ok (.bipush 10, 2) := by decide +kernel
theorem dX7_foursOf_16 : decode cX7_foursOf 16 = .ok (.irem, 1) := by decide +kernel
theorem dX7_foursOf_17 : decode cX7_foursOf 17 = .ok (.istore 5, 2) := by decide +kernel
theorem dX7_foursOf_19 : decode cX7_foursOf 19 = .ok (.iload 5, 2) := by decide +kernel
theorem dX7_foursOf_21 : decode cX7_foursOf 21 = .ok (.i2l, 1) := by decide +kernel
theorem dX7_foursOf_22 : decode cX7_foursOf 22 = .ok (.lconst 1, 1) := by decide +kernel
theorem dX7_foursOf_23 : decode cX7_foursOf 23 = .ok (.ldc2_w 166, 3) := by decide +kernel
theorem dX7_foursOf_26 : decode cX7_foursOf 26 = .ok (.invokestatic 56, 3) := by decide +kernel
theorem dX7_foursOf_29 : decode cX7_foursOf 29 = .ok (.ifCond .ne 6, 3) := by decide +kernel
theorem dX7_foursOf_32 : decode cX7_foursOf 32 = .ok (.bipush (-9), 2) := by decide +kernel
theorem dX7_foursOf_34 : decode cX7_foursOf 34 = .ok (.ireturn, 1) := by decide +kernel
theorem dX7_foursOf_35 : decode cX7_foursOf 35 = .ok (.iload_n 2, 1) := by decide +kernel
theorem dX7_foursOf_36 : decode cX7_foursOf 36 = .ok (.iconst 4, 1) := by decide +kernel
theorem dX7_foursOf_37 : decode cX7_foursOf 37 = .ok (.iload 4, 2) := by decide +kernel
theorem dX7_foursOf_39 : decode cX7_foursOf 39 = .ok (.invokestatic 153, 3) := by decide +kernel
theorem dX7_foursOf_42 : decode cX7_foursOf 42 = .ok (.iload 5, 2) := by decide +kernel
theorem dX7_foursOf_44 : decode cX7_foursOf 44 = .ok (.iconst 1, 1) := by decide +kernel
theorem dX7_foursOf_45 : decode cX7_foursOf 45 = .ok (.isub, 1) := by decide +kernel
theorem dX7_foursOf_46 : decode cX7_foursOf 46 = .ok (.imul, 1) := by decide +kernel
theorem dX7_foursOf_47 : decode cX7_foursOf 47 = .ok (.iadd, 1) := by decide +kernel
theorem dX7_foursOf_48 : decode cX7_foursOf 48 = .ok (.istore_n 2, 1) := by decide +kernel
theorem dX7_foursOf_49 : decode cX7_foursOf 49 = .ok (.iload_n 3, 1) := by decide +kernel
theorem dX7_foursOf_50 : decode cX7_foursOf 50 = .ok (.bipush 10, 2) := by decide +kernel
theorem dX7_foursOf_52 : decode cX7_foursOf 52 = .ok (.idiv, 1) := by decide +kernel
theorem dX7_foursOf_53 : decode cX7_foursOf 53 = .ok (.istore_n 3, 1) := by decide +kernel
theorem dX7_foursOf_54 : decode cX7_foursOf 54 = .ok (.iinc 4 1, 3) := by decide +kernel
theorem dX7_foursOf_57 : decode cX7_foursOf 57 = .ok (.goto (-50), 3) := by decide +kernel
theorem dX7_foursOf_60 : decode cX7_foursOf 60 = .ok (.iload_n 3, 1) := by decide +kernel
theorem dX7_foursOf_61 : decode cX7_foursOf 61 = .ok (.ifCond .ne 7, 3) := by decide +kernel
theorem dX7_foursOf_64 : decode cX7_foursOf 64 = .ok (.iload_n 2, 1) := by decide +kernel
theorem dX7_foursOf_65 : decode cX7_foursOf 65 = .ok (.goto 5, 3) := by decide +kernel
theorem dX7_foursOf_68 : decode cX7_foursOf 68 = .ok (.bipush (-9), 2) := by decide +kernel
theorem dX7_foursOf_70 : decode cX7_foursOf 70 = .ok (.ireturn, 1) := by decide +kernel
set_option maxRecDepth 20000 in
theorem ggX7_fails_X7_isMarble : GoodIn wsX7_fails wsX7_isMarble := goodIn_r _ [8, 9, 10, 11, 7, 12, 75, 76, 77, 78, 79, 80, 81, 82, 83, 84, 85, 86, 87, 88, 89, 90, 91, 92, 93, 94, 95, 96, 97, 98] (by decide +kernel) (by decide +kernel)
set_option maxRecDepth 20000 in
theorem gX7_fails_X7_isMarble : GoodIn wsX7_fails (wsV RX7 137 RX7 yX7_isMarble wsX7_isMarble) := goodIn_app (goodIn_of _ (by decide +kernel)) ggX7_fails_X7_isMarble
set_option maxRecDepth 20000 in
theorem ggX7_fails_X7_in : GoodIn wsX7_fails wsX7_in := goodIn_r _ [12] (by decide +kernel) (by decide +kernel)
set_option maxRecDepth 20000 in
theorem gX7_fails_X7_in : GoodIn wsX7_fails (va_wsS RX7 56 yX7_in wsX7_in) := goodIn_app (goodIn_of _ (by decide +kernel)) ggX7_fails_X7_in
set_option maxRecDepth 20000 in
theorem ggX7_fails_X7_foursOf : GoodIn wsX7_fails wsX7_foursOf := goodIn_r _ [15, 1, 10, 11, 7, 12, 16, 17, 18] (by decide +kernel) (by decide +kernel)
set_option maxRecDepth 20000 in
theorem gX7_fails_X7_foursOf : GoodIn wsX7_fails (va_wsS RX7 207 yX7_foursOf wsX7_foursOf) := goodIn_app (goodIn_of _ (by decide +kernel)) ggX7_fails_X7_foursOf
set_option maxRecDepth 20000 in
theorem ggX7_fails_X7_ones : GoodIn wsX7_fails wsX7_ones := goodIn_r _ [21] (by decide +kernel) (by decide +kernel)
set_option maxRecDepth 20000 in
theorem gX7_fails_X7_ones : GoodIn wsX7_fails (va_wsS RX7 63 yX7_ones wsX7_ones) := goodIn_app (goodIn_of _ (by decide +kernel)) ggX7_fails_X7_ones
set_option maxRecDepth 20000 in
theorem ggX7_fails_X7_power : GoodIn wsX7_fails wsX7_power := goodIn_r _ [18] (by decide +kernel) (by decide +kernel)
set_option maxRecDepth 20000 in
theorem gX7_fails_X7_power : GoodIn wsX7_fails (va_wsS RX7 153 yX7_power wsX7_power) := goodIn_app (goodIn_of _ (by decide +kernel)) ggX7_fails_X7_power
set_option maxRecDepth 20000 in
theorem ggX7_fails_X7_tiltRow : GoodIn wsX7_fails wsX7_tiltRow := goodIn_r _ [25, 26, 27, 28, 7, 29, 3, 30, 31, 32, 16, 17, 18, 33, 34, 35, 36, 37, 9, 38, 39, 40, 41, 42, 43, 44, 45, 46, 47, 48, 49, 50, 51, 52, 53, 54, 55, 56, 57, 58, 59, 60, 61, 62, 63, 64, 65, 66, 67, 68, 69, 70, 71, 75, 76, 77, 78, 79, 80, 81, 82, 83, 84, 85, 86, 87, 88, 89, 90, 91, 92, 93, 94, 95, 96, 97, 98] (by decide +kernel) (by decide +kernel)
set_option maxRecDepth 20000 in
theorem gX7_fails_X7_tiltRow : GoodIn wsX7_fails (wsV RX7 156 RX7 yX7_tiltRow wsX7_tiltRow) := goodIn_app (goodIn_of _ (by decide +kernel)) ggX7_fails_X7_tiltRow
set_option maxRecDepth 20000 in
theorem ggX7_fails_X7_common : GoodIn wsX7_fails wsX7_common := goodIn_r _ [74] (by decide +kernel) (by decide +kernel)
set_option maxRecDepth 20000 in
theorem gX7_fails_X7_common : GoodIn wsX7_fails (va_wsS RX7 198 yX7_common wsX7_common) := goodIn_app (goodIn_of _ (by decide +kernel)) ggX7_fails_X7_common
theorem dX7_fails_0 : decode cX7_fails 0 = .ok (.aload_n 0, 1) := by decide +kernel
theorem dX7_fails_1 : decode cX7_fails 1 = .ok (.iload_n 1, 1) := by decide +kernel
theorem dX7_fails_2 : decode cX7_fails 2 = .ok (.invokevirtual 137, 3) := by decide +kernel
theorem dX7_fails_5 : decode cX7_fails 5 = .ok (.ifCond .ne 5, 3) := by decide +kernel
theorem dX7_fails_8 : decode cX7_fails 8 = .ok (.iconst (-1), 1) := by decide +kernel
theorem dX7_fails_9 : decode cX7_fails 9 = .ok (.ireturn, 1) := by decide +kernel
theorem dX7_fails_10 : decode cX7_fails 10 = .ok (.iload_n 2, 1) := by decide +kernel
theorem dX7_fails_11 : decode cX7_fails 11 = .ok (.i2l, 1) := by decide +kernel
theorem dX7_fails_12 : decode cX7_fails 12 = .ok (.lconst 1, 1) := by decide +kernel
theorem dX7_fails_13 : decode cX7_fails 13 = .ok (.ldc2_w 166, 3) := by decide +kernel
theorem dX7_fails_16 : decode cX7_fails 16 = .ok (.invokestatic 56, 3) := by decide +kernel
theorem dX7_fails_19 : decode cX7_fails 19 = .ok (.ifCond .eq 15, 3) := by decide +kernel
theorem dX7_fails_22 : decode cX7_fails 22 = .ok (.iload_n 3, 1) := by decide +kernel
theorem dX7_fails_23 : decode cX7_fails 23 = .ok (.ifCond .le 11, 3) := by decide +kernel
theorem dX7_fails_26 : decode cX7_fails 26 = .ok (.iload_n 2, 1) := by decide +kernel
theorem dX7_fails_27 : decode cX7_fails 27 = .ok (.iload_n 3, 1) := by decide +kernel
theorem dX7_fails_28 : decode cX7_fails 28 = .ok (.invokestatic 207, 3) := by decide +kernel
theorem dX7_fails_31 : decode cX7_fails 31 = .ok (.goto 5, 3) := by decide +kernel
theorem dX7_fails_34 : decode cX7_fails 34 = .ok (.bipush (-9), 2) := by decide +kernel
theorem dX7_fails_36 : decode cX7_fails 36 = .ok (.istore 6, 2) := by decide +kernel
theorem dX7_fails_38 : decode cX7_fails 38 = .ok (.iload 6, 2) := by decide +kernel
theorem dX7_fails_40 : decode cX7_fails 40 = .ok (.bipush (-9), 2) := by decide +kernel
theorem dX7_fails_42 : decode cX7_fails 42 = .ok (.if_icmp .eq 16, 3) := by decide +kernel
theorem dX7_fails_45 : decode cX7_fails 45 = .ok (.iload 4, 2) := by decide +kernel
theorem dX7_fails_47 : decode cX7_fails 47 = .ok (.i2l, 1) := by decide +kernel
theorem dX7_fails_48 : decode cX7_fails 48 = .ok (.lconst 0, 1) := by decide +kernel
theorem dX7_fails_49 : decode cX7_fails 49 = .ok (.ldc2_w 210, 3) := by decide +kernel
theorem dX7_fails_52 : decode cX7_fails 52 = .ok (.invokestatic 56, 3) := by decide +kernel
theorem dX7_fails_55 : decode cX7_fails 55 = .ok (.ifCond .ne 6, 3) := by decide +kernel
theorem dX7_fails_58 : decode cX7_fails 58 = .ok (.bipush (-2), 2) := by decide +kernel
theorem dX7_fails_60 : decode cX7_fails 60 = .ok (.ireturn, 1) := by decide +kernel
theorem dX7_fails_61 : decode cX7_fails 61 = .ok (.iconst 0, 1) := by decide +kernel
theorem dX7_fails_62 : decode cX7_fails 62 = .ok (.istore 7, 2) := by decide +kernel
theorem dX7_fails_64 : decode cX7_fails 64 = .ok (.iconst 0, 1) := by decide +kernel
theorem dX7_fails_65 : decode cX7_fails 65 = .ok (.istore 8, 2) := by decide +kernel
theorem dX7_fails_67 : decode cX7_fails 67 = .ok (.iconst 0, 1) := by decide +kernel
theorem dX7_fails_68 : decode cX7_fails 68 = .ok (.istore 9, 2) := by decide +kernel
theorem dX7_fails_70 : decode cX7_fails 70 = .ok (.iload 9, 2) := by decide +kernel
theorem dX7_fails_72 : decode cX7_fails 72 = .ok (.iconst 1, 1) := by decide +kernel
theorem dX7_fails_73 : decode cX7_fails 73 = .ok (.iload_n 2, 1) := by decide +kernel
theorem dX7_fails_74 : decode cX7_fails 74 = .ok (.ishl, 1) := by decide +kernel
theorem dX7_fails_75 : decode cX7_fails 75 = .ok (.if_icmp .ge 78, 3) := by decide +kernel
theorem dX7_fails_78 : decode cX7_fails 78 = .ok (.iload 4, 2) := by decide +kernel
theorem dX7_fails_80 : decode cX7_fails 80 = .ok (.iload 9, 2) := by decide +kernel
theorem dX7_fails_82 : decode cX7_fails 82 = .ok (.invokestatic 63, 3) := by decide +kernel
theorem dX7_fails_85 : decode cX7_fails 85 = .ok (.invokestatic 153, 3) := by decide +kernel
theorem dX7_fails_88 : decode cX7_fails 88 = .ok (.bipush 10, 2) := by decide +kernel
theorem dX7_fails_90 : decode cX7_fails 90 = .ok (.iload 4, 2) := by decide +kernel
theorem dX7_fails_92 : decode cX7_fails 92 = .ok (.isub, 1) := by decide +kernel
theorem dX7_fails_93 : decode cX7_fails 93 = .ok (.iload_n 2, 1) := by decide +kernel
theorem dX7_fails_94 : decode cX7_fails 94 = .ok (.iload 9, 2) := by decide +kernel
theorem dX7_fails_96 : decode cX7_fails 96 = .ok (.invokestatic 63, 3) := by decide +kernel
theorem dX7_fails_99 : decode cX7_fails 99 = .ok (.isub, 1) := by decide +kernel
theorem dX7_fails_100 : decode cX7_fails 100 = .ok (.invokestatic 153, 3) := by decide +kernel
theorem dX7_fails_103 : decode cX7_fails 103 = .ok (.imul, 1) := by decide +kernel
theorem dX7_fails_104 : decode cX7_fails 104 = .ok (.istore 10, 2) := by decide +kernel
theorem dX7_fails_106 : decode cX7_fails 106 = .ok (.aload_n 0, 1) := by decide +kernel
theorem dX7_fails_107 : decode cX7_fails 107 = .ok (.iload_n 2, 1) := by decide +kernel
theorem dX7_fails_108 : decode cX7_fails 108 = .ok (.iload 6, 2) := by decide +kernel
theorem dX7_fails_110 : decode cX7_fails 110 = .ok (.iload 9, 2) := by decide +kernel
theorem dX7_fails_112 : decode cX7_fails 112 = .ok (.invokevirtual 156, 3) := by decide +kernel
theorem dX7_fails_115 : decode cX7_fails 115 = .ok (.iload 8, 2) := by decide +kernel
theorem dX7_fails_117 : decode cX7_fails 117 = .ok (.iload 10, 2) := by decide +kernel
theorem dX7_fails_119 : decode cX7_fails 119 = .ok (.iadd, 1) := by decide +kernel
theorem dX7_fails_120 : decode cX7_fails 120 = .ok (.istore 8, 2) := by decide +kernel
theorem dX7_fails_122 : decode cX7_fails 122 = .ok (.iload 7, 2) := by decide +kernel
theorem dX7_fails_124 : decode cX7_fails 124 = .ok (.aload_n 0, 1) := by decide +kernel
theorem dX7_fails_125 : decode cX7_fails 125 = .ok (.getfield 16, 3) := by decide +kernel
theorem dX7_fails_128 : decode cX7_fails 128 = .ok (.bipush 7, 2) := by decide +kernel
theorem dX7_fails_130 : decode cX7_fails 130 = .ok (.iload_n 1, 1) := by decide +kernel
theorem dX7_fails_131 : decode cX7_fails 131 = .ok (.iadd, 1) := by decide +kernel
theorem dX7_fails_132 : decode cX7_fails 132 = .ok (.iaload, 1) := by decide +kernel
theorem dX7_fails_133 : decode cX7_fails 133 = .ok (.bipush 100, 2) := by decide +kernel
theorem dX7_fails_135 : decode cX7_fails 135 = .ok (.if_icmp .lt 8, 3) := by decide +kernel
theorem dX7_fails_138 : decode cX7_fails 138 = .ok (.iload 10, 2) := by decide +kernel
theorem dX7_fails_140 : decode cX7_fails 140 = .ok (.goto 4, 3) := by decide +kernel
theorem dX7_fails_143 : decode cX7_fails 143 = .ok (.iconst 0, 1) := by decide +kernel
theorem dX7_fails_144 : decode cX7_fails 144 = .ok (.iadd, 1) := by decide +kernel
theorem dX7_fails_145 : decode cX7_fails 145 = .ok (.istore 7, 2) := by decide +kernel
theorem dX7_fails_147 : decode cX7_fails 147 = .ok (.iinc 9 1, 3) := by decide +kernel
theorem dX7_fails_150 : decode cX7_fails 150 = .ok (.goto (-80), 3) := by decide +kernel
theorem dX7_fails_153 : decode cX7_fails 153 = .ok (.iload 7, 2) := by decide +kernel
theorem dX7_fails_155 : decode cX7_fails 155 = .ok (.iload 8, 2) := by decide +kernel
theorem dX7_fails_157 : decode cX7_fails 157 = .ok (.invokestatic 198, 3) := by decide +kernel
theorem dX7_fails_160 : decode cX7_fails 160 = .ok (.istore 9, 2) := by decide +kernel
theorem dX7_fails_162 : decode cX7_fails 162 = .ok (.iload 5, 2) := by decide +kernel
theorem dX7_fails_164 : decode cX7_fails 164 = .ok (.ifCond .eq 11, 3) := by decide +kernel
theorem dX7_fails_167 : decode cX7_fails 167 = .ok (.iload 7, 2) := by decide +kernel
theorem dX7_fails_169 : decode cX7_fails 169 = .ok (.iload 9, 2) := by decide +kernel
theorem dX7_fails_171 : decode cX7_fails 171 = .ok (.idiv, 1) := by decide +kernel
theorem dX7_fails_172 : decode cX7_fails 172 = .ok (.goto 8, 3) := by decide +kernel
theorem dX7_fails_175 : decode cX7_fails 175 = .ok (.iload 8, 2) := by decide +kernel
theorem dX7_fails_177 : decode cX7_fails 177 = .ok (.iload 9, 2) := by decide +kernel
theorem dX7_fails_179 : decode cX7_fails 179 = .ok (.idiv, 1) := by decide +kernel
theorem dX7_fails_180 : decode cX7_fails 180 = .ok (.ireturn, 1) := by decide +kernel
theorem dX7_seed_0 : decode cX7_seed 0 = .ok (.aload_n 0, 1) := by decide +kernel
theorem dX7_seed_1 : decode cX7_seed 1 = .ok (.getfield 212, 3) := by decide +kernel
theorem dX7_seed_4 : decode cX7_seed 4 = .ok (.lstore_n 3, 1) := by decide +kernel
theorem dX7_seed_5 : decode cX7_seed 5 = .ok (.aload_n 0, 1) := by decide +kernel
theorem dX7_seed_6 : decode cX7_seed 6 = .ok (.lload_n 1, 1) := by decide +kernel
theorem dX7_seed_7 : decode cX7_seed 7 = .ok (.putfield 212, 3) := by decide +kernel
theorem dX7_seed_10 : decode cX7_seed 10 = .ok (.lload_n 3, 1) := by decide +kernel
theorem dX7_seed_11 : decode cX7_seed 11 = .ok (.lreturn, 1) := by decide +kernel
set_option maxRecDepth 20000 in
theorem ggX7_days_X7_in : GoodIn wsX7_days wsX7_in := goodIn_r _ [9] (by decide +kernel) (by decide +kernel)
set_option maxRecDepth 20000 in
theorem gX7_days_X7_in : GoodIn wsX7_days (va_wsS RX7 56 yX7_in wsX7_in) := goodIn_app (goodIn_of _ (by decide +kernel)) ggX7_days_X7_in
set_option maxRecDepth 20000 in
theorem ggX7_days_X7_layTrial : GoodIn wsX7_days wsX7_layTrial := goodIn_r _ [13, 14, 73, 74, 75, 76, 77, 78, 79, 80, 81, 82, 83, 84, 85, 86, 87, 88, 89, 90, 91, 92, 93, 94, 95, 96] (by decide +kernel) (by decide +kernel)
set_option maxRecDepth 20000 in
theorem gX7_days_X7_layTrial : GoodIn wsX7_days (wsV RX7 131 RX7 yX7_layTrial wsX7_layTrial) := goodIn_app (goodIn_of _ (by decide +kernel)) ggX7_days_X7_layTrial
set_option maxRecDepth 20000 in
theorem ggX7_days_X7_wedgeTrial : GoodIn wsX7_days wsX7_wedgeTrial := goodIn_r _ [18, 14, 19, 20, 8, 21, 22, 6, 7, 9, 23, 24, 25, 26, 27, 28, 29, 30, 31, 32, 33, 34, 35, 36, 37, 38, 39, 40, 41, 42, 43, 73, 74, 75, 76, 77, 78, 79, 80, 81, 82, 83, 84, 85, 86, 87, 88, 89, 90, 91, 92, 93, 94, 95, 96] (by decide +kernel) (by decide +kernel)
set_option maxRecDepth 20000 in
theorem gX7_days_X7_wedgeTrial : GoodIn wsX7_days (wsV RX7 171 RX7 yX7_wedgeTrial wsX7_wedgeTrial) := goodIn_app (goodIn_of _ (by decide +kernel)) ggX7_days_X7_wedgeTrial
set_option maxRecDepth 20000 in
theorem ggX7_days_X7_tiltOn : GoodIn wsX7_days wsX7_tiltOn := goodIn_r _ [47, 48, 35, 49, 14, 50, 51, 52, 8, 53, 40, 23, 24, 25, 36, 37, 38, 39, 54, 55, 56, 57, 30, 58, 59, 60, 61, 62, 63, 64, 65, 66, 67, 68, 31, 32, 33, 34, 69, 70, 71, 72, 73, 74, 75, 76, 77, 78, 79, 80, 81, 82, 83, 84, 85, 86, 87, 88, 89, 90, 91, 92, 93, 94, 95, 96] (by decide +kernel) (by decide +kernel)
set_option maxRecDepth 20000 in
theorem gX7_days_X7_tiltOn : GoodIn wsX7_days (wsV RX7 134 RX7 yX7_tiltOn wsX7_tiltOn) := goodIn_app (goodIn_of _ (by decide +kernel)) ggX7_days_X7_tiltOn
set_option maxRecDepth 20000 in
theorem ggX7_days_X7_fallen : GoodIn wsX7_days wsX7_fallen := goodIn_r _ [53, 35, 40, 14, 23, 24, 8, 25, 73, 74, 75, 76, 77, 78, 79, 80, 81, 82, 83, 84, 85, 86, 87, 88, 89, 90, 91, 92, 93, 94, 95, 96] (by decide +kernel) (by decide +kernel)
set_option maxRecDepth 20000 in
theorem gX7_days_X7_fallen : GoodIn wsX7_days (wsV RX7 121 RX7 yX7_fallen wsX7_fallen) := goodIn_app (goodIn_of _ (by decide +kernel)) ggX7_days_X7_fallen
theorem dX7_days_0 : decode cX7_days 0 = .ok (.iload_n 1, 1) := by decide +kernel
theorem dX7_days_1 : decode cX7_days 1 = .ok (.i2l, 1) := by decide +kernel
theorem dX7_days_2 : decode cX7_days 2 = .ok (.lconst 1, 1) := by decide +kernel
theorem dX7_days_3 : decode cX7_days 3 = .ok (.ldc2_w 216, 3) := by decide +kernel
theorem dX7_days_6 : decode cX7_days 6 = .ok (.invokestatic 56, 3) := by decide +kernel
theorem dX7_days_9 : decode cX7_days 9 = .ok (.ifCond .ne 6, 3) := by decide +kernel
theorem dX7_days_12 : decode cX7_days 12 = .ok (.bipush (-2), 2) := by decide +kernel
theorem dX7_days_14 : decode cX7_days 14 = .ok (.ireturn, 1) := by decide +kernel
theorem dX7_days_15 : decode cX7_days 15 = .ok (.aload_n 0, 1) := by decide +kernel
theorem dX7_days_16 : decode cX7_days 16 = .ok (.invokevirtual 131, 3) := by decide +kernel
theorem dX7_days_19 : decode cX7_days 19 = .ok (.iconst 0, 1) := by decide +kernel
theorem dX7_days_20 : decode cX7_days 20 = .ok (.istore_n 2, 1) := by decide +kernel
theorem dX7_days_21 : decode cX7_days 21 = .ok (.iconst 0, 1) := by decide +kernel
theorem dX7_days_22 : decode cX7_days 22 = .ok (.istore_n 3, 1) := by decide +kernel
theorem dX7_days_23 : decode cX7_days 23 = .ok (.iload_n 3, 1) := by decide +kernel
theorem dX7_days_24 : decode cX7_days 24 = .ok (.iload_n 1, 1) := by decide +kernel
theorem dX7_days_25 : decode cX7_days 25 = .ok (.if_icmp .ge 75, 3) := by decide +kernel
theorem dX7_days_28 : decode cX7_days 28 = .ok (.aload_n 0, 1) := by decide +kernel
theorem dX7_days_29 : decode cX7_days 29 = .ok (.aload_n 0, 1) := by decide +kernel
theorem dX7_days_30 : decode cX7_days 30 = .ok (.getfield 212, 3) := by decide +kernel
theorem dX7_days_33 : decode cX7_days 33 = .ok (.ldc2_w 218, 3) := by decide +kernel
theorem dX7_days_36 : decode cX7_days 36 = .ok (.lmul, 1) := by decide +kernel
theorem dX7_days_37 : decode cX7_days 37 = .ok (.ldc2_w 220, 3) := by decide +kernel
theorem dX7_days_40 : decode cX7_days 40 = .ok (.ladd, 1) := by decide +kernel
theorem dX7_days_41 : decode cX7_days 41 = .ok (.putfield 212, 3) := by decide +kernel
theorem dX7_days_44 : decode cX7_days 44 = .ok (.aload_n 0, 1) := by decide +kernel
theorem dX7_days_45 : decode cX7_days 45 = .ok (.getfield 212, 3) := by decide +kernel
theorem dX7_days_48 : decode cX7_days 48 = .ok (.bipush 33, 2) := by decide +kernel
theorem dX7_days_50 : decode cX7_days 50 = .ok (.lushr, 1) := by decide +kernel
theorem dX7_days_51 : decode cX7_days 51 = .ok (.ldc2_w 222, 3) := by decide +kernel
theorem dX7_days_54 : decode cX7_days 54 = .ok (.lrem, 1) := by decide +kernel
theorem dX7_days_55 : decode cX7_days 55 = .ok (.l2i, 1) := by decide +kernel
theorem dX7_days_56 : decode cX7_days 56 = .ok (.istore 4, 2) := by decide +kernel
theorem dX7_days_58 : decode cX7_days 58 = .ok (.iload 4, 2) := by decide +kernel
theorem dX7_days_60 : decode cX7_days 60 = .ok (.bipush 25, 2) := by decide +kernel
theorem dX7_days_62 : decode cX7_days 62 = .ok (.if_icmp .ge 13, 3) := by decide +kernel
theorem dX7_days_65 : decode cX7_days 65 = .ok (.aload_n 0, 1) := by decide +kernel
theorem dX7_days_66 : decode cX7_days 66 = .ok (.iload 4, 2) := by decide +kernel
theorem dX7_days_68 : decode cX7_days 68 = .ok (.invokevirtual 171, 3) := by decide +kernel
theorem dX7_days_71 : decode cX7_days 71 = .ok (.pop, 1) := by decide +kernel
theorem dX7_days_72 : decode cX7_days 72 = .ok (.goto 14, 3) := by decide +kernel
theorem dX7_days_75 : decode cX7_days 75 = .ok (.aload_n 0, 1) := by decide +kernel
theorem dX7_days_76 : decode cX7_days 76 = .ok (.iconst 1, 1) := by decide +kernel
theorem dX7_days_77 : decode cX7_days 77 = .ok (.iload 4, 2) := by decide +kernel
theorem dX7_days_79 : decode cX7_days 79 = .ok (.bipush 25, 2) := by decide +kernel
theorem dX7_days_81 : decode cX7_days 81 = .ok (.isub, 1) := by decide +kernel
theorem dX7_days_82 : decode cX7_days 82 = .ok (.invokevirtual 134, 3) := by decide +kernel
theorem dX7_days_85 : decode cX7_days 85 = .ok (.pop, 1) := by decide +kernel
theorem dX7_days_86 : decode cX7_days 86 = .ok (.iload_n 2, 1) := by decide +kernel
theorem dX7_days_87 : decode cX7_days 87 = .ok (.aload_n 0, 1) := by decide +kernel
theorem dX7_days_88 : decode cX7_days 88 = .ok (.iconst 1, 1) := by decide +kernel
theorem dX7_days_89 : decode cX7_days 89 = .ok (.invokevirtual 121, 3) := by decide +kernel
theorem dX7_days_92 : decode cX7_days 92 = .ok (.iadd, 1) := by decide +kernel
theorem dX7_days_93 : decode cX7_days 93 = .ok (.istore_n 2, 1) := by decide +kernel
theorem dX7_days_94 : decode cX7_days 94 = .ok (.iinc 3 1, 3) := by decide +kernel
theorem dX7_days_97 : decode cX7_days 97 = .ok (.goto (-74), 3) := by decide +kernel
theorem dX7_days_100 : decode cX7_days 100 = .ok (.iload_n 2, 1) := by decide +kernel
theorem dX7_days_101 : decode cX7_days 101 = .ok (.ireturn, 1) := by decide +kernel
set_option maxRecDepth 20000 in
theorem ggX7_keep_X7_in : GoodIn wsX7_keep wsX7_in := goodIn_r _ [7] (by decide +kernel) (by decide +kernel)
set_option maxRecDepth 20000 in
theorem gX7_keep_X7_in : GoodIn wsX7_keep (va_wsS RX7 56 yX7_in wsX7_in) := goodIn_app (goodIn_of _ (by decide +kernel)) ggX7_keep_X7_in
theorem dX7_keep_0 : decode cX7_keep 0 = .ok (.iload_n 1, 1) := by decide +kernel
theorem dX7_keep_1 : decode cX7_keep 1 = .ok (.i2l, 1) := by decide +kernel
theorem dX7_keep_2 : decode cX7_keep 2 = .ok (.lconst 0, 1) := by decide +kernel
theorem dX7_keep_3 : decode cX7_keep 3 = .ok (.lconst 1, 1) := by decide +kernel
theorem dX7_keep_4 : decode cX7_keep 4 = .ok (.invokestatic 56, 3) := by decide +kernel
theorem dX7_keep_7 : decode cX7_keep 7 = .ok (.ifCond .ne 5, 3) := by decide +kernel
theorem dX7_keep_10 : decode cX7_keep 10 = .ok (.iconst (-1), 1) := by decide +kernel
theorem dX7_keep_11 : decode cX7_keep 11 = .ok (.ireturn, 1) := by decide +kernel
theorem dX7_keep_12 : decode cX7_keep 12 = .ok (.aload_n 0, 1) := by decide +kernel
theorem dX7_keep_13 : decode cX7_keep 13 = .ok (.getfield 47, 3) := by decide +kernel
theorem dX7_keep_16 : decode cX7_keep 16 = .ok (.iload_n 1, 1) := by decide +kernel
theorem dX7_keep_17 : decode cX7_keep 17 = .ok (.iconst 1, 1) := by decide +kernel
theorem dX7_keep_18 : decode cX7_keep 18 = .ok (.bastore, 1) := by decide +kernel
theorem dX7_keep_19 : decode cX7_keep 19 = .ok (.iconst 0, 1) := by decide +kernel
theorem dX7_keep_20 : decode cX7_keep 20 = .ok (.istore_n 2, 1) := by decide +kernel
theorem dX7_keep_21 : decode cX7_keep 21 = .ok (.iload_n 2, 1) := by decide +kernel
theorem dX7_keep_22 : decode cX7_keep 22 = .ok (.bipush 7, 2) := by decide +kernel
theorem dX7_keep_24 : decode cX7_keep 24 = .ok (.if_icmp .ge 26, 3) := by decide +kernel
theorem dX7_keep_27 : decode cX7_keep 27 = .ok (.aload_n 0, 1) := by decide +kernel
theorem dX7_keep_28 : decode cX7_keep 28 = .ok (.getfield 51, 3) := by decide +kernel
theorem dX7_keep_31 : decode cX7_keep 31 = .ok (.bipush 7, 2) := by decide +kernel
theorem dX7_keep_33 : decode cX7_keep 33 = .ok (.iload_n 1, 1) := by decide +kernel
theorem dX7_keep_34 : decode cX7_keep 34 = .ok (.imul, 1) := by decide +kernel
theorem dX7_keep_35 : decode cX7_keep 35 = .ok (.iload_n 2, 1) := by decide +kernel
theorem dX7_keep_36 : decode cX7_keep 36 = .ok (.iadd, 1) := by decide +kernel
theorem dX7_keep_37 : decode cX7_keep 37 = .ok (.aload_n 0, 1) := by decide +kernel
theorem dX7_keep_38 : decode cX7_keep 38 = .ok (.getfield 16, 3) := by decide +kernel
theorem dX7_keep_41 : decode cX7_keep 41 = .ok (.iload_n 2, 1) := by decide +kernel
theorem dX7_keep_42 : decode cX7_keep 42 = .ok (.iaload, 1) := by decide +kernel
theorem dX7_keep_43 : decode cX7_keep 43 = .ok (.iastore, 1) := by decide +kernel
theorem dX7_keep_44 : decode cX7_keep 44 = .ok (.iinc 2 1, 3) := by decide +kernel
theorem dX7_keep_47 : decode cX7_keep 47 = .ok (.goto (-26), 3) := by decide +kernel
theorem dX7_keep_50 : decode cX7_keep 50 = .ok (.aload_n 0, 1) := by decide +kernel
theorem dX7_keep_51 : decode cX7_keep 51 = .ok (.getfield 16, 3) := by decide +kernel
theorem dX7_keep_54 : decode cX7_keep 54 = .ok (.bipush 6, 2) := by decide +kernel
theorem dX7_keep_56 : decode cX7_keep 56 = .ok (.iaload, 1) := by decide +kernel
theorem dX7_keep_57 : decode cX7_keep 57 = .ok (.ireturn, 1) := by decide +kernel
set_option maxRecDepth 20000 in
theorem ggX7_again_X7_in : GoodIn wsX7_again wsX7_in := goodIn_r _ [8] (by decide +kernel) (by decide +kernel)
set_option maxRecDepth 20000 in
theorem gX7_again_X7_in : GoodIn wsX7_again (va_wsS RX7 56 yX7_in wsX7_in) := goodIn_app (goodIn_of _ (by decide +kernel)) ggX7_again_X7_in
theorem dX7_again_0 : decode cX7_again 0 = .ok (.iload_n 1, 1) := by decide +kernel
theorem dX7_again_1 : decode cX7_again 1 = .ok (.i2l, 1) := by decide +kernel
theorem dX7_again_2 : decode cX7_again 2 = .ok (.lconst 0, 1) := by decide +kernel
theorem dX7_again_3 : decode cX7_again 3 = .ok (.lconst 1, 1) := by decide +kernel
theorem dX7_again_4 : decode cX7_again 4 = .ok (.invokestatic 56, 3) := by decide +kernel
theorem dX7_again_7 : decode cX7_again 7 = .ok (.ifCond .ne 5, 3) := by decide +kernel
theorem dX7_again_10 : decode cX7_again 10 = .ok (.iconst (-1), 1) := by decide +kernel
theorem dX7_again_11 : decode cX7_again 11 = .ok (.ireturn, 1) := by decide +kernel
theorem dX7_again_12 : decode cX7_again 12 = .ok (.aload_n 0, 1) := by decide +kernel
theorem dX7_again_13 : decode cX7_again 13 = .ok (.getfield 47, 3) := by decide +kernel
theorem dX7_again_16 : decode cX7_again 16 = .ok (.iload_n 1, 1) := by decide +kernel
theorem dX7_again_17 : decode cX7_again 17 = .ok (.baload, 1) := by decide +kernel
theorem dX7_again_18 : decode cX7_again 18 = .ok (.ifCond .ne 6, 3) := by decide +kernel
theorem dX7_again_21 : decode cX7_again 21 = .ok (.bipush (-3), 2) := by decide +kernel
theorem dX7_again_23 : decode cX7_again 23 = .ok (.ireturn, 1) := by decide +kernel
theorem dX7_again_24 : decode cX7_again 24 = .ok (.iconst 0, 1) := by decide +kernel
theorem dX7_again_25 : decode cX7_again 25 = .ok (.istore_n 2, 1) := by decide +kernel
theorem dX7_again_26 : decode cX7_again 26 = .ok (.iload_n 2, 1) := by decide +kernel
theorem dX7_again_27 : decode cX7_again 27 = .ok (.bipush 7, 2) := by decide +kernel
theorem dX7_again_29 : decode cX7_again 29 = .ok (.if_icmp .ge 26, 3) := by decide +kernel
theorem dX7_again_32 : decode cX7_again 32 = .ok (.aload_n 0, 1) := by decide +kernel
theorem dX7_again_33 : decode cX7_again 33 = .ok (.getfield 16, 3) := by decide +kernel
theorem dX7_again_36 : decode cX7_again 36 = .ok (.iload_n 2, 1) := by decide +kernel
theorem dX7_again_37 : decode cX7_again 37 = .ok (.aload_n 0, 1) := by decide +kernel
theorem dX7_again_38 : decode cX7_again 38 = .ok (.getfield 51, 3) := by decide +kernel
theorem dX7_again_41 : decode cX7_again 41 = .ok (.bipush 7, 2) := by decide +kernel
theorem dX7_again_43 : decode cX7_again 43 = .ok (.iload_n 1, 1) := by decide +kernel
theorem dX7_again_44 : decode cX7_again 44 = .ok (.imul, 1) := by decide +kernel
theorem dX7_again_45 : decode cX7_again 45 = .ok (.iload_n 2, 1) := by decide +kernel
theorem dX7_again_46 : decode cX7_again 46 = .ok (.iadd, 1) := by decide +kernel
theorem dX7_again_47 : decode cX7_again 47 = .ok (.iaload, 1) := by decide +kernel
theorem dX7_again_48 : decode cX7_again 48 = .ok (.iastore, 1) := by decide +kernel
theorem dX7_again_49 : decode cX7_again 49 = .ok (.iinc 2 1, 3) := by decide +kernel
theorem dX7_again_52 : decode cX7_again 52 = .ok (.goto (-26), 3) := by decide +kernel
theorem dX7_again_55 : decode cX7_again 55 = .ok (.aload_n 0, 1) := by decide +kernel
theorem dX7_again_56 : decode cX7_again 56 = .ok (.iconst 0, 1) := by decide +kernel
theorem dX7_again_57 : decode cX7_again 57 = .ok (.putfield 95, 3) := by decide +kernel
theorem dX7_again_60 : decode cX7_again 60 = .ok (.aload_n 0, 1) := by decide +kernel
theorem dX7_again_61 : decode cX7_again 61 = .ok (.getfield 16, 3) := by decide +kernel
theorem dX7_again_64 : decode cX7_again 64 = .ok (.bipush 6, 2) := by decide +kernel
theorem dX7_again_66 : decode cX7_again 66 = .ok (.iaload, 1) := by decide +kernel
theorem dX7_again_67 : decode cX7_again 67 = .ok (.ireturn, 1) := by decide +kernel
theorem dX7_lying_0 : decode cX7_lying 0 = .ok (.iconst 0, 1) := by decide +kernel
theorem dX7_lying_1 : decode cX7_lying 1 = .ok (.istore_n 1, 1) := by decide +kernel
theorem dX7_lying_2 : decode cX7_lying 2 = .ok (.iconst 0, 1) := by decide +kernel
theorem dX7_lying_3 : decode cX7_lying 3 = .ok (.istore_n 2, 1) := by decide +kernel
theorem dX7_lying_4 : decode cX7_lying 4 = .ok (.iload_n 2, 1) := by decide +kernel
theorem dX7_lying_5 : decode cX7_lying 5 = .ok (.aload_n 0, 1) := by decide +kernel
theorem dX7_lying_6 : decode cX7_lying 6 = .ok (.getfield 92, 3) := by decide +kernel
theorem dX7_lying_9 : decode cX7_lying 9 = .ok (.if_icmp .ge 35, 3) := by decide +kernel
theorem dX7_lying_12 : decode cX7_lying 12 = .ok (.iload_n 1, 1) := by decide +kernel
theorem dX7_lying_13 : decode cX7_lying 13 = .ok (.aload_n 0, 1) := by decide +kernel
theorem dX7_lying_14 : decode cX7_lying 14 = .ok (.getfield 16, 3) := by decide +kernel
theorem dX7_lying_17 : decode cX7_lying 17 = .ok (.iload_n 2, 1) := by decide +kernel
theorem dX7_lying_18 : decode cX7_lying 18 = .ok (.iaload, 1) := by decide +kernel
theorem dX7_lying_19 : decode cX7_lying 19 = .ok (.bipush 100, 2) := by decide +kernel
theorem dX7_lying_21 : decode cX7_lying 21 = .ok (.if_icmp .ge 14, 3) := by decide +kernel
theorem dX7_lying_24 : decode cX7_lying 24 = .ok (.iconst 1, 1) := by decide +kernel
theorem dX7_lying_25 : decode cX7_lying 25 = .ok (.aload_n 0, 1) := by decide +kernel
theorem dX7_lying_26 : decode cX7_lying 26 = .ok (.getfield 16, 3) := by decide +kernel
theorem dX7_lying_29 : decode cX7_lying 29 = .ok (.iload_n 2, 1) := by decide +kernel
theorem dX7_lying_30 : decode cX7_lying 30 = .ok (.iaload, 1) := by decide +kernel
theorem dX7_lying_31 : decode cX7_lying 31 = .ok (.ishl, 1) := by decide +kernel
theorem dX7_lying_32 : decode cX7_lying 32 = .ok (.goto 4, 3) := by decide +kernel
theorem dX7_lying_35 : decode cX7_lying 35 = .ok (.iconst 0, 1) := by decide +kernel
theorem dX7_lying_36 : decode cX7_lying 36 = .ok (.ior, 1) := by decide +kernel
theorem dX7_lying_37 : decode cX7_lying 37 = .ok (.istore_n 1, 1) := by decide +kernel
theorem dX7_lying_38 : decode cX7_lying 38 = .ok (.iinc 2 1, 3) := by decide +kernel
theorem dX7_lying_41 : decode cX7_lying 41 = .ok (.goto (-37), 3) := by decide +kernel
theorem dX7_lying_44 : decode cX7_lying 44 = .ok (.iload_n 1, 1) := by decide +kernel
theorem dX7_lying_45 : decode cX7_lying 45 = .ok (.ireturn, 1) := by decide +kernel
set_option maxRecDepth 20000 in
theorem ggX7_count_X7_lying : GoodIn wsX7_count wsX7_lying := goodIn_r _ [11, 2, 4, 12, 13, 14, 15, 16, 17, 18, 19, 20, 21, 22, 23, 24, 25, 26, 27, 28, 29, 30, 31, 32, 33, 34, 35] (by decide +kernel) (by decide +kernel)
set_option maxRecDepth 20000 in
theorem gX7_count_X7_lying : GoodIn wsX7_count (wsV RX7 224 RX7 yX7_lying wsX7_lying) := goodIn_app (goodIn_of _ (by decide +kernel)) ggX7_count_X7_lying
theorem dX7_count_0 : decode cX7_count 0 = .ok (.iload_n 1, 1) := by decide +kernel
theorem dX7_count_1 : decode cX7_count 1 = .ok (.tableswitch 138 0 11 #[63, 68, 73, 80, 87, 94, 101, 106, 113, 120, 128, 133], 63) := by decide +kernel
theorem dX7_count_64 : decode cX7_count 64 = .ok (.aload_n 0, 1) := by decide +kernel
theorem dX7_count_65 : decode cX7_count 65 = .ok (.getfield 60, 3) := by decide +kernel
theorem dX7_count_68 : decode cX7_count 68 = .ok (.ireturn, 1) := by decide +kernel
theorem dX7_count_69 : decode cX7_count 69 = .ok (.aload_n 0, 1) := by decide +kernel
theorem dX7_count_70 : decode cX7_count 70 = .ok (.getfield 92, 3) := by decide +kernel
theorem dX7_count_73 : decode cX7_count 73 = .ok (.ireturn, 1) := by decide +kernel
theorem dX7_count_74 : decode cX7_count 74 = .ok (.aload_n 0, 1) := by decide +kernel
theorem dX7_count_75 : decode cX7_count 75 = .ok (.getfield 13, 3) := by decide +kernel
theorem dX7_count_78 : decode cX7_count 78 = .ok (.iconst 0, 1) := by decide +kernel
theorem dX7_count_79 : decode cX7_count 79 = .ok (.iaload, 1) := by decide +kernel
theorem dX7_count_80 : decode cX7_count 80 = .ok (.ireturn, 1) := by decide +kernel
theorem dX7_count_81 : decode cX7_count 81 = .ok (.aload_n 0, 1) := by decide +kernel
theorem dX7_count_82 : decode cX7_count 82 = .ok (.getfield 13, 3) := by decide +kernel
theorem dX7_count_85 : decode cX7_count 85 = .ok (.iconst 1, 1) := by decide +kernel
theorem dX7_count_86 : decode cX7_count 86 = .ok (.iaload, 1) := by decide +kernel
theorem dX7_count_87 : decode cX7_count 87 = .ok (.ireturn, 1) := by decide +kernel
theorem dX7_count_88 : decode cX7_count 88 = .ok (.aload_n 0, 1) := by decide +kernel
theorem dX7_count_89 : decode cX7_count 89 = .ok (.getfield 13, 3) := by decide +kernel
theorem dX7_count_92 : decode cX7_count 92 = .ok (.iconst 2, 1) := by decide +kernel
theorem dX7_count_93 : decode cX7_count 93 = .ok (.iaload, 1) := by decide +kernel
theorem dX7_count_94 : decode cX7_count 94 = .ok (.ireturn, 1) := by decide +kernel
theorem dX7_count_95 : decode cX7_count 95 = .ok (.aload_n 0, 1) := by decide +kernel
theorem dX7_count_96 : decode cX7_count 96 = .ok (.getfield 13, 3) := by decide +kernel
theorem dX7_count_99 : decode cX7_count 99 = .ok (.iconst 3, 1) := by decide +kernel
theorem dX7_count_100 : decode cX7_count 100 = .ok (.iaload, 1) := by decide +kernel
theorem dX7_count_101 : decode cX7_count 101 = .ok (.ireturn, 1) := by decide +kernel
theorem dX7_count_102 : decode cX7_count 102 = .ok (.aload_n 0, 1) := by decide +kernel
theorem dX7_count_103 : decode cX7_count 103 = .ok (.invokevirtual 224, 3) := by decide +kernel
theorem dX7_count_106 : decode cX7_count 106 = .ok (.ireturn, 1) := by decide +kernel
theorem dX7_count_107 : decode cX7_count 107 = .ok (.aload_n 0, 1) := by decide +kernel
theorem dX7_count_108 : decode cX7_count 108 = .ok (.getfield 16, 3) := by decide +kernel
theorem dX7_count_111 : decode cX7_count 111 = .ok (.iconst 4, 1) := by decide +kernel
theorem dX7_count_112 : decode cX7_count 112 = .ok (.iaload, 1) := by decide +kernel
theorem dX7_count_113 : decode cX7_count 113 = .ok (.ireturn, 1) := by decide +kernel
theorem dX7_count_114 : decode cX7_count 114 = .ok (.aload_n 0, 1) := by decide +kernel
theorem dX7_count_115 : decode cX7_count 115 = .ok (.getfield 16, 3) := by decide +kernel
theorem dX7_count_118 : decode cX7_count 118 = .ok (.iconst 5, 1) := by decide +kernel
theorem dX7_count_119 : decode cX7_count 119 = .ok (.iaload, 1) := by decide +kernel
theorem dX7_count_120 : decode cX7_count 120 = .ok (.ireturn, 1) := by decide +kernel
theorem dX7_count_121 : decode cX7_count 121 = .ok (.aload_n 0, 1) := by decide +kernel
theorem dX7_count_122 : decode cX7_count 122 = .ok (.getfield 16, 3) := by decide +kernel
theorem dX7_count_125 : decode cX7_count 125 = .ok (.bipush 6, 2) := by decide +kernel
theorem dX7_count_127 : decode cX7_count 127 = .ok (.iaload, 1) := by decide +kernel
theorem dX7_count_128 : decode cX7_count 128 = .ok (.ireturn, 1) := by decide +kernel
theorem dX7_count_129 : decode cX7_count 129 = .ok (.aload_n 0, 1) := by decide +kernel
theorem dX7_count_130 : decode cX7_count 130 = .ok (.getfield 95, 3) := by decide +kernel
theorem dX7_count_133 : decode cX7_count 133 = .ok (.ireturn, 1) := by decide +kernel
theorem dX7_count_134 : decode cX7_count 134 = .ok (.aload_n 0, 1) := by decide +kernel
theorem dX7_count_135 : decode cX7_count 135 = .ok (.getfield 185, 3) := by decide +kernel
theorem dX7_count_138 : decode cX7_count 138 = .ok (.ireturn, 1) := by decide +kernel
theorem dX7_count_139 : decode cX7_count 139 = .ok (.bipush (-2), 2) := by decide +kernel
theorem dX7_count_141 : decode cX7_count 141 = .ok (.ireturn, 1) := by decide +kernel
theorem dJ6_bitCount_0f7a4_0 : decode cJ6_bitCount_0f7a4 0 = .ok (.iload_n 0, 1) := by decide +kernel
theorem dJ6_bitCount_0f7a4_1 : decode cJ6_bitCount_0f7a4 1 = .ok (.iload_n 0, 1) := by decide +kernel
theorem dJ6_bitCount_0f7a4_2 : decode cJ6_bitCount_0f7a4 2 = .ok (.iconst 1, 1) := by decide +kernel
theorem dJ6_bitCount_0f7a4_3 : decode cJ6_bitCount_0f7a4 3 = .ok (.iushr, 1) := by decide +kernel
theorem dJ6_bitCount_0f7a4_4 : decode cJ6_bitCount_0f7a4 4 = .ok (.ldc_w 265, 3) := by decide +kernel
theorem dJ6_bitCount_0f7a4_7 : decode cJ6_bitCount_0f7a4 7 = .ok (.iand, 1) := by decide +kernel
theorem dJ6_bitCount_0f7a4_8 : decode cJ6_bitCount_0f7a4 8 = .ok (.isub, 1) := by decide +kernel
theorem dJ6_bitCount_0f7a4_9 : decode cJ6_bitCount_0f7a4 9 = .ok (.istore_n 0, 1) := by decide +kernel
theorem dJ6_bitCount_0f7a4_10 : decode cJ6_bitCount_0f7a4 10 = .ok (.iload_n 0, 1) := by decide +kernel
theorem dJ6_bitCount_0f7a4_11 : decode cJ6_bitCount_0f7a4 11 = .ok (.ldc_w 266, 3) := by decide +kernel
theorem dJ6_bitCount_0f7a4_14 : decode cJ6_bitCount_0f7a4 14 = .ok (.iand, 1) := by decide +kernel
theorem dJ6_bitCount_0f7a4_15 : decode cJ6_bitCount_0f7a4 15 = .ok (.iload_n 0, 1) := by decide +kernel
theorem dJ6_bitCount_0f7a4_16 : decode cJ6_bitCount_0f7a4 16 = .ok (.iconst 2, 1) := by decide +kernel
theorem dJ6_bitCount_0f7a4_17 : decode cJ6_bitCount_0f7a4 17 = .ok (.iushr, 1) := by decide +kernel
theorem dJ6_bitCount_0f7a4_18 : decode cJ6_bitCount_0f7a4 18 = .ok (.ldc_w 266, 3) := by decide +kernel
theorem dJ6_bitCount_0f7a4_21 : decode cJ6_bitCount_0f7a4 21 = .ok (.iand, 1) := by decide +kernel
theorem dJ6_bitCount_0f7a4_22 : decode cJ6_bitCount_0f7a4 22 = .ok (.iadd, 1) := by decide +kernel
theorem dJ6_bitCount_0f7a4_23 : decode cJ6_bitCount_0f7a4 23 = .ok (.istore_n 0, 1) := by decide +kernel
theorem dJ6_bitCount_0f7a4_24 : decode cJ6_bitCount_0f7a4 24 = .ok (.iload_n 0, 1) := by decide +kernel
theorem dJ6_bitCount_0f7a4_25 : decode cJ6_bitCount_0f7a4 25 = .ok (.iload_n 0, 1) := by decide +kernel
theorem dJ6_bitCount_0f7a4_26 : decode cJ6_bitCount_0f7a4 26 = .ok (.iconst 4, 1) := by decide +kernel
theorem dJ6_bitCount_0f7a4_27 : decode cJ6_bitCount_0f7a4 27 = .ok (.iushr, 1) := by decide +kernel
theorem dJ6_bitCount_0f7a4_28 : decode cJ6_bitCount_0f7a4 28 = .ok (.iadd, 1) := by decide +kernel
theorem dJ6_bitCount_0f7a4_29 : decode cJ6_bitCount_0f7a4 29 = .ok (.ldc_w 267, 3) := by decide +kernel
theorem dJ6_bitCount_0f7a4_32 : decode cJ6_bitCount_0f7a4 32 = .ok (.iand, 1) := by decide +kernel
theorem dJ6_bitCount_0f7a4_33 : decode cJ6_bitCount_0f7a4 33 = .ok (.istore_n 0, 1) := by decide +kernel
theorem dJ6_bitCount_0f7a4_34 : decode cJ6_bitCount_0f7a4 34 = .ok (.iload_n 0, 1) := by decide +kernel
theorem dJ6_bitCount_0f7a4_35 : decode cJ6_bitCount_0f7a4 35 = .ok (.iload_n 0, 1) := by decide +kernel
theorem dJ6_bitCount_0f7a4_36 : decode cJ6_bitCount_0f7a4 36 = .ok (.bipush 8, 2) := by decide +kernel
theorem dJ6_bitCount_0f7a4_38 : decode cJ6_bitCount_0f7a4 38 = .ok (.iushr, 1) := by decide +kernel
theorem dJ6_bitCount_0f7a4_39 : decode cJ6_bitCount_0f7a4 39 = .ok (.iadd, 1) := by decide +kernel
theorem dJ6_bitCount_0f7a4_40 : decode cJ6_bitCount_0f7a4 40 = .ok (.istore_n 0, 1) := by decide +kernel
theorem dJ6_bitCount_0f7a4_41 : decode cJ6_bitCount_0f7a4 41 = .ok (.iload_n 0, 1) := by decide +kernel
theorem dJ6_bitCount_0f7a4_42 : decode cJ6_bitCount_0f7a4 42 = .ok (.iload_n 0, 1) := by decide +kernel
theorem dJ6_bitCount_0f7a4_43 : decode cJ6_bitCount_0f7a4 43 = .ok (.bipush 16, 2) := by decide +kernel
theorem dJ6_bitCount_0f7a4_45 : decode cJ6_bitCount_0f7a4 45 = .ok (.iushr, 1) := by decide +kernel
theorem dJ6_bitCount_0f7a4_46 : decode cJ6_bitCount_0f7a4 46 = .ok (.iadd, 1) := by decide +kernel
theorem dJ6_bitCount_0f7a4_47 : decode cJ6_bitCount_0f7a4 47 = .ok (.istore_n 0, 1) := by decide +kernel
theorem dJ6_bitCount_0f7a4_48 : decode cJ6_bitCount_0f7a4 48 = .ok (.iload_n 0, 1) := by decide +kernel
theorem dJ6_bitCount_0f7a4_49 : decode cJ6_bitCount_0f7a4 49 = .ok (.bipush 63, 2) := by decide +kernel
theorem dJ6_bitCount_0f7a4_51 : decode cJ6_bitCount_0f7a4 51 = .ok (.iand, 1) := by decide +kernel
theorem dJ6_bitCount_0f7a4_52 : decode cJ6_bitCount_0f7a4 52 = .ok (.ireturn, 1) := by decide +kernel
theorem dJ9_abs_0f7a4_0 : decode cJ9_abs_0f7a4 0 = .ok (.iload_n 0, 1) := by decide +kernel
theorem dJ9_abs_0f7a4_1 : decode cJ9_abs_0f7a4 1 = .ok (.ifCond .ge 8, 3) := by decide +kernel
theorem dJ9_abs_0f7a4_4 : decode cJ9_abs_0f7a4 4 = .ok (.iload_n 0, 1) := by decide +kernel
theorem dJ9_abs_0f7a4_5 : decode cJ9_abs_0f7a4 5 = .ok (.ineg, 1) := by decide +kernel
theorem dJ9_abs_0f7a4_6 : decode cJ9_abs_0f7a4 6 = .ok (.goto 4, 3) := by decide +kernel
theorem dJ9_abs_0f7a4_9 : decode cJ9_abs_0f7a4 9 = .ok (.iload_n 0, 1) := by decide +kernel
theorem dJ9_abs_0f7a4_10 : decode cJ9_abs_0f7a4 10 = .ok (.ireturn, 1) := by decide +kernel
theorem dJ9_min_7cf53_0 : decode cJ9_min_7cf53 0 = .ok (.iload_n 0, 1) := by decide +kernel
theorem dJ9_min_7cf53_1 : decode cJ9_min_7cf53 1 = .ok (.iload_n 1, 1) := by decide +kernel
theorem dJ9_min_7cf53_2 : decode cJ9_min_7cf53 2 = .ok (.if_icmp .gt 7, 3) := by decide +kernel
theorem dJ9_min_7cf53_5 : decode cJ9_min_7cf53 5 = .ok (.iload_n 0, 1) := by decide +kernel
theorem dJ9_min_7cf53_6 : decode cJ9_min_7cf53 6 = .ok (.goto 4, 3) := by decide +kernel
theorem dJ9_min_7cf53_9 : decode cJ9_min_7cf53 9 = .ok (.iload_n 1, 1) := by decide +kernel
theorem dJ9_min_7cf53_10 : decode cJ9_min_7cf53 10 = .ok (.ireturn, 1) := by decide +kernel
set_option maxRecDepth 20000 in
theorem ggL_law_X6_init : GoodIn wsL_law wsX6_init := goodIn_r _ [9, 10, 11, 12, 13, 14, 15, 16, 17, 18, 19, 20, 21, 22, 23, 24, 25, 26, 27, 28, 29, 30, 31, 32, 33, 34, 35, 36, 37, 38, 39, 40, 41, 42, 43, 44, 45, 46, 47, 48, 49, 50, 51, 52, 53, 54, 55, 56, 57, 58, 59, 60, 61, 62, 63, 64, 65, 66, 67, 68, 69, 70, 71, 72, 73, 74, 75, 76, 785, 786, 787, 788, 789, 790, 791, 792, 793, 794, 795, 796, 797, 798, 823, 824, 825, 826, 827, 828, 829, 830, 831, 832, 833, 834, 835, 836, 837, 838, 839, 840, 841, 842, 843, 844, 845] (by decide +kernel) (by decide +kernel)
set_option maxRecDepth 20000 in
theorem gL_law_X6_init : GoodIn wsL_law (wsX6_init) := ggL_law_X6_init
set_option maxRecDepth 20000 in
theorem ggL_law_X7_init : GoodIn wsL_law wsX7_init := goodIn_r _ [79, 80, 11, 12, 42, 81, 82, 83, 84, 85, 86, 87, 88, 89, 90, 91, 92, 93, 94, 95, 799, 800, 801, 802, 803, 804, 805, 806, 807, 808, 809, 810, 811, 812, 813, 814, 815, 816, 817, 818, 819, 820, 821, 822] (by decide +kernel) (by decide +kernel)
set_option maxRecDepth 20000 in
theorem gL_law_X7_init : GoodIn wsL_law (wsX7_init) := ggL_law_X7_init
set_option maxRecDepth 20000 in
theorem ggL_law_X6_write : GoodIn wsL_law wsX6_write := goodIn_r _ [99, 100, 14, 785, 786, 787, 788, 789, 790, 791, 792, 793, 794, 795, 796, 797, 798] (by decide +kernel) (by decide +kernel)
set_option maxRecDepth 20000 in
theorem gL_law_X6_write : GoodIn wsL_law (wsV RL 13 RX6 yX6_write wsX6_write) := goodIn_app (goodIn_of _ (by decide +kernel)) ggL_law_X6_write
set_option maxRecDepth 20000 in
theorem ggL_law_X7_write : GoodIn wsL_law wsX7_write := goodIn_r _ [104, 105, 106, 87, 107, 108, 5, 109, 799, 800, 801, 802, 803, 804, 805, 806, 807, 808, 809, 810, 811, 812, 813, 814, 815, 816, 817, 818, 819, 820, 821, 822] (by decide +kernel) (by decide +kernel)
set_option maxRecDepth 20000 in
theorem gL_law_X7_write : GoodIn wsL_law (wsV RL 17 RX7 yX7_write wsX7_write) := goodIn_app (goodIn_of _ (by decide +kernel)) ggL_law_X7_write
set_option maxRecDepth 20000 in
theorem ggL_law_X6_wipe : GoodIn wsL_law wsX6_wipe := goodIn_r _ [113, 100, 785, 786, 787, 788, 789, 790, 791, 792, 793, 794, 795, 796, 797, 798] (by decide +kernel) (by decide +kernel)
set_option maxRecDepth 20000 in
theorem gL_law_X6_wipe : GoodIn wsL_law (wsV RL 18 RX6 yX6_wipe wsX6_wipe) := goodIn_app (goodIn_of _ (by decide +kernel)) ggL_law_X6_wipe
set_option maxRecDepth 20000 in
theorem ggL_law_X7_wipe : GoodIn wsL_law wsX7_wipe := goodIn_r _ [117, 106, 799, 800, 801, 802, 803, 804, 805, 806, 807, 808, 809, 810, 811, 812, 813, 814, 815, 816, 817, 818, 819, 820, 821, 822] (by decide +kernel) (by decide +kernel)
set_option maxRecDepth 20000 in
theorem gL_law_X7_wipe : GoodIn wsL_law (wsV RL 22 RX7 yX7_wipe wsX7_wipe) := goodIn_app (goodIn_of _ (by decide +kernel)) ggL_law_X7_wipe
set_option maxRecDepth 20000 in
theorem ggL_law_X6_fault : GoodIn wsL_law wsX6_fault := goodIn_r _ [121, 122, 123, 124, 2, 125, 19, 100, 14, 126, 127, 128, 17, 129, 47, 130, 131, 132, 133, 134, 135, 136, 137, 138, 139, 140, 141, 142, 143, 144, 145, 146, 147, 148, 149, 150, 151, 152, 153, 154, 155, 156, 157, 158, 159, 160, 161, 162, 163, 164, 165, 166, 48, 49, 167, 168, 169, 170, 171, 172, 785, 786, 787, 788, 789, 790, 791, 792, 793, 794, 795, 796, 797, 798, 823, 824, 825, 826, 827] (by decide +kernel) (by decide +kernel)
set_option maxRecDepth 20000 in
theorem gL_law_X6_fault : GoodIn wsL_law (wsV RL 23 RX6 yX6_fault wsX6_fault) := goodIn_app (goodIn_of _ (by decide +kernel)) ggL_law_X6_fault
set_option maxRecDepth 20000 in
theorem ggL_law_X7_fault : GoodIn wsL_law wsX7_fault := goodIn_r _ [176, 177, 178, 179, 5, 180, 181, 182, 84, 106, 87, 183, 184, 185, 186, 187, 188, 189, 190, 191, 192, 193, 194, 195, 85, 86, 107, 108, 109, 196, 197, 198, 799, 800, 801, 802, 803, 804, 805, 806, 807, 808, 809, 810, 811, 812, 813, 814, 815, 816, 817, 818, 819, 820, 821, 822] (by decide +kernel) (by decide +kernel)
set_option maxRecDepth 20000 in
theorem gL_law_X7_fault : GoodIn wsL_law (wsV RL 26 RX7 yX7_fault wsX7_fault) := goodIn_app (goodIn_of _ (by decide +kernel)) ggL_law_X7_fault
set_option maxRecDepth 20000 in
theorem ggL_law_X6_table : GoodIn wsL_law wsX6_table := goodIn_r _ [202, 19, 18, 23, 28, 203, 204, 205, 122, 123, 124, 2, 125, 100, 14, 126, 127, 128, 17, 129, 47, 130, 131, 132, 133, 134, 135, 136, 137, 138, 139, 140, 141, 142, 143, 144, 145, 146, 147, 148, 149, 150, 151, 152, 153, 154, 155, 156, 157, 158, 159, 160, 161, 162, 163, 164, 165, 166, 48, 49, 167, 168, 169, 170, 171, 172, 206, 207, 208, 22, 209, 210, 211, 212, 213, 214, 53, 215, 216, 217, 218, 219, 27, 220, 221, 222, 223, 785, 786, 787, 788, 789, 790, 791, 792, 793, 794, 795, 796, 797, 798, 823, 824, 825, 826, 827, 828, 829, 830, 831, 832, 833, 834, 835] (by decide +kernel) (by decide +kernel)
set_option maxRecDepth 20000 in
theorem gL_law_X6_table : GoodIn wsL_law (wsV RL 27 RX6 yX6_table wsX6_table) := goodIn_app (goodIn_of _ (by decide +kernel)) ggL_law_X6_table
set_option maxRecDepth 20000 in
theorem ggL_law_X7_table : GoodIn wsL_law wsX7_table := goodIn_r _ [227, 82, 84, 228, 83, 85, 81, 86, 229, 94, 177, 178, 179, 5, 180, 181, 182, 106, 87, 183, 184, 185, 186, 187, 188, 189, 190, 191, 192, 193, 194, 195, 107, 108, 109, 196, 197, 198, 799, 800, 801, 802, 803, 804, 805, 806, 807, 808, 809, 810, 811, 812, 813, 814, 815, 816, 817, 818, 819, 820, 821, 822] (by decide +kernel) (by decide +kernel)
set_option maxRecDepth 20000 in
theorem gL_law_X7_table : GoodIn wsL_law (wsV RL 30 RX7 yX7_table wsX7_table) := goodIn_app (goodIn_of _ (by decide +kernel)) ggL_law_X7_table
set_option maxRecDepth 20000 in
theorem ggL_law_X6_cell : GoodIn wsL_law wsX6_cell := goodIn_r _ [233, 18, 23, 234, 235, 150, 151, 2, 152, 236, 237, 238, 17, 239, 47, 157, 158, 240, 241, 242, 22, 243, 53, 244, 785, 786, 787, 788, 789, 790, 791, 792, 793, 794, 795, 796, 797, 798, 828, 829, 830, 831, 832, 823, 824, 825, 826, 827] (by decide +kernel) (by decide +kernel)
set_option maxRecDepth 20000 in
theorem gL_law_X6_cell : GoodIn wsL_law (wsV RL 31 RX6 yX6_cell wsX6_cell) := goodIn_app (goodIn_of _ (by decide +kernel)) ggL_law_X6_cell
set_option maxRecDepth 20000 in
theorem ggL_law_X7_cell : GoodIn wsL_law wsX7_cell := goodIn_r _ [248, 82, 83, 249, 250, 5, 251, 194, 107, 108, 109, 196, 197, 198, 252, 253, 254, 255, 228, 256, 257, 258, 259, 88, 799, 800, 801, 802, 803, 804, 805, 806, 807, 808, 809, 810, 811, 812, 813, 814, 815, 816, 817, 818, 819, 820, 821, 822] (by decide +kernel) (by decide +kernel)
set_option maxRecDepth 20000 in
theorem gL_law_X7_cell : GoodIn wsL_law (wsV RL 35 RX7 yX7_cell wsX7_cell) := goodIn_app (goodIn_of _ (by decide +kernel)) ggL_law_X7_cell
set_option maxRecDepth 20000 in
theorem ggL_law_X6_marble : GoodIn wsL_law wsX6_marble := goodIn_r _ [263, 18, 264, 23, 265, 266, 267, 268, 17, 269, 130, 270, 271, 272, 2, 273, 274, 275, 276, 277, 24, 278, 279, 280, 281, 282, 283, 284, 22, 285, 53, 211, 212, 213, 214, 286, 287, 288, 289, 290, 291, 292, 293, 294, 48, 131, 151, 152, 157, 158, 295, 296, 297, 298, 171, 172, 299, 300, 301, 302, 47, 303, 304, 305, 306, 307, 308, 309, 310, 311, 312, 313, 314, 315, 316, 317, 318, 319, 320, 321, 322, 323, 324, 325, 326, 327, 328, 329, 785, 786, 787, 788, 789, 790, 791, 792, 793, 794, 795, 796, 797, 798, 823, 824, 825, 826, 827, 828, 829, 830, 831, 832] (by decide +kernel) (by decide +kernel)
set_option maxRecDepth 20000 in
theorem gL_law_X6_marble : GoodIn wsL_law (wsV RL 36 RX6 yX6_marble wsX6_marble) := goodIn_app (goodIn_of _ (by decide +kernel)) ggL_law_X6_marble
set_option maxRecDepth 20000 in
theorem ggL_law_X7_marble : GoodIn wsL_law wsX7_marble := goodIn_r _ [333, 81, 83, 334, 335, 336, 5, 337, 228, 107, 108, 109, 338, 339, 340, 341, 342, 343, 344, 345, 346, 347, 348, 349, 350, 351, 352, 353, 354, 88, 196, 197, 198, 256, 257, 258, 259, 355, 356, 357, 358, 82, 359, 360, 361, 362, 363, 364, 365, 366, 367, 368, 369, 252, 253, 254, 255, 370, 371, 372, 373, 799, 800, 801, 802, 803, 804, 805, 806, 807, 808, 809, 810, 811, 812, 813, 814, 815, 816, 817, 818, 819, 820, 821, 822] (by decide +kernel) (by decide +kernel)
set_option maxRecDepth 20000 in
theorem gL_law_X7_marble : GoodIn wsL_law (wsV RL 39 RX7 yX7_marble wsX7_marble) := goodIn_app (goodIn_of _ (by decide +kernel)) ggL_law_X7_marble
set_option maxRecDepth 20000 in
theorem ggL_law_X6_tilt : GoodIn wsL_law wsX6_tilt := goodIn_r _ [377, 28, 23, 18, 378, 379, 380, 2, 381, 382, 383, 384, 27, 385, 59, 221, 222, 386, 283, 284, 22, 285, 53, 211, 212, 213, 214, 387, 388, 389, 390, 391, 392, 393, 394, 395, 327, 328, 329, 286, 287, 288, 17, 289, 130, 290, 291, 292, 293, 294, 48, 131, 151, 152, 157, 158, 295, 296, 297, 298, 171, 172, 299, 300, 301, 302, 47, 303, 304, 305, 306, 307, 308, 309, 310, 311, 312, 313, 314, 315, 316, 317, 318, 319, 320, 321, 785, 786, 787, 788, 789, 790, 791, 792, 793, 794, 795, 796, 797, 798, 828, 829, 830, 831, 832, 833, 834, 835, 823, 824, 825, 826, 827] (by decide +kernel) (by decide +kernel)
set_option maxRecDepth 20000 in
theorem gL_law_X6_tilt : GoodIn wsL_law (wsV RL 40 RX6 yX6_tilt wsX6_tilt) := goodIn_app (goodIn_of _ (by decide +kernel)) ggL_law_X6_tilt
set_option maxRecDepth 20000 in
theorem ggL_law_X7_tilt : GoodIn wsL_law wsX7_tilt := goodIn_r _ [399, 195, 107, 108, 5, 109, 400, 401, 402, 403, 89, 404, 83, 229, 346, 347, 348, 349, 350, 228, 81, 351, 352, 353, 354, 88, 196, 197, 198, 256, 257, 258, 259, 355, 356, 357, 358, 82, 359, 360, 361, 362, 363, 364, 365, 366, 367, 368, 369, 252, 253, 254, 255, 370, 371, 372, 373, 799, 800, 801, 802, 803, 804, 805, 806, 807, 808, 809, 810, 811, 812, 813, 814, 815, 816, 817, 818, 819, 820, 821, 822] (by decide +kernel) (by decide +kernel)
set_option maxRecDepth 20000 in
theorem gL_law_X7_tilt : GoodIn wsL_law (wsV RL 43 RX7 yX7_tilt wsX7_tilt) := goodIn_app (goodIn_of _ (by decide +kernel)) ggL_law_X7_tilt
set_option maxRecDepth 20000 in
theorem ggL_law_X6_lift : GoodIn wsL_law wsX6_lift := goodIn_r _ [408, 18, 23, 265, 28, 266, 267, 268, 17, 269, 130, 150, 151, 2, 152, 409, 300, 301, 302, 47, 303, 304, 157, 158, 410, 306, 307, 308, 309, 382, 383, 384, 27, 385, 59, 221, 222, 386, 283, 284, 22, 285, 53, 211, 212, 213, 214, 411, 315, 316, 317, 785, 786, 787, 788, 789, 790, 791, 792, 793, 794, 795, 796, 797, 798, 828, 829, 830, 831, 832, 823, 824, 825, 826, 827, 833, 834, 835] (by decide +kernel) (by decide +kernel)
set_option maxRecDepth 20000 in
theorem gL_law_X6_lift : GoodIn wsL_law (wsV RL 44 RX6 yX6_lift wsX6_lift) := goodIn_app (goodIn_of _ (by decide +kernel)) ggL_law_X6_lift
set_option maxRecDepth 20000 in
theorem ggL_law_X7_lift : GoodIn wsL_law wsX7_lift := goodIn_r _ [415, 83, 334, 335, 336, 5, 337, 228, 107, 108, 109, 249, 250, 251, 194, 366, 367, 368, 369, 82, 196, 197, 198, 252, 253, 254, 255, 256, 257, 258, 259, 88, 370, 371, 372, 373, 400, 401, 402, 403, 89, 404, 229, 799, 800, 801, 802, 803, 804, 805, 806, 807, 808, 809, 810, 811, 812, 813, 814, 815, 816, 817, 818, 819, 820, 821, 822] (by decide +kernel) (by decide +kernel)
set_option maxRecDepth 20000 in
theorem gL_law_X7_lift : GoodIn wsL_law (wsV RL 47 RX7 yX7_lift wsX7_lift) := goodIn_app (goodIn_of _ (by decide +kernel)) ggL_law_X7_lift
set_option maxRecDepth 20000 in
theorem ggL_law_X6_wedge : GoodIn wsL_law wsX6_wedge := goodIn_r _ [419, 18, 23, 28, 235, 420, 421, 422, 17, 423, 303, 304, 151, 2, 152, 159, 160, 161, 162, 47, 157, 158, 139, 140, 141, 142, 143, 144, 145, 382, 383, 384, 27, 385, 59, 221, 222, 386, 283, 284, 22, 285, 53, 211, 212, 213, 214, 244, 785, 786, 787, 788, 789, 790, 791, 792, 793, 794, 795, 796, 797, 798, 828, 829, 830, 831, 832, 823, 824, 825, 826, 827, 833, 834, 835] (by decide +kernel) (by decide +kernel)
set_option maxRecDepth 20000 in
theorem gL_law_X6_wedge : GoodIn wsL_law (wsV RL 48 RX6 yX6_wedge wsX6_wedge) := goodIn_app (goodIn_of _ (by decide +kernel)) ggL_law_X6_wedge
set_option maxRecDepth 20000 in
theorem ggL_law_X7_wedge : GoodIn wsL_law wsX7_wedge := goodIn_r _ [427, 83, 249, 250, 5, 251, 194, 107, 108, 109, 196, 197, 198, 428, 429, 430, 431, 82, 252, 253, 254, 255, 228, 256, 257, 258, 259, 88, 187, 188, 189, 400, 401, 402, 403, 89, 404, 229, 799, 800, 801, 802, 803, 804, 805, 806, 807, 808, 809, 810, 811, 812, 813, 814, 815, 816, 817, 818, 819, 820, 821, 822] (by decide +kernel) (by decide +kernel)
set_option maxRecDepth 20000 in
theorem gL_law_X7_wedge : GoodIn wsL_law (wsV RL 51 RX7 yX7_wedge wsX7_wedge) := goodIn_app (goodIn_of _ (by decide +kernel)) ggL_law_X7_wedge
set_option maxRecDepth 20000 in
theorem ggL_law_X6_undo : GoodIn wsL_law wsX6_undo := goodIn_r _ [435, 28, 23, 436, 437, 438, 27, 439, 222, 59, 221, 386, 283, 284, 22, 285, 53, 211, 212, 213, 214, 785, 786, 787, 788, 789, 790, 791, 792, 793, 794, 795, 796, 797, 798, 833, 834, 835, 828, 829, 830, 831, 832] (by decide +kernel) (by decide +kernel)
set_option maxRecDepth 20000 in
theorem gL_law_X6_undo : GoodIn wsL_law (wsV RL 52 RX6 yX6_undo wsX6_undo) := goodIn_app (goodIn_of _ (by decide +kernel)) ggL_law_X6_undo
set_option maxRecDepth 20000 in
theorem ggL_law_X7_undo : GoodIn wsL_law wsX7_undo := goodIn_r _ [443, 229, 404, 83, 89, 799, 800, 801, 802, 803, 804, 805, 806, 807, 808, 809, 810, 811, 812, 813, 814, 815, 816, 817, 818, 819, 820, 821, 822] (by decide +kernel) (by decide +kernel)
set_option maxRecDepth 20000 in
theorem gL_law_X7_undo : GoodIn wsL_law (wsV RL 55 RX7 yX7_undo wsX7_undo) := goodIn_app (goodIn_of _ (by decide +kernel)) ggL_law_X7_undo
set_option maxRecDepth 20000 in
theorem ggL_law_X6_rolls : GoodIn wsL_law wsX6_rolls := goodIn_r _ [447, 18, 266, 267, 268, 17, 269, 130, 379, 380, 2, 381, 274, 275, 276, 277, 24, 265, 278, 279, 280, 281, 23, 282, 283, 284, 22, 285, 53, 211, 212, 213, 214, 286, 287, 288, 289, 290, 291, 292, 293, 294, 48, 131, 151, 152, 157, 158, 295, 296, 297, 298, 171, 172, 299, 300, 301, 302, 47, 303, 304, 305, 306, 307, 308, 309, 310, 311, 312, 313, 314, 315, 316, 317, 318, 319, 320, 321, 785, 786, 787, 788, 789, 790, 791, 792, 793, 794, 795, 796, 797, 798, 823, 824, 825, 826, 827, 828, 829, 830, 831, 832] (by decide +kernel) (by decide +kernel)
set_option maxRecDepth 20000 in
theorem gL_law_X6_rolls : GoodIn wsL_law (wsV RL 56 RX6 yX6_rolls wsX6_rolls) := goodIn_app (goodIn_of _ (by decide +kernel)) ggL_law_X6_rolls
set_option maxRecDepth 20000 in
theorem ggL_law_X7_rolls : GoodIn wsL_law wsX7_rolls := goodIn_r _ [451, 195, 83, 334, 335, 336, 5, 337, 228, 107, 108, 109, 342, 343, 344, 345, 346, 347, 348, 349, 350, 81, 351, 352, 353, 354, 88, 196, 197, 198, 256, 257, 258, 259, 355, 356, 357, 358, 82, 359, 360, 361, 362, 363, 364, 365, 366, 367, 368, 369, 252, 253, 254, 255, 370, 371, 372, 373, 799, 800, 801, 802, 803, 804, 805, 806, 807, 808, 809, 810, 811, 812, 813, 814, 815, 816, 817, 818, 819, 820, 821, 822] (by decide +kernel) (by decide +kernel)
set_option maxRecDepth 20000 in
theorem gL_law_X7_rolls : GoodIn wsL_law (wsV RL 59 RX7 yX7_rolls wsX7_rolls) := goodIn_app (goodIn_of _ (by decide +kernel)) ggL_law_X7_rolls
set_option maxRecDepth 20000 in
theorem ggL_law_X6_safe : GoodIn wsL_law wsX6_safe := goodIn_r _ [455, 23, 24, 387, 388, 389, 22, 390, 391, 392, 393, 394, 395, 327, 328, 329, 53, 278, 279, 280, 2, 281, 18, 282, 283, 284, 285, 211, 212, 213, 214, 286, 287, 288, 17, 289, 130, 290, 291, 292, 293, 294, 48, 131, 151, 152, 157, 158, 295, 296, 297, 298, 171, 172, 299, 300, 301, 302, 47, 303, 304, 305, 306, 307, 308, 309, 310, 311, 312, 313, 314, 315, 316, 317, 318, 319, 320, 321, 785, 786, 787, 788, 789, 790, 791, 792, 793, 794, 795, 796, 797, 798, 828, 829, 830, 831, 832, 823, 824, 825, 826, 827] (by decide +kernel) (by decide +kernel)
set_option maxRecDepth 20000 in
theorem gL_law_X6_safe : GoodIn wsL_law (wsV RL 60 RX6 yX6_safe wsX6_safe) := goodIn_app (goodIn_of _ (by decide +kernel)) ggL_law_X6_safe
set_option maxRecDepth 20000 in
theorem ggL_law_X7_safe : GoodIn wsL_law wsX7_safe := goodIn_r _ [459, 342, 343, 344, 5, 345, 83, 346, 347, 348, 349, 350, 228, 81, 351, 352, 353, 354, 88, 196, 197, 198, 256, 257, 258, 259, 355, 356, 357, 358, 82, 359, 360, 361, 362, 363, 364, 365, 366, 367, 368, 369, 252, 253, 254, 255, 370, 371, 372, 373, 799, 800, 801, 802, 803, 804, 805, 806, 807, 808, 809, 810, 811, 812, 813, 814, 815, 816, 817, 818, 819, 820, 821, 822] (by decide +kernel) (by decide +kernel)
set_option maxRecDepth 20000 in
theorem gL_law_X7_safe : GoodIn wsL_law (wsV RL 63 RX7 yX7_safe wsX7_safe) := goodIn_app (goodIn_of _ (by decide +kernel)) ggL_law_X7_safe
set_option maxRecDepth 20000 in
theorem ggL_law_X6_fewest : GoodIn wsL_law wsX6_fewest := goodIn_r _ [463, 18, 37, 23, 464, 465, 266, 267, 268, 17, 269, 130, 466, 467, 468, 36, 469, 71, 470, 471, 472, 283, 284, 22, 285, 53, 211, 212, 213, 214, 473, 474, 475, 476, 477, 327, 328, 329, 478, 479, 480, 481, 47, 309, 139, 140, 141, 142, 143, 144, 145, 482, 287, 288, 289, 290, 291, 292, 293, 294, 48, 131, 151, 2, 152, 157, 158, 295, 296, 297, 298, 171, 172, 299, 300, 301, 302, 303, 304, 305, 306, 307, 308, 310, 311, 312, 313, 314, 315, 316, 317, 318, 319, 320, 321, 483, 484, 485, 486, 785, 786, 787, 788, 789, 790, 791, 792, 793, 794, 795, 796, 797, 798, 840, 841, 842, 843, 823, 824, 825, 826, 827, 828, 829, 830, 831, 832] (by decide +kernel) (by decide +kernel)
set_option maxRecDepth 20000 in
theorem gL_law_X6_fewest : GoodIn wsL_law (wsV RL 64 RX6 yX6_fewest wsX6_fewest) := goodIn_app (goodIn_of _ (by decide +kernel)) ggL_law_X6_fewest
set_option maxRecDepth 20000 in
theorem ggL_law_X7_fewest : GoodIn wsL_law wsX7_fewest := goodIn_r _ [490, 83, 334, 335, 336, 5, 337, 228, 107, 108, 109, 491, 492, 493, 494, 495, 496, 497, 342, 343, 344, 345, 196, 197, 198, 346, 347, 348, 349, 350, 81, 351, 352, 353, 354, 88, 256, 257, 258, 259, 355, 356, 357, 358, 82, 359, 360, 361, 362, 363, 364, 365, 366, 367, 368, 369, 252, 253, 254, 255, 370, 371, 372, 373, 498, 499, 500, 799, 800, 801, 802, 803, 804, 805, 806, 807, 808, 809, 810, 811, 812, 813, 814, 815, 816, 817, 818, 819, 820, 821, 822] (by decide +kernel) (by decide +kernel)
set_option maxRecDepth 20000 in
theorem gL_law_X7_fewest : GoodIn wsL_law (wsV RL 68 RX7 yX7_fewest wsX7_fewest) := goodIn_app (goodIn_of _ (by decide +kernel)) ggL_law_X7_fewest
set_option maxRecDepth 20000 in
theorem ggL_law_X6_reach : GoodIn wsL_law wsX6_reach := goodIn_r _ [504, 18, 37, 23, 266, 267, 268, 17, 269, 130, 505, 506, 507, 36, 508, 71, 472, 283, 284, 22, 285, 53, 211, 212, 213, 214, 509, 510, 511, 512, 513, 151, 2, 152, 482, 287, 288, 289, 290, 291, 292, 293, 294, 48, 131, 157, 158, 295, 296, 297, 298, 171, 172, 299, 300, 301, 302, 47, 303, 304, 305, 306, 307, 308, 309, 310, 311, 312, 313, 314, 315, 316, 317, 318, 319, 320, 321, 483, 484, 485, 486, 785, 786, 787, 788, 789, 790, 791, 792, 793, 794, 795, 796, 797, 798, 823, 824, 825, 826, 827, 840, 841, 842, 843, 828, 829, 830, 831, 832] (by decide +kernel) (by decide +kernel)
set_option maxRecDepth 20000 in
theorem gL_law_X6_reach : GoodIn wsL_law (wsV RL 69 RX6 yX6_reach wsX6_reach) := goodIn_app (goodIn_of _ (by decide +kernel)) ggL_law_X6_reach
set_option maxRecDepth 20000 in
theorem ggL_law_X7_reach : GoodIn wsL_law wsX7_reach := goodIn_r _ [517, 83, 334, 335, 336, 5, 337, 228, 107, 108, 109, 491, 492, 493, 494, 495, 496, 497, 342, 343, 344, 345, 196, 197, 198, 346, 347, 348, 349, 350, 81, 351, 352, 353, 354, 88, 256, 257, 258, 259, 355, 356, 357, 358, 82, 359, 360, 361, 362, 363, 364, 365, 366, 367, 368, 369, 252, 253, 254, 255, 370, 371, 372, 373, 799, 800, 801, 802, 803, 804, 805, 806, 807, 808, 809, 810, 811, 812, 813, 814, 815, 816, 817, 818, 819, 820, 821, 822] (by decide +kernel) (by decide +kernel)
set_option maxRecDepth 20000 in
theorem gL_law_X7_reach : GoodIn wsL_law (wsV RL 72 RX7 yX7_reach wsX7_reach) := goodIn_app (goodIn_of _ (by decide +kernel)) ggL_law_X7_reach
set_option maxRecDepth 20000 in
theorem ggL_law_X6_best : GoodIn wsL_law wsX6_best := goodIn_r _ [521, 37, 18, 23, 464, 465, 522, 523, 524, 36, 525, 71, 470, 471, 526, 472, 283, 284, 22, 285, 53, 211, 212, 213, 214, 527, 528, 529, 530, 531, 532, 533, 534, 535, 388, 389, 390, 391, 392, 393, 394, 395, 327, 328, 329, 478, 479, 480, 17, 481, 47, 309, 139, 140, 141, 142, 143, 144, 145, 536, 537, 538, 539, 540, 482, 287, 288, 289, 130, 290, 291, 292, 293, 294, 48, 131, 151, 2, 152, 157, 158, 295, 296, 297, 298, 171, 172, 299, 300, 301, 302, 303, 304, 305, 306, 307, 308, 310, 311, 312, 313, 314, 315, 316, 317, 318, 319, 320, 321, 785, 786, 787, 788, 789, 790, 791, 792, 793, 794, 795, 796, 797, 798, 840, 841, 842, 843, 828, 829, 830, 831, 832, 823, 824, 825, 826, 827] (by decide +kernel) (by decide +kernel)
set_option maxRecDepth 20000 in
theorem gL_law_X6_best : GoodIn wsL_law (wsV RL 73 RX6 yX6_best wsX6_best) := goodIn_app (goodIn_of _ (by decide +kernel)) ggL_law_X6_best
set_option maxRecDepth 20000 in
theorem ggL_law_X7_best : GoodIn wsL_law wsX7_best := goodIn_r _ [544, 545, 546, 107, 108, 5, 109, 547, 548, 549, 550, 491, 492, 493, 494, 495, 496, 497, 342, 343, 344, 345, 83, 196, 197, 198, 346, 347, 348, 349, 350, 228, 81, 351, 352, 353, 354, 88, 256, 257, 258, 259, 355, 356, 357, 358, 82, 359, 360, 361, 362, 363, 364, 365, 366, 367, 368, 369, 252, 253, 254, 255, 370, 371, 372, 373, 498, 499, 500, 799, 800, 801, 802, 803, 804, 805, 806, 807, 808, 809, 810, 811, 812, 813, 814, 815, 816, 817, 818, 819, 820, 821, 822] (by decide +kernel) (by decide +kernel)
set_option maxRecDepth 20000 in
theorem gL_law_X7_best : GoodIn wsL_law (wsV RL 76 RX7 yX7_best wsX7_best) := goodIn_app (goodIn_of _ (by decide +kernel)) ggL_law_X7_best
set_option maxRecDepth 20000 in
theorem ggL_law_X6_saves : GoodIn wsL_law wsX6_saves := goodIn_r _ [554, 18, 23, 266, 267, 268, 17, 269, 130, 379, 380, 2, 381, 326, 327, 328, 22, 329, 53, 274, 275, 276, 277, 24, 265, 278, 279, 280, 281, 282, 283, 284, 285, 211, 212, 213, 214, 286, 287, 288, 289, 290, 291, 292, 293, 294, 48, 131, 151, 152, 157, 158, 295, 296, 297, 298, 171, 172, 299, 300, 301, 302, 47, 303, 304, 305, 306, 307, 308, 309, 310, 311, 312, 313, 314, 315, 316, 317, 318, 319, 320, 321, 555, 556, 557, 558, 235, 244, 420, 421, 422, 423, 159, 160, 161, 162, 139, 140, 141, 142, 143, 144, 145, 785, 786, 787, 788, 789, 790, 791, 792, 793, 794, 795, 796, 797, 798, 823, 824, 825, 826, 827, 828, 829, 830, 831, 832] (by decide +kernel) (by decide +kernel)
set_option maxRecDepth 20000 in
theorem gL_law_X6_saves : GoodIn wsL_law (wsV RL 77 RX6 yX6_saves wsX6_saves) := goodIn_app (goodIn_of _ (by decide +kernel)) ggL_law_X6_saves
set_option maxRecDepth 20000 in
theorem ggL_law_X7_saves : GoodIn wsL_law wsX7_saves := goodIn_r _ [562, 195, 83, 334, 335, 336, 5, 337, 228, 107, 108, 109, 342, 343, 344, 345, 346, 347, 348, 349, 350, 81, 351, 352, 353, 354, 88, 196, 197, 198, 256, 257, 258, 259, 355, 356, 357, 358, 82, 359, 360, 361, 362, 363, 364, 365, 366, 367, 368, 369, 252, 253, 254, 255, 370, 371, 372, 373, 187, 188, 189, 428, 429, 430, 431, 799, 800, 801, 802, 803, 804, 805, 806, 807, 808, 809, 810, 811, 812, 813, 814, 815, 816, 817, 818, 819, 820, 821, 822] (by decide +kernel) (by decide +kernel)
set_option maxRecDepth 20000 in
theorem gL_law_X7_saves : GoodIn wsL_law (wsV RL 80 RX7 yX7_saves wsX7_saves) := goodIn_app (goodIn_of _ (by decide +kernel)) ggL_law_X7_saves
set_option maxRecDepth 20000 in
theorem ggL_law_X6_judge : GoodIn wsL_law wsX6_judge := goodIn_r _ [566, 567, 24, 23, 282, 283, 284, 22, 285, 53, 211, 212, 213, 214, 568, 569, 570, 2, 571, 18, 379, 380, 381, 286, 287, 288, 17, 289, 130, 290, 291, 292, 293, 294, 48, 131, 151, 152, 157, 158, 295, 296, 297, 298, 171, 172, 299, 300, 301, 302, 47, 303, 304, 305, 306, 307, 308, 309, 310, 311, 312, 313, 314, 315, 316, 317, 318, 319, 320, 321, 572, 573, 574, 575, 576, 421, 422, 423, 159, 160, 161, 162, 139, 140, 141, 142, 143, 144, 145, 577, 578, 579, 580, 266, 267, 268, 269, 326, 327, 328, 329, 785, 786, 787, 788, 789, 790, 791, 792, 793, 794, 795, 796, 797, 798, 828, 829, 830, 831, 832, 823, 824, 825, 826, 827] (by decide +kernel) (by decide +kernel)
set_option maxRecDepth 20000 in
theorem gL_law_X6_judge : GoodIn wsL_law (wsV RL 83 RX6 yX6_judge wsX6_judge) := goodIn_app (goodIn_of _ (by decide +kernel)) ggL_law_X6_judge
set_option maxRecDepth 20000 in
theorem ggL_law_X7_judge : GoodIn wsL_law wsX7_judge := goodIn_r _ [584, 545, 585, 107, 108, 5, 109, 586, 587, 588, 342, 343, 344, 345, 83, 589, 590, 591, 592, 346, 347, 348, 349, 350, 228, 81, 351, 352, 353, 354, 88, 196, 197, 198, 256, 257, 258, 259, 355, 356, 357, 358, 82, 359, 360, 361, 362, 363, 364, 365, 366, 367, 368, 369, 252, 253, 254, 255, 370, 371, 372, 373, 593, 594, 595, 596, 249, 250, 251, 194, 428, 429, 430, 431, 187, 188, 189, 334, 335, 336, 337, 799, 800, 801, 802, 803, 804, 805, 806, 807, 808, 809, 810, 811, 812, 813, 814, 815, 816, 817, 818, 819, 820, 821, 822] (by decide +kernel) (by decide +kernel)
set_option maxRecDepth 20000 in
theorem gL_law_X7_judge : GoodIn wsL_law (wsV RL 87 RX7 yX7_judge wsX7_judge) := goodIn_app (goodIn_of _ (by decide +kernel)) ggL_law_X7_judge
set_option maxRecDepth 20000 in
theorem ggL_law_X6_see : GoodIn wsL_law wsX6_see := goodIn_r _ [600, 33, 150, 151, 2, 152, 379, 380, 381, 601, 602, 603, 32, 604, 605, 63, 64, 65, 785, 786, 787, 788, 789, 790, 791, 792, 793, 794, 795, 796, 797, 798, 836, 837, 838, 839] (by decide +kernel) (by decide +kernel)
set_option maxRecDepth 20000 in
theorem gL_law_X6_see : GoodIn wsL_law (wsV RL 88 RX6 yX6_see wsX6_see) := goodIn_app (goodIn_of _ (by decide +kernel)) ggL_law_X6_see
set_option maxRecDepth 20000 in
theorem ggL_law_X7_see : GoodIn wsL_law wsX7_see := goodIn_r _ [609, 195, 610, 611, 90, 91, 92, 249, 250, 5, 251, 194, 107, 108, 109, 799, 800, 801, 802, 803, 804, 805, 806, 807, 808, 809, 810, 811, 812, 813, 814, 815, 816, 817, 818, 819, 820, 821, 822] (by decide +kernel) (by decide +kernel)
set_option maxRecDepth 20000 in
theorem gL_law_X7_see : GoodIn wsL_law (wsV RL 92 RX7 yX7_see wsX7_see) := goodIn_app (goodIn_of _ (by decide +kernel)) ggL_law_X7_see
set_option maxRecDepth 20000 in
theorem ggL_law_X6_unsee : GoodIn wsL_law wsX6_unsee := goodIn_r _ [615, 33, 616, 785, 786, 787, 788, 789, 790, 791, 792, 793, 794, 795, 796, 797, 798, 836, 837, 838, 839] (by decide +kernel) (by decide +kernel)
set_option maxRecDepth 20000 in
theorem gL_law_X6_unsee : GoodIn wsL_law (wsV RL 93 RX6 yX6_unsee wsX6_unsee) := goodIn_app (goodIn_of _ (by decide +kernel)) ggL_law_X6_unsee
set_option maxRecDepth 20000 in
theorem ggL_law_X7_unsee : GoodIn wsL_law wsX7_unsee := goodIn_r _ [620, 611, 799, 800, 801, 802, 803, 804, 805, 806, 807, 808, 809, 810, 811, 812, 813, 814, 815, 816, 817, 818, 819, 820, 821, 822] (by decide +kernel) (by decide +kernel)
set_option maxRecDepth 20000 in
theorem gL_law_X7_unsee : GoodIn wsL_law (wsV RL 96 RX7 yX7_unsee wsX7_unsee) := goodIn_app (goodIn_of _ (by decide +kernel)) ggL_law_X7_unsee
set_option maxRecDepth 20000 in
theorem ggL_law_X6_hidden : GoodIn wsL_law wsX6_hidden := goodIn_r _ [624, 18, 33, 625, 160, 161, 17, 162, 47, 157, 2, 158, 626, 627, 628, 32, 629, 630, 605, 63, 64, 65, 631, 632, 633, 171, 172, 785, 786, 787, 788, 789, 790, 791, 792, 793, 794, 795, 796, 797, 798, 823, 824, 825, 826, 827, 836, 837, 838, 839] (by decide +kernel) (by decide +kernel)
set_option maxRecDepth 20000 in
theorem gL_law_X6_hidden : GoodIn wsL_law (wsV RL 97 RX6 yX6_hidden wsX6_hidden) := goodIn_app (goodIn_of _ (by decide +kernel)) ggL_law_X6_hidden
set_option maxRecDepth 20000 in
theorem ggL_law_X7_hidden : GoodIn wsL_law wsX7_hidden := goodIn_r _ [637, 82, 611, 90, 91, 92, 196, 197, 5, 198, 638, 639, 640, 641, 359, 360, 361, 799, 800, 801, 802, 803, 804, 805, 806, 807, 808, 809, 810, 811, 812, 813, 814, 815, 816, 817, 818, 819, 820, 821, 822] (by decide +kernel) (by decide +kernel)
set_option maxRecDepth 20000 in
theorem gL_law_X7_hidden : GoodIn wsL_law (wsV RL 100 RX7 yX7_hidden wsX7_hidden) := goodIn_app (goodIn_of _ (by decide +kernel)) ggL_law_X7_hidden
set_option maxRecDepth 20000 in
theorem ggL_law_X6_share : GoodIn wsL_law wsX6_share := goodIn_r _ [645, 18, 205, 646, 43, 266, 267, 268, 17, 269, 130, 647, 648, 649, 2, 650, 24, 23, 37, 465, 282, 283, 284, 22, 285, 53, 211, 212, 213, 214, 244, 157, 158, 651, 652, 653, 654, 151, 152, 522, 523, 524, 36, 525, 71, 470, 471, 526, 472, 527, 528, 529, 530, 531, 532, 533, 534, 535, 388, 389, 390, 391, 392, 393, 394, 395, 327, 328, 329, 478, 479, 480, 481, 47, 309, 139, 140, 141, 142, 143, 144, 145, 536, 537, 538, 539, 540, 482, 287, 288, 289, 290, 291, 292, 293, 294, 48, 131, 295, 296, 297, 298, 171, 172, 299, 300, 301, 302, 303, 304, 305, 306, 307, 308, 310, 311, 312, 313, 314, 315, 316, 317, 318, 319, 320, 321, 223, 655, 656, 657, 658, 659, 660, 785, 786, 787, 788, 789, 790, 791, 792, 793, 794, 795, 796, 797, 798, 823, 824, 825, 826, 827, 840, 841, 842, 843, 828, 829, 830, 831, 832] (by decide +kernel) (by decide +kernel)
set_option maxRecDepth 20000 in
theorem gL_law_X6_share : GoodIn wsL_law (wsV RL 101 RX6 yX6_share wsX6_share) := goodIn_app (goodIn_of _ (by decide +kernel)) ggL_law_X6_share
set_option maxRecDepth 20000 in
theorem ggL_law_X7_share : GoodIn wsL_law wsX7_share := goodIn_r _ [664, 228, 334, 335, 336, 5, 337, 107, 108, 109, 196, 197, 198, 187, 188, 189, 665, 666, 667, 668, 669, 670, 671, 88, 547, 548, 549, 550, 546, 491, 492, 493, 494, 495, 496, 497, 342, 343, 344, 345, 83, 346, 347, 348, 349, 350, 81, 351, 352, 353, 354, 256, 257, 258, 259, 355, 356, 357, 358, 82, 359, 360, 361, 362, 363, 364, 365, 366, 367, 368, 369, 252, 253, 254, 255, 370, 371, 372, 373, 498, 499, 500, 672, 673, 674, 799, 800, 801, 802, 803, 804, 805, 806, 807, 808, 809, 810, 811, 812, 813, 814, 815, 816, 817, 818, 819, 820, 821, 822] (by decide +kernel) (by decide +kernel)
set_option maxRecDepth 20000 in
theorem gL_law_X7_share : GoodIn wsL_law (wsV RL 104 RX7 yX7_share wsX7_share) := goodIn_app (goodIn_of _ (by decide +kernel)) ggL_law_X7_share
set_option maxRecDepth 20000 in
theorem ggL_law_X6_rests : GoodIn wsL_law wsX6_rests := goodIn_r _ [678, 41, 679, 680, 681, 2, 682, 18, 24, 278, 279, 280, 281, 23, 282, 283, 284, 22, 285, 53, 211, 212, 213, 214, 286, 287, 288, 17, 289, 130, 290, 291, 292, 293, 294, 48, 131, 151, 152, 157, 158, 295, 296, 297, 298, 171, 172, 299, 300, 301, 302, 47, 303, 304, 305, 306, 307, 308, 309, 310, 311, 312, 313, 314, 315, 316, 317, 318, 319, 320, 321, 683, 392, 393, 394, 395, 327, 328, 329, 684, 685, 686, 40, 687, 75, 76, 688, 689, 690, 691, 785, 786, 787, 788, 789, 790, 791, 792, 793, 794, 795, 796, 797, 798, 828, 829, 830, 831, 832, 823, 824, 825, 826, 827, 844, 845] (by decide +kernel) (by decide +kernel)
set_option maxRecDepth 20000 in
theorem gL_law_X6_rests : GoodIn wsL_law (wsV RL 105 RX6 yX6_rests wsX6_rests) := goodIn_app (goodIn_of _ (by decide +kernel)) ggL_law_X6_rests
set_option maxRecDepth 20000 in
theorem ggL_law_X7_rests : GoodIn wsL_law wsX7_rests := goodIn_r _ [695, 107, 108, 5, 109, 696, 697, 698, 699, 700, 701, 702, 703, 228, 83, 494, 495, 496, 497, 342, 343, 344, 345, 196, 197, 198, 491, 492, 493, 346, 347, 348, 349, 350, 81, 351, 352, 353, 354, 88, 256, 257, 258, 259, 355, 356, 357, 358, 82, 359, 360, 361, 362, 363, 364, 365, 366, 367, 368, 369, 252, 253, 254, 255, 370, 371, 372, 373, 799, 800, 801, 802, 803, 804, 805, 806, 807, 808, 809, 810, 811, 812, 813, 814, 815, 816, 817, 818, 819, 820, 821, 822] (by decide +kernel) (by decide +kernel)
set_option maxRecDepth 20000 in
theorem gL_law_X7_rests : GoodIn wsL_law (wsV RL 108 RX7 yX7_rests wsX7_rests) := goodIn_app (goodIn_of _ (by decide +kernel)) ggL_law_X7_rests
set_option maxRecDepth 20000 in
theorem ggL_law_X6_fails : GoodIn wsL_law wsX6_fails := goodIn_r _ [707, 18, 708, 266, 267, 268, 17, 269, 130, 709, 710, 2, 711, 379, 380, 381, 712, 713, 714, 244, 157, 158, 715, 716, 717, 718, 24, 23, 282, 283, 284, 22, 285, 53, 211, 212, 213, 214, 286, 287, 288, 289, 290, 291, 292, 293, 294, 48, 131, 151, 152, 295, 296, 297, 298, 171, 172, 299, 300, 301, 302, 47, 303, 304, 305, 306, 307, 308, 309, 310, 311, 312, 313, 314, 315, 316, 317, 318, 319, 320, 321, 326, 327, 328, 329, 655, 656, 657, 658, 659, 533, 660, 785, 786, 787, 788, 789, 790, 791, 792, 793, 794, 795, 796, 797, 798, 823, 824, 825, 826, 827, 828, 829, 830, 831, 832] (by decide +kernel) (by decide +kernel)
set_option maxRecDepth 20000 in
theorem gL_law_X6_fails : GoodIn wsL_law (wsV RL 109 RX6 yX6_fails wsX6_fails) := goodIn_app (goodIn_of _ (by decide +kernel)) ggL_law_X6_fails
set_option maxRecDepth 20000 in
theorem ggL_law_X7_fails : GoodIn wsL_law wsX7_fails := goodIn_r _ [722, 545, 723, 83, 334, 335, 336, 5, 337, 228, 107, 108, 109, 724, 725, 726, 491, 492, 493, 187, 188, 189, 494, 495, 496, 497, 342, 343, 344, 345, 196, 197, 198, 346, 347, 348, 349, 350, 81, 351, 352, 353, 354, 88, 256, 257, 258, 259, 355, 356, 357, 358, 82, 359, 360, 361, 362, 363, 364, 365, 366, 367, 368, 369, 252, 253, 254, 255, 370, 371, 372, 373, 672, 673, 674, 799, 800, 801, 802, 803, 804, 805, 806, 807, 808, 809, 810, 811, 812, 813, 814, 815, 816, 817, 818, 819, 820, 821, 822] (by decide +kernel) (by decide +kernel)
set_option maxRecDepth 20000 in
theorem gL_law_X7_fails : GoodIn wsL_law (wsV RL 113 RX7 yX7_fails wsX7_fails) := goodIn_app (goodIn_of _ (by decide +kernel)) ggL_law_X7_fails
set_option maxRecDepth 20000 in
theorem ggL_law_X6_seed : GoodIn wsL_law wsX6_seed := goodIn_r _ [730, 731, 785, 786, 787, 788, 789, 790, 791, 792, 793, 794, 795, 796, 797, 798] (by decide +kernel) (by decide +kernel)
set_option maxRecDepth 20000 in
theorem gL_law_X6_seed : GoodIn wsL_law (wsV RL 114 RX6 yX6_seed wsX6_seed) := goodIn_app (goodIn_of _ (by decide +kernel)) ggL_law_X6_seed
set_option maxRecDepth 20000 in
theorem ggL_law_X7_seed : GoodIn wsL_law wsX7_seed := goodIn_r _ [735, 736, 799, 800, 801, 802, 803, 804, 805, 806, 807, 808, 809, 810, 811, 812, 813, 814, 815, 816, 817, 818, 819, 820, 821, 822] (by decide +kernel) (by decide +kernel)
set_option maxRecDepth 20000 in
theorem gL_law_X7_seed : GoodIn wsL_law (wsV RL 118 RX7 yX7_seed wsX7_seed) := goodIn_app (goodIn_of _ (by decide +kernel)) ggL_law_X7_seed
set_option maxRecDepth 20000 in
theorem ggL_law_X6_days : GoodIn wsL_law wsX6_days := goodIn_r _ [740, 24, 23, 731, 741, 742, 743, 18, 282, 283, 284, 22, 285, 53, 211, 212, 213, 214, 572, 573, 574, 17, 575, 304, 576, 421, 422, 423, 303, 151, 2, 152, 159, 160, 161, 162, 47, 157, 158, 139, 140, 141, 142, 143, 144, 145, 286, 287, 288, 289, 130, 290, 291, 292, 293, 294, 48, 131, 295, 296, 297, 298, 171, 172, 299, 300, 301, 302, 305, 306, 307, 308, 309, 310, 311, 312, 313, 314, 315, 316, 317, 318, 319, 320, 321, 387, 388, 389, 390, 391, 392, 393, 394, 395, 327, 328, 329, 785, 786, 787, 788, 789, 790, 791, 792, 793, 794, 795, 796, 797, 798, 828, 829, 830, 831, 832, 823, 824, 825, 826, 827] (by decide +kernel) (by decide +kernel)
set_option maxRecDepth 20000 in
theorem gL_law_X6_days : GoodIn wsL_law (wsV RL 119 RX6 yX6_days wsX6_days) := goodIn_app (goodIn_of _ (by decide +kernel)) ggL_law_X6_days
set_option maxRecDepth 20000 in
theorem ggL_law_X7_days : GoodIn wsL_law wsX7_days := goodIn_r _ [747, 748, 736, 749, 750, 751, 107, 108, 5, 109, 342, 343, 344, 345, 83, 593, 594, 595, 596, 249, 250, 251, 194, 196, 197, 198, 428, 429, 430, 431, 82, 252, 253, 254, 255, 228, 256, 257, 258, 259, 88, 187, 188, 189, 346, 347, 348, 349, 350, 81, 351, 352, 353, 354, 355, 356, 357, 358, 359, 360, 361, 362, 363, 364, 365, 366, 367, 368, 369, 370, 371, 372, 373, 799, 800, 801, 802, 803, 804, 805, 806, 807, 808, 809, 810, 811, 812, 813, 814, 815, 816, 817, 818, 819, 820, 821, 822] (by decide +kernel) (by decide +kernel)
set_option maxRecDepth 20000 in
theorem gL_law_X7_days : GoodIn wsL_law (wsV RL 122 RX7 yX7_days wsX7_days) := goodIn_app (goodIn_of _ (by decide +kernel)) ggL_law_X7_days
set_option maxRecDepth 20000 in
theorem ggL_law_X6_keep : GoodIn wsL_law wsX6_keep := goodIn_r _ [755, 29, 23, 203, 378, 756, 757, 2, 758, 282, 283, 284, 22, 285, 53, 211, 212, 213, 214, 785, 786, 787, 788, 789, 790, 791, 792, 793, 794, 795, 796, 797, 798, 828, 829, 830, 831, 832] (by decide +kernel) (by decide +kernel)
set_option maxRecDepth 20000 in
theorem gL_law_X6_keep : GoodIn wsL_law (wsV RL 123 RX6 yX6_keep wsX6_keep) := goodIn_app (goodIn_of _ (by decide +kernel)) ggL_law_X6_keep
set_option maxRecDepth 20000 in
theorem ggL_law_X7_keep : GoodIn wsL_law wsX7_keep := goodIn_r _ [762, 94, 95, 83, 107, 108, 5, 109, 799, 800, 801, 802, 803, 804, 805, 806, 807, 808, 809, 810, 811, 812, 813, 814, 815, 816, 817, 818, 819, 820, 821, 822] (by decide +kernel) (by decide +kernel)
set_option maxRecDepth 20000 in
theorem gL_law_X7_keep : GoodIn wsL_law (wsV RL 126 RX7 yX7_keep wsX7_keep) := goodIn_app (goodIn_of _ (by decide +kernel)) ggL_law_X7_keep
set_option maxRecDepth 20000 in
theorem ggL_law_X6_again : GoodIn wsL_law wsX6_again := goodIn_r _ [766, 203, 23, 29, 28, 378, 756, 757, 2, 758, 244, 157, 158, 282, 283, 284, 22, 285, 53, 211, 212, 213, 214, 217, 218, 219, 27, 220, 221, 222, 785, 786, 787, 788, 789, 790, 791, 792, 793, 794, 795, 796, 797, 798, 828, 829, 830, 831, 832, 833, 834, 835] (by decide +kernel) (by decide +kernel)
set_option maxRecDepth 20000 in
theorem gL_law_X6_again : GoodIn wsL_law (wsV RL 127 RX6 yX6_again wsX6_again) := goodIn_app (goodIn_of _ (by decide +kernel)) ggL_law_X6_again
set_option maxRecDepth 20000 in
theorem ggL_law_X7_again : GoodIn wsL_law wsX7_again := goodIn_r _ [770, 94, 83, 95, 229, 107, 108, 5, 109, 799, 800, 801, 802, 803, 804, 805, 806, 807, 808, 809, 810, 811, 812, 813, 814, 815, 816, 817, 818, 819, 820, 821, 822] (by decide +kernel) (by decide +kernel)
set_option maxRecDepth 20000 in
theorem gL_law_X7_again : GoodIn wsL_law (wsV RL 130 RX7 yX7_again wsX7_again) := goodIn_app (goodIn_of _ (by decide +kernel)) ggL_law_X7_again
set_option maxRecDepth 20000 in
theorem ggL_law_X6_count : GoodIn wsL_law wsX6_count := goodIn_r _ [774, 100, 18, 205, 204, 23, 775, 234, 235, 378, 28, 776, 33, 616, 785, 786, 787, 788, 789, 790, 791, 792, 793, 794, 795, 796, 797, 798, 823, 824, 825, 826, 827, 828, 829, 830, 831, 832, 833, 834, 835, 836, 837, 838, 839] (by decide +kernel) (by decide +kernel)
set_option maxRecDepth 20000 in
theorem gL_law_X6_count : GoodIn wsL_law (wsV RL 131 RX6 yX6_count wsX6_count) := goodIn_app (goodIn_of _ (by decide +kernel)) ggL_law_X6_count
set_option maxRecDepth 20000 in
theorem ggL_law_X7_count : GoodIn wsL_law wsX7_count := goodIn_r _ [780, 106, 228, 82, 83, 229, 611, 781, 782, 783, 5, 784, 799, 800, 801, 802, 803, 804, 805, 806, 807, 808, 809, 810, 811, 812, 813, 814, 815, 816, 817, 818, 819, 820, 821, 822] (by decide +kernel) (by decide +kernel)
set_option maxRecDepth 20000 in
theorem gL_law_X7_count : GoodIn wsL_law (wsV RL 134 RX7 yX7_count wsX7_count) := goodIn_app (goodIn_of _ (by decide +kernel)) ggL_law_X7_count
theorem dL_law_0 : decode cL_law 0 = .ok (.new 7, 3) := by decide +kernel
theorem dL_law_3 : decode cL_law 3 = .ok (.dup, 1) := by decide +kernel
theorem dL_law_4 : decode cL_law 4 = .ok (.invokespecial 9, 3) := by decide +kernel
theorem dL_law_7 : decode cL_law 7 = .ok (.astore_n 1, 1) := by decide +kernel
theorem dL_law_8 : decode cL_law 8 = .ok (.new 10, 3) := by decide +kernel
theorem dL_law_11 : decode cL_law 11 = .ok (.dup, 1) := by decide +kernel
theorem dL_law_12 : decode cL_law 12 = .ok (.invokespecial 12, 3) := by decide +kernel
theorem dL_law_15 : decode cL_law 15 = .ok (.astore_n 2, 1) := by decide +kernel
theorem dL_law_16 : decode cL_law 16 = .ok (.iconst 0, 1) := by decide +kernel
theorem dL_law_17 : decode cL_law 17 = .ok (.istore_n 3, 1) := by decide +kernel
theorem dL_law_18 : decode cL_law 18 = .ok (.iload_n 3, 1) := by decide +kernel
theorem dL_law_19 : decode cL_law 19 = .ok (.aload_n 0, 1) := by decide +kernel
theorem dL_law_20 : decode cL_law 20 = .ok (.arraylength, 1) := by decide +kernel
theorem dL_law_21 : decode cL_law 21 = .ok (.bipush 6, 2) := by decide +kernel
theorem dL_law_23 : decode cL_law 23 = .ok (.isub, 1) := by decide +kernel
theorem dL_law_24 : decode cL_law 24 = .ok (.if_icmp .gt 991, 3) := by decide +kernel
theorem dL_law_27 : decode cL_law 27 = .ok (.aload_n 0, 1) := by decide +kernel
theorem dL_law_28 : decode cL_law 28 = .ok (.iload_n 3, 1) := by decide +kernel
theorem dL_law_29 : decode cL_law 29 = .ok (.iaload, 1) := by decide +kernel
theorem dL_law_30 : decode cL_law 30 = .ok (.bipush 31, 2) := by decide +kernel
theorem dL_law_32 : decode cL_law 32 = .ok (.iand, 1) := by decide +kernel
theorem dL_law_33 : decode cL_law 33 = .ok (.tableswitch 976 0 27 #[127, 150, 163, 176, 189, 222, 255, 278, 311, 334, 347, 380, 393, 442, 465, 514, 547, 610, 653, 666, 679, 728, 751, 830, 884, 907, 930, 953], 127) := by decide +kernel
theorem dL_law_160 : decode cL_law 160 = .ok (.aload_n 1, 1) := by decide +kernel
theorem dL_law_161 : decode cL_law 161 = .ok (.aload_n 0, 1) := by decide +kernel
theorem dL_law_162 : decode cL_law 162 = .ok (.iload_n 3, 1) := by decide +kernel
theorem dL_law_163 : decode cL_law 163 = .ok (.iconst 1, 1) := by decide +kernel
theorem dL_law_164 : decode cL_law 164 = .ok (.iadd, 1) := by decide +kernel
theorem dL_law_165 : decode cL_law 165 = .ok (.iaload, 1) := by decide +kernel
theorem dL_law_166 : decode cL_law 166 = .ok (.invokevirtual 13, 3) := by decide +kernel
theorem dL_law_169 : decode cL_law 169 = .ok (.aload_n 2, 1) := by decide +kernel
theorem dL_law_170 : decode cL_law 170 = .ok (.aload_n 0, 1) := by decide +kernel
theorem dL_law_171 : decode cL_law 171 = .ok (.iload_n 3, 1) := by decide +kernel
theorem dL_law_172 : decode cL_law 172 = .ok (.iconst 1, 1) := by decide +kernel
theorem dL_law_173 : decode cL_law 173 = .ok (.iadd, 1) := by decide +kernel
theorem dL_law_174 : decode cL_law 174 = .ok (.iaload, 1) := by decide +kernel
theorem dL_law_175 : decode cL_law 175 = .ok (.invokevirtual 17, 3) := by decide +kernel
theorem dL_law_178 : decode cL_law 178 = .ok (.if_icmp .eq 831, 3) := by decide +kernel
theorem dL_law_181 : decode cL_law 181 = .ok (.iconst 0, 1) := by decide +kernel
theorem dL_law_182 : decode cL_law 182 = .ok (.ireturn, 1) := by decide +kernel
theorem dL_law_183 : decode cL_law 183 = .ok (.aload_n 1, 1) := by decide +kernel
theorem dL_law_184 : decode cL_law 184 = .ok (.invokevirtual 18, 3) := by decide +kernel
theorem dL_law_187 : decode cL_law 187 = .ok (.aload_n 2, 1) := by decide +kernel
theorem dL_law_188 : decode cL_law 188 = .ok (.invokevirtual 22, 3) := by decide +kernel
theorem dL_law_191 : decode cL_law 191 = .ok (.if_icmp .eq 818, 3) := by decide +kernel
theorem dL_law_194 : decode cL_law 194 = .ok (.iconst 0, 1) := by decide +kernel
theorem dL_law_195 : decode cL_law 195 = .ok (.ireturn, 1) := by decide +kernel
theorem dL_law_196 : decode cL_law 196 = .ok (.aload_n 1, 1) := by decide +kernel
theorem dL_law_197 : decode cL_law 197 = .ok (.invokevirtual 23, 3) := by decide +kernel
theorem dL_law_200 : decode cL_law 200 = .ok (.aload_n 2, 1) := by decide +kernel
theorem dL_law_201 : decode cL_law 201 = .ok (.invokevirtual 26, 3) := by decide +kernel
theorem dL_law_204 : decode cL_law 204 = .ok (.if_icmp .eq 805, 3) := by decide +kernel
theorem dL_law_207 : decode cL_law 207 = .ok (.iconst 0, 1) := by decide +kernel
theorem dL_law_208 : decode cL_law 208 = .ok (.ireturn, 1) := by decide +kernel
theorem dL_law_209 : decode cL_law 209 = .ok (.aload_n 1, 1) := by decide +kernel
theorem dL_law_210 : decode cL_law 210 = .ok (.invokevirtual 27, 3) := by decide +kernel
theorem dL_law_213 : decode cL_law 213 = .ok (.aload_n 2, 1) := by decide +kernel
theorem dL_law_214 : decode cL_law 214 = .ok (.invokevirtual 30, 3) := by decide +kernel
theorem dL_law_217 : decode cL_law 217 = .ok (.if_icmp .eq 792, 3) := by decide +kernel
theorem dL_law_220 : decode cL_law 220 = .ok (.iconst 0, 1) := by decide +kernel
theorem dL_law_221 : decode cL_law 221 = .ok (.ireturn, 1) := by decide +kernel
theorem dL_law_222 : decode cL_law 222 = .ok (.aload_n 1, 1) := by decide +kernel
theorem dL_law_223 : decode cL_law 223 = .ok (.aload_n 0, 1) := by decide +kernel
theorem dL_law_224 : decode cL_law 224 = .ok (.iload_n 3, 1) := by decide +kernel
theorem dL_law_225 : decode cL_law 225 = .ok (.iconst 1, 1) := by decide +kernel
theorem dL_law_226 : decode cL_law 226 = .ok (.iadd, 1) := by decide +kernel
theorem dL_law_227 : decode cL_law 227 = .ok (.iaload, 1) := by decide +kernel
theorem dL_law_228 : decode cL_law 228 = .ok (.aload_n 0, 1) := by decide +kernel
theorem dL_law_229 : decode cL_law 229 = .ok (.iload_n 3, 1) := by decide +kernel
theorem dL_law_230 : decode cL_law 230 = .ok (.iconst 2, 1) := by decide +kernel
theorem dL_law_231 : decode cL_law 231 = .ok (.iadd, 1) := by decide +kernel
theorem dL_law_232 : decode cL_law 232 = .ok (.iaload, 1) := by decide +kernel
theorem dL_law_233 : decode cL_law 233 = .ok (.invokevirtual 31, 3) := by decide +kernel
theorem dL_law_236 : decode cL_law 236 = .ok (.aload_n 2, 1) := by decide +kernel
theorem dL_law_237 : decode cL_law 237 = .ok (.aload_n 0, 1) := by decide +kernel
theorem dL_law_238 : decode cL_law 238 = .ok (.iload_n 3, 1) := by decide +kernel
theorem dL_law_239 : decode cL_law 239 = .ok (.iconst 1, 1) := by decide +kernel
theorem dL_law_240 : decode cL_law 240 = .ok (.iadd, 1) := by decide +kernel
theorem dL_law_241 : decode cL_law 241 = .ok (.iaload, 1) := by decide +kernel
theorem dL_law_242 : decode cL_law 242 = .ok (.aload_n 0, 1) := by decide +kernel
theorem dL_law_243 : decode cL_law 243 = .ok (.iload_n 3, 1) := by decide +kernel
theorem dL_law_244 : decode cL_law 244 = .ok (.iconst 2, 1) := by decide +kernel
theorem dL_law_245 : decode cL_law 245 = .ok (.iadd, 1) := by decide +kernel
theorem dL_law_246 : decode cL_law 246 = .ok (.iaload, 1) := by decide +kernel
theorem dL_law_247 : decode cL_law 247 = .ok (.invokevirtual 35, 3) := by decide +kernel
theorem dL_law_250 : decode cL_law 250 = .ok (.if_icmp .eq 759, 3) := by decide +kernel
theorem dL_law_253 : decode cL_law 253 = .ok (.iconst 0, 1) := by decide +kernel
theorem dL_law_254 : decode cL_law 254 = .ok (.ireturn, 1) := by decide +kernel
theorem dL_law_255 : decode cL_law 255 = .ok (.aload_n 1, 1) := by decide +kernel
theorem dL_law_256 : decode cL_law 256 = .ok (.aload_n 0, 1) := by decide +kernel
theorem dL_law_257 : decode cL_law 257 = .ok (.iload_n 3, 1) := by decide +kernel
theorem dL_law_258 : decode cL_law 258 = .ok (.iconst 1, 1) := by decide +kernel
theorem dL_law_259 : decode cL_law 259 = .ok (.iadd, 1) := by decide +kernel
theorem dL_law_260 : decode cL_law 260 = .ok (.iaload, 1) := by decide +kernel
theorem dL_law_261 : decode cL_law 261 = .ok (.aload_n 0, 1) := by decide +kernel
theorem dL_law_262 : decode cL_law 262 = .ok (.iload_n 3, 1) := by decide +kernel
theorem dL_law_263 : decode cL_law 263 = .ok (.iconst 2, 1) := by decide +kernel
theorem dL_law_264 : decode cL_law 264 = .ok (.iadd, 1) := by decide +kernel
theorem dL_law_265 : decode cL_law 265 = .ok (.iaload, 1) := by decide +kernel
theorem dL_law_266 : decode cL_law 266 = .ok (.invokevirtual 36, 3) := by decide +kernel
theorem dL_law_269 : decode cL_law 269 = .ok (.aload_n 2, 1) := by decide +kernel
theorem dL_law_270 : decode cL_law 270 = .ok (.aload_n 0, 1) := by decide +kernel
theorem dL_law_271 : decode cL_law 271 = .ok (.iload_n 3, 1) := by decide +kernel
theorem dL_law_272 : decode cL_law 272 = .ok (.iconst 1, 1) := by decide +kernel
theorem dL_law_273 : decode cL_law 273 = .ok (.iadd, 1) := by decide +kernel
theorem dL_law_274 : decode cL_law 274 = .ok (.iaload, 1) := by decide +kernel
theorem dL_law_275 : decode cL_law 275 = .ok (.aload_n 0, 1) := by decide +kernel
theorem dL_law_276 : decode cL_law 276 = .ok (.iload_n 3, 1) := by decide +kernel
theorem dL_law_277 : decode cL_law 277 = .ok (.iconst 2, 1) := by decide +kernel
theorem dL_law_278 : decode cL_law 278 = .ok (.iadd, 1) := by decide +kernel
theorem dL_law_279 : decode cL_law 279 = .ok (.iaload, 1) := by decide +kernel
theorem dL_law_280 : decode cL_law 280 = .ok (.invokevirtual 39, 3) := by decide +kernel
theorem dL_law_283 : decode cL_law 283 = .ok (.if_icmp .eq 726, 3) := by decide +kernel
theorem dL_law_286 : decode cL_law 286 = .ok (.iconst 0, 1) := by decide +kernel
theorem dL_law_287 : decode cL_law 287 = .ok (.ireturn, 1) := by decide +kernel
theorem dL_law_288 : decode cL_law 288 = .ok (.aload_n 1, 1) := by decide +kernel
theorem dL_law_289 : decode cL_law 289 = .ok (.aload_n 0, 1) := by decide +kernel
theorem dL_law_290 : decode cL_law 290 = .ok (.iload_n 3, 1) := by decide +kernel
theorem dL_law_291 : decode cL_law 291 = .ok (.iconst 1, 1) := by decide +kernel
theorem dL_law_292 : decode cL_law 292 = .ok (.iadd, 1) := by decide +kernel
theorem dL_law_293 : decode cL_law 293 = .ok (.iaload, 1) := by decide +kernel
theorem dL_law_294 : decode cL_law 294 = .ok (.invokevirtual 40, 3) := by decide +kernel
theorem dL_law_297 : decode cL_law 297 = .ok (.aload_n 2, 1) := by decide +kernel
theorem dL_law_298 : decode cL_law 298 = .ok (.aload_n 0, 1) := by decide +kernel
theorem dL_law_299 : decode cL_law 299 = .ok (.iload_n 3, 1) := by decide +kernel
theorem dL_law_300 : decode cL_law 300 = .ok (.iconst 1, 1) := by decide +kernel
theorem dL_law_301 : decode cL_law 301 = .ok (.iadd, 1) := by decide +kernel
theorem dL_law_302 : decode cL_law 302 = .ok (.iaload, 1) := by decide +kernel
theorem dL_law_303 : decode cL_law 303 = .ok (.invokevirtual 43, 3) := by decide +kernel
theorem dL_law_306 : decode cL_law 306 = .ok (.if_icmp .eq 703, 3) := by decide +kernel
theorem dL_law_309 : decode cL_law 309 = .ok (.iconst 0, 1) := by decide +kernel
theorem dL_law_310 : decode cL_law 310 = .ok (.ireturn, 1) := by decide +kernel
theorem dL_law_311 : decode cL_law 311 = .ok (.aload_n 1, 1) := by decide +kernel
theorem dL_law_312 : decode cL_law 312 = .ok (.aload_n 0, 1) := by decide +kernel
theorem dL_law_313 : decode cL_law 313 = .ok (.iload_n 3, 1) := by decide +kernel
theorem dL_law_314 : decode cL_law 314 = .ok (.iconst 1, 1) := by decide +kernel
theorem dL_law_315 : decode cL_law 315 = .ok (.iadd, 1) := by decide +kernel
theorem dL_law_316 : decode cL_law 316 = .ok (.iaload, 1) := by decide +kernel
theorem dL_law_317 : decode cL_law 317 = .ok (.aload_n 0, 1) := by decide +kernel
theorem dL_law_318 : decode cL_law 318 = .ok (.iload_n 3, 1) := by decide +kernel
theorem dL_law_319 : decode cL_law 319 = .ok (.iconst 2, 1) := by decide +kernel
theorem dL_law_320 : decode cL_law 320 = .ok (.iadd, 1) := by decide +kernel
theorem dL_law_321 : decode cL_law 321 = .ok (.iaload, 1) := by decide +kernel
theorem dL_law_322 : decode cL_law 322 = .ok (.invokevirtual 44, 3) := by decide +kernel
theorem dL_law_325 : decode cL_law 325 = .ok (.aload_n 2, 1) := by decide +kernel
theorem dL_law_326 : decode cL_law 326 = .ok (.aload_n 0, 1) := by decide +kernel
theorem dL_law_327 : decode cL_law 327 = .ok (.iload_n 3, 1) := by decide +kernel
theorem dL_law_328 : decode cL_law 328 = .ok (.iconst 1, 1) := by decide +kernel
theorem dL_law_329 : decode cL_law 329 = .ok (.iadd, 1) := by decide +kernel
theorem dL_law_330 : decode cL_law 330 = .ok (.iaload, 1) := by decide +kernel
theorem dL_law_331 : decode cL_law 331 = .ok (.aload_n 0, 1) := by decide +kernel
theorem dL_law_332 : decode cL_law 332 = .ok (.iload_n 3, 1) := by decide +kernel
theorem dL_law_333 : decode cL_law 333 = .ok (.iconst 2, 1) := by decide +kernel
theorem dL_law_334 : decode cL_law 334 = .ok (.iadd, 1) := by decide +kernel
theorem dL_law_335 : decode cL_law 335 = .ok (.iaload, 1) := by decide +kernel
theorem dL_law_336 : decode cL_law 336 = .ok (.invokevirtual 47, 3) := by decide +kernel
theorem dL_law_339 : decode cL_law 339 = .ok (.if_icmp .eq 670, 3) := by decide +kernel
theorem dL_law_342 : decode cL_law 342 = .ok (.iconst 0, 1) := by decide +kernel
theorem dL_law_343 : decode cL_law 343 = .ok (.ireturn, 1) := by decide +kernel
theorem dL_law_344 : decode cL_law 344 = .ok (.aload_n 1, 1) := by decide +kernel
theorem dL_law_345 : decode cL_law 345 = .ok (.aload_n 0, 1) := by decide +kernel
theorem dL_law_346 : decode cL_law 346 = .ok (.iload_n 3, 1) := by decide +kernel
theorem dL_law_347 : decode cL_law 347 = .ok (.iconst 1, 1) := by decide +kernel
theorem dL_law_348 : decode cL_law 348 = .ok (.iadd, 1) := by decide +kernel
theorem dL_law_349 : decode cL_law 349 = .ok (.iaload, 1) := by decide +kernel
theorem dL_law_350 : decode cL_law 350 = .ok (.invokevirtual 48, 3) := by decide +kernel
theorem dL_law_353 : decode cL_law 353 = .ok (.aload_n 2, 1) := by decide +kernel
theorem dL_law_354 : decode cL_law 354 = .ok (.aload_n 0, 1) := by decide +kernel
theorem dL_law_355 : decode cL_law 355 = .ok (.iload_n 3, 1) := by decide +kernel
theorem dL_law_356 : decode cL_law 356 = .ok (.iconst 1, 1) := by decide +kernel
theorem dL_law_357 : decode cL_law 357 = .ok (.iadd, 1) := by decide +kernel
theorem dL_law_358 : decode cL_law 358 = .ok (.iaload, 1) := by decide +kernel
theorem dL_law_359 : decode cL_law 359 = .ok (.invokevirtual 51, 3) := by decide +kernel
theorem dL_law_362 : decode cL_law 362 = .ok (.if_icmp .eq 647, 3) := by decide +kernel
theorem dL_law_365 : decode cL_law 365 = .ok (.iconst 0, 1) := by decide +kernel
theorem dL_law_366 : decode cL_law 366 = .ok (.ireturn, 1) := by decide +kernel
theorem dL_law_367 : decode cL_law 367 = .ok (.aload_n 1, 1) := by decide +kernel
theorem dL_law_368 : decode cL_law 368 = .ok (.invokevirtual 52, 3) := by decide +kernel
theorem dL_law_371 : decode cL_law 371 = .ok (.aload_n 2, 1) := by decide +kernel
theorem dL_law_372 : decode cL_law 372 = .ok (.invokevirtual 55, 3) := by decide +kernel
theorem dL_law_375 : decode cL_law 375 = .ok (.if_icmp .eq 634, 3) := by decide +kernel
theorem dL_law_378 : decode cL_law 378 = .ok (.iconst 0, 1) := by decide +kernel
theorem dL_law_379 : decode cL_law 379 = .ok (.ireturn, 1) := by decide +kernel
theorem dL_law_380 : decode cL_law 380 = .ok (.aload_n 1, 1) := by decide +kernel
theorem dL_law_381 : decode cL_law 381 = .ok (.aload_n 0, 1) := by decide +kernel
theorem dL_law_382 : decode cL_law 382 = .ok (.iload_n 3, 1) := by decide +kernel
theorem dL_law_383 : decode cL_law 383 = .ok (.iconst 1, 1) := by decide +kernel
theorem dL_law_384 : decode cL_law 384 = .ok (.iadd, 1) := by decide +kernel
theorem dL_law_385 : decode cL_law 385 = .ok (.iaload, 1) := by decide +kernel
theorem dL_law_386 : decode cL_law 386 = .ok (.aload_n 0, 1) := by decide +kernel
theorem dL_law_387 : decode cL_law 387 = .ok (.iload_n 3, 1) := by decide +kernel
theorem dL_law_388 : decode cL_law 388 = .ok (.iconst 2, 1) := by decide +kernel
theorem dL_law_389 : decode cL_law 389 = .ok (.iadd, 1) := by decide +kernel
theorem dL_law_390 : decode cL_law 390 = .ok (.iaload, 1) := by decide +kernel
theorem dL_law_391 : decode cL_law 391 = .ok (.invokevirtual 56, 3) := by decide +kernel
theorem dL_law_394 : decode cL_law 394 = .ok (.aload_n 2, 1) := by decide +kernel
theorem dL_law_395 : decode cL_law 395 = .ok (.aload_n 0, 1) := by decide +kernel
theorem dL_law_396 : decode cL_law 396 = .ok (.iload_n 3, 1) := by decide +kernel
theorem dL_law_397 : decode cL_law 397 = .ok (.iconst 1, 1) := by decide +kernel
theorem dL_law_398 : decode cL_law 398 = .ok (.iadd, 1) := by decide +kernel
theorem dL_law_399 : decode cL_law 399 = .ok (.iaload, 1) := by decide +kernel
theorem dL_law_400 : decode cL_law 400 = .ok (.aload_n 0, 1) := by decide +kernel
theorem dL_law_401 : decode cL_law 401 = .ok (.iload_n 3, 1) := by decide +kernel
theorem dL_law_402 : decode cL_law 402 = .ok (.iconst 2, 1) := by decide +kernel
theorem dL_law_403 : decode cL_law 403 = .ok (.iadd, 1) := by decide +kernel
theorem dL_law_404 : decode cL_law 404 = .ok (.iaload, 1) := by decide +kernel
theorem dL_law_405 : decode cL_law 405 = .ok (.invokevirtual 59, 3) := by decide +kernel
theorem dL_law_408 : decode cL_law 408 = .ok (.if_icmp .eq 601, 3) := by decide +kernel
theorem dL_law_411 : decode cL_law 411 = .ok (.iconst 0, 1) := by decide +kernel
theorem dL_law_412 : decode cL_law 412 = .ok (.ireturn, 1) := by decide +kernel
theorem dL_law_413 : decode cL_law 413 = .ok (.aload_n 1, 1) := by decide +kernel
theorem dL_law_414 : decode cL_law 414 = .ok (.invokevirtual 60, 3) := by decide +kernel
theorem dL_law_417 : decode cL_law 417 = .ok (.aload_n 2, 1) := by decide +kernel
theorem dL_law_418 : decode cL_law 418 = .ok (.invokevirtual 63, 3) := by decide +kernel
theorem dL_law_421 : decode cL_law 421 = .ok (.if_icmp .eq 588, 3) := by decide +kernel
theorem dL_law_424 : decode cL_law 424 = .ok (.iconst 0, 1) := by decide +kernel
theorem dL_law_425 : decode cL_law 425 = .ok (.ireturn, 1) := by decide +kernel
theorem dL_law_426 : decode cL_law 426 = .ok (.aload_n 1, 1) := by decide +kernel
theorem dL_law_427 : decode cL_law 427 = .ok (.aload_n 0, 1) := by decide +kernel
theorem dL_law_428 : decode cL_law 428 = .ok (.iload_n 3, 1) := by decide +kernel
theorem dL_law_429 : decode cL_law 429 = .ok (.iconst 1, 1) := by decide +kernel
theorem dL_law_430 : decode cL_law 430 = .ok (.iadd, 1) := by decide +kernel
theorem dL_law_431 : decode cL_law 431 = .ok (.iaload, 1) := by decide +kernel
theorem dL_law_432 : decode cL_law 432 = .ok (.aload_n 0, 1) := by decide +kernel
theorem dL_law_433 : decode cL_law 433 = .ok (.iload_n 3, 1) := by decide +kernel
theorem dL_law_434 : decode cL_law 434 = .ok (.iconst 2, 1) := by decide +kernel
theorem dL_law_435 : decode cL_law 435 = .ok (.iadd, 1) := by decide +kernel
theorem dL_law_436 : decode cL_law 436 = .ok (.iaload, 1) := by decide +kernel
theorem dL_law_437 : decode cL_law 437 = .ok (.ifCond .eq 7, 3) := by decide +kernel
theorem dL_law_440 : decode cL_law 440 = .ok (.iconst 1, 1) := by decide +kernel
theorem dL_law_441 : decode cL_law 441 = .ok (.goto 4, 3) := by decide +kernel
theorem dL_law_444 : decode cL_law 444 = .ok (.iconst 0, 1) := by decide +kernel
theorem dL_law_445 : decode cL_law 445 = .ok (.invokevirtual 64, 3) := by decide +kernel
theorem dL_law_448 : decode cL_law 448 = .ok (.aload_n 2, 1) := by decide +kernel
theorem dL_law_449 : decode cL_law 449 = .ok (.aload_n 0, 1) := by decide +kernel
theorem dL_law_450 : decode cL_law 450 = .ok (.iload_n 3, 1) := by decide +kernel
theorem dL_law_451 : decode cL_law 451 = .ok (.iconst 1, 1) := by decide +kernel
theorem dL_law_452 : decode cL_law 452 = .ok (.iadd, 1) := by decide +kernel
theorem dL_law_453 : decode cL_law 453 = .ok (.iaload, 1) := by decide +kernel
theorem dL_law_454 : decode cL_law 454 = .ok (.aload_n 0, 1) := by decide +kernel
theorem dL_law_455 : decode cL_law 455 = .ok (.iload_n 3, 1) := by decide +kernel
theorem dL_law_456 : decode cL_law 456 = .ok (.iconst 2, 1) := by decide +kernel
theorem dL_law_457 : decode cL_law 457 = .ok (.iadd, 1) := by decide +kernel
theorem dL_law_458 : decode cL_law 458 = .ok (.iaload, 1) := by decide +kernel
theorem dL_law_459 : decode cL_law 459 = .ok (.ifCond .eq 7, 3) := by decide +kernel
theorem dL_law_462 : decode cL_law 462 = .ok (.iconst 1, 1) := by decide +kernel
theorem dL_law_463 : decode cL_law 463 = .ok (.goto 4, 3) := by decide +kernel
theorem dL_law_466 : decode cL_law 466 = .ok (.iconst 0, 1) := by decide +kernel
theorem dL_law_467 : decode cL_law 467 = .ok (.invokevirtual 68, 3) := by decide +kernel
theorem dL_law_470 : decode cL_law 470 = .ok (.if_icmp .eq 539, 3) := by decide +kernel
theorem dL_law_473 : decode cL_law 473 = .ok (.iconst 0, 1) := by decide +kernel
theorem dL_law_474 : decode cL_law 474 = .ok (.ireturn, 1) := by decide +kernel
theorem dL_law_475 : decode cL_law 475 = .ok (.aload_n 1, 1) := by decide +kernel
theorem dL_law_476 : decode cL_law 476 = .ok (.aload_n 0, 1) := by decide +kernel
theorem dL_law_477 : decode cL_law 477 = .ok (.iload_n 3, 1) := by decide +kernel
theorem dL_law_478 : decode cL_law 478 = .ok (.iconst 1, 1) := by decide +kernel
theorem dL_law_479 : decode cL_law 479 = .ok (.iadd, 1) := by decide +kernel
theorem dL_law_480 : decode cL_law 480 = .ok (.iaload, 1) := by decide +kernel
theorem dL_law_481 : decode cL_law 481 = .ok (.invokevirtual 69, 3) := by decide +kernel
theorem dL_law_484 : decode cL_law 484 = .ok (.aload_n 2, 1) := by decide +kernel
theorem dL_law_485 : decode cL_law 485 = .ok (.aload_n 0, 1) := by decide +kernel
theorem dL_law_486 : decode cL_law 486 = .ok (.iload_n 3, 1) := by decide +kernel
theorem dL_law_487 : decode cL_law 487 = .ok (.iconst 1, 1) := by decide +kernel
theorem dL_law_488 : decode cL_law 488 = .ok (.iadd, 1) := by decide +kernel
theorem dL_law_489 : decode cL_law 489 = .ok (.iaload, 1) := by decide +kernel
theorem dL_law_490 : decode cL_law 490 = .ok (.invokevirtual 72, 3) := by decide +kernel
theorem dL_law_493 : decode cL_law 493 = .ok (.if_icmp .eq 516, 3) := by decide +kernel
theorem dL_law_496 : decode cL_law 496 = .ok (.iconst 0, 1) := by decide +kernel
theorem dL_law_497 : decode cL_law 497 = .ok (.ireturn, 1) := by decide +kernel
theorem dL_law_498 : decode cL_law 498 = .ok (.aload_n 1, 1) := by decide +kernel
theorem dL_law_499 : decode cL_law 499 = .ok (.aload_n 0, 1) := by decide +kernel
theorem dL_law_500 : decode cL_law 500 = .ok (.iload_n 3, 1) := by decide +kernel
theorem dL_law_501 : decode cL_law 501 = .ok (.iconst 1, 1) := by decide +kernel
theorem dL_law_502 : decode cL_law 502 = .ok (.iadd, 1) := by decide +kernel
theorem dL_law_503 : decode cL_law 503 = .ok (.iaload, 1) := by decide +kernel
theorem dL_law_504 : decode cL_law 504 = .ok (.aload_n 0, 1) := by decide +kernel
theorem dL_law_505 : decode cL_law 505 = .ok (.iload_n 3, 1) := by decide +kernel
theorem dL_law_506 : decode cL_law 506 = .ok (.iconst 2, 1) := by decide +kernel
theorem dL_law_507 : decode cL_law 507 = .ok (.iadd, 1) := by decide +kernel
theorem dL_law_508 : decode cL_law 508 = .ok (.iaload, 1) := by decide +kernel
theorem dL_law_509 : decode cL_law 509 = .ok (.ifCond .eq 7, 3) := by decide +kernel
theorem dL_law_512 : decode cL_law 512 = .ok (.iconst 1, 1) := by decide +kernel
theorem dL_law_513 : decode cL_law 513 = .ok (.goto 4, 3) := by decide +kernel
theorem dL_law_516 : decode cL_law 516 = .ok (.iconst 0, 1) := by decide +kernel
theorem dL_law_517 : decode cL_law 517 = .ok (.invokevirtual 73, 3) := by decide +kernel
theorem dL_law_520 : decode cL_law 520 = .ok (.aload_n 2, 1) := by decide +kernel
theorem dL_law_521 : decode cL_law 521 = .ok (.aload_n 0, 1) := by decide +kernel
theorem dL_law_522 : decode cL_law 522 = .ok (.iload_n 3, 1) := by decide +kernel
theorem dL_law_523 : decode cL_law 523 = .ok (.iconst 1, 1) := by decide +kernel
theorem dL_law_524 : decode cL_law 524 = .ok (.iadd, 1) := by decide +kernel
theorem dL_law_525 : decode cL_law 525 = .ok (.iaload, 1) := by decide +kernel
theorem dL_law_526 : decode cL_law 526 = .ok (.aload_n 0, 1) := by decide +kernel
theorem dL_law_527 : decode cL_law 527 = .ok (.iload_n 3, 1) := by decide +kernel
theorem dL_law_528 : decode cL_law 528 = .ok (.iconst 2, 1) := by decide +kernel
theorem dL_law_529 : decode cL_law 529 = .ok (.iadd, 1) := by decide +kernel
theorem dL_law_530 : decode cL_law 530 = .ok (.iaload, 1) := by decide +kernel
theorem dL_law_531 : decode cL_law 531 = .ok (.ifCond .eq 7, 3) := by decide +kernel
theorem dL_law_534 : decode cL_law 534 = .ok (.iconst 1, 1) := by decide +kernel
theorem dL_law_535 : decode cL_law 535 = .ok (.goto 4, 3) := by decide +kernel
theorem dL_law_538 : decode cL_law 538 = .ok (.iconst 0, 1) := by decide +kernel
theorem dL_law_539 : decode cL_law 539 = .ok (.invokevirtual 76, 3) := by decide +kernel
theorem dL_law_542 : decode cL_law 542 = .ok (.if_icmp .eq 467, 3) := by decide +kernel
theorem dL_law_545 : decode cL_law 545 = .ok (.iconst 0, 1) := by decide +kernel
theorem dL_law_546 : decode cL_law 546 = .ok (.ireturn, 1) := by decide +kernel
theorem dL_law_547 : decode cL_law 547 = .ok (.aload_n 1, 1) := by decide +kernel
theorem dL_law_548 : decode cL_law 548 = .ok (.aload_n 0, 1) := by decide +kernel
theorem dL_law_549 : decode cL_law 549 = .ok (.iload_n 3, 1) := by decide +kernel
theorem dL_law_550 : decode cL_law 550 = .ok (.iconst 1, 1) := by decide +kernel
theorem dL_law_551 : decode cL_law 551 = .ok (.iadd, 1) := by decide +kernel
theorem dL_law_552 : decode cL_law 552 = .ok (.iaload, 1) := by decide +kernel
theorem dL_law_553 : decode cL_law 553 = .ok (.aload_n 0, 1) := by decide +kernel
theorem dL_law_554 : decode cL_law 554 = .ok (.iload_n 3, 1) := by decide +kernel
theorem dL_law_555 : decode cL_law 555 = .ok (.iconst 2, 1) := by decide +kernel
theorem dL_law_556 : decode cL_law 556 = .ok (.iadd, 1) := by decide +kernel
theorem dL_law_557 : decode cL_law 557 = .ok (.iaload, 1) := by decide +kernel
theorem dL_law_558 : decode cL_law 558 = .ok (.invokevirtual 77, 3) := by decide +kernel
theorem dL_law_561 : decode cL_law 561 = .ok (.aload_n 2, 1) := by decide +kernel
theorem dL_law_562 : decode cL_law 562 = .ok (.aload_n 0, 1) := by decide +kernel
theorem dL_law_563 : decode cL_law 563 = .ok (.iload_n 3, 1) := by decide +kernel
theorem dL_law_564 : decode cL_law 564 = .ok (.iconst 1, 1) := by decide +kernel
theorem dL_law_565 : decode cL_law 565 = .ok (.iadd, 1) := by decide +kernel
theorem dL_law_566 : decode cL_law 566 = .ok (.iaload, 1) := by decide +kernel
theorem dL_law_567 : decode cL_law 567 = .ok (.aload_n 0, 1) := by decide +kernel
theorem dL_law_568 : decode cL_law 568 = .ok (.iload_n 3, 1) := by decide +kernel
theorem dL_law_569 : decode cL_law 569 = .ok (.iconst 2, 1) := by decide +kernel
theorem dL_law_570 : decode cL_law 570 = .ok (.iadd, 1) := by decide +kernel
theorem dL_law_571 : decode cL_law 571 = .ok (.iaload, 1) := by decide +kernel
theorem dL_law_572 : decode cL_law 572 = .ok (.invokevirtual 80, 3) := by decide +kernel
theorem dL_law_575 : decode cL_law 575 = .ok (.if_icmp .eq 434, 3) := by decide +kernel
theorem dL_law_578 : decode cL_law 578 = .ok (.iconst 0, 1) := by decide +kernel
theorem dL_law_579 : decode cL_law 579 = .ok (.ireturn, 1) := by decide +kernel
theorem dL_law_580 : decode cL_law 580 = .ok (.aload_n 1, 1) := by decide +kernel
theorem dL_law_581 : decode cL_law 581 = .ok (.aload_n 0, 1) := by decide +kernel
theorem dL_law_582 : decode cL_law 582 = .ok (.iload_n 3, 1) := by decide +kernel
theorem dL_law_583 : decode cL_law 583 = .ok (.iconst 1, 1) := by decide +kernel
theorem dL_law_584 : decode cL_law 584 = .ok (.iadd, 1) := by decide +kernel
theorem dL_law_585 : decode cL_law 585 = .ok (.iaload, 1) := by decide +kernel
theorem dL_law_586 : decode cL_law 586 = .ok (.aload_n 0, 1) := by decide +kernel
theorem dL_law_587 : decode cL_law 587 = .ok (.iload_n 3, 1) := by decide +kernel
theorem dL_law_588 : decode cL_law 588 = .ok (.iconst 2, 1) := by decide +kernel
theorem dL_law_589 : decode cL_law 589 = .ok (.iadd, 1) := by decide +kernel
theorem dL_law_590 : decode cL_law 590 = .ok (.iaload, 1) := by decide +kernel
theorem dL_law_591 : decode cL_law 591 = .ok (.i2l, 1) := by decide +kernel
theorem dL_law_592 : decode cL_law 592 = .ok (.bipush 32, 2) := by decide +kernel
theorem dL_law_594 : decode cL_law 594 = .ok (.lshl, 1) := by decide +kernel
theorem dL_law_595 : decode cL_law 595 = .ok (.aload_n 0, 1) := by decide +kernel
theorem dL_law_596 : decode cL_law 596 = .ok (.iload_n 3, 1) := by decide +kernel
theorem dL_law_597 : decode cL_law 597 = .ok (.iconst 3, 1) := by decide +kernel
theorem dL_law_598 : decode cL_law 598 = .ok (.iadd, 1) := by decide +kernel
theorem dL_law_599 : decode cL_law 599 = .ok (.iaload, 1) := by decide +kernel
theorem dL_law_600 : decode cL_law 600 = .ok (.i2l, 1) := by decide +kernel
theorem dL_law_601 : decode cL_law 601 = .ok (.ldc2_w 81, 3) := by decide +kernel
theorem dL_law_604 : decode cL_law 604 = .ok (.land, 1) := by decide +kernel
theorem dL_law_605 : decode cL_law 605 = .ok (.lor, 1) := by decide +kernel
theorem dL_law_606 : decode cL_law 606 = .ok (.invokevirtual 83, 3) := by decide +kernel
theorem dL_law_609 : decode cL_law 609 = .ok (.aload_n 2, 1) := by decide +kernel
theorem dL_law_610 : decode cL_law 610 = .ok (.aload_n 0, 1) := by decide +kernel
theorem dL_law_611 : decode cL_law 611 = .ok (.iload_n 3, 1) := by decide +kernel
theorem dL_law_612 : decode cL_law 612 = .ok (.iconst 1, 1) := by decide +kernel
theorem dL_law_613 : decode cL_law 613 = .ok (.iadd, 1) := by decide +kernel
theorem dL_law_614 : decode cL_law 614 = .ok (.iaload, 1) := by decide +kernel
theorem dL_law_615 : decode cL_law 615 = .ok (.aload_n 0, 1) := by decide +kernel
theorem dL_law_616 : decode cL_law 616 = .ok (.iload_n 3, 1) := by decide +kernel
theorem dL_law_617 : decode cL_law 617 = .ok (.iconst 2, 1) := by decide +kernel
theorem dL_law_618 : decode cL_law 618 = .ok (.iadd, 1) := by decide +kernel
theorem dL_law_619 : decode cL_law 619 = .ok (.iaload, 1) := by decide +kernel
theorem dL_law_620 : decode cL_law 620 = .ok (.i2l, 1) := by decide +kernel
theorem dL_law_621 : decode cL_law 621 = .ok (.bipush 32, 2) := by decide +kernel
theorem dL_law_623 : decode cL_law 623 = .ok (.lshl, 1) := by decide +kernel
theorem dL_law_624 : decode cL_law 624 = .ok (.aload_n 0, 1) := by decide +kernel
theorem dL_law_625 : decode cL_law 625 = .ok (.iload_n 3, 1) := by decide +kernel
theorem dL_law_626 : decode cL_law 626 = .ok (.iconst 3, 1) := by decide +kernel
theorem dL_law_627 : decode cL_law 627 = .ok (.iadd, 1) := by decide +kernel
theorem dL_law_628 : decode cL_law 628 = .ok (.iaload, 1) := by decide +kernel
theorem dL_law_629 : decode cL_law 629 = .ok (.i2l, 1) := by decide +kernel
theorem dL_law_630 : decode cL_law 630 = .ok (.ldc2_w 81, 3) := by decide +kernel
theorem dL_law_633 : decode cL_law 633 = .ok (.land, 1) := by decide +kernel
theorem dL_law_634 : decode cL_law 634 = .ok (.lor, 1) := by decide +kernel
theorem dL_law_635 : decode cL_law 635 = .ok (.invokevirtual 87, 3) := by decide +kernel
theorem dL_law_638 : decode cL_law 638 = .ok (.if_icmp .eq 371, 3) := by decide +kernel
theorem dL_law_641 : decode cL_law 641 = .ok (.iconst 0, 1) := by decide +kernel
theorem dL_law_642 : decode cL_law 642 = .ok (.ireturn, 1) := by decide +kernel
theorem dL_law_643 : decode cL_law 643 = .ok (.aload_n 1, 1) := by decide +kernel
theorem dL_law_644 : decode cL_law 644 = .ok (.aload_n 0, 1) := by decide +kernel
theorem dL_law_645 : decode cL_law 645 = .ok (.iload_n 3, 1) := by decide +kernel
theorem dL_law_646 : decode cL_law 646 = .ok (.iconst 1, 1) := by decide +kernel
theorem dL_law_647 : decode cL_law 647 = .ok (.iadd, 1) := by decide +kernel
theorem dL_law_648 : decode cL_law 648 = .ok (.iaload, 1) := by decide +kernel
theorem dL_law_649 : decode cL_law 649 = .ok (.aload_n 0, 1) := by decide +kernel
theorem dL_law_650 : decode cL_law 650 = .ok (.iload_n 3, 1) := by decide +kernel
theorem dL_law_651 : decode cL_law 651 = .ok (.iconst 2, 1) := by decide +kernel
theorem dL_law_652 : decode cL_law 652 = .ok (.iadd, 1) := by decide +kernel
theorem dL_law_653 : decode cL_law 653 = .ok (.iaload, 1) := by decide +kernel
theorem dL_law_654 : decode cL_law 654 = .ok (.aload_n 0, 1) := by decide +kernel
theorem dL_law_655 : decode cL_law 655 = .ok (.iload_n 3, 1) := by decide +kernel
theorem dL_law_656 : decode cL_law 656 = .ok (.iconst 3, 1) := by decide +kernel
theorem dL_law_657 : decode cL_law 657 = .ok (.iadd, 1) := by decide +kernel
theorem dL_law_658 : decode cL_law 658 = .ok (.iaload, 1) := by decide +kernel
theorem dL_law_659 : decode cL_law 659 = .ok (.invokevirtual 88, 3) := by decide +kernel
theorem dL_law_662 : decode cL_law 662 = .ok (.aload_n 2, 1) := by decide +kernel
theorem dL_law_663 : decode cL_law 663 = .ok (.aload_n 0, 1) := by decide +kernel
theorem dL_law_664 : decode cL_law 664 = .ok (.iload_n 3, 1) := by decide +kernel
theorem dL_law_665 : decode cL_law 665 = .ok (.iconst 1, 1) := by decide +kernel
theorem dL_law_666 : decode cL_law 666 = .ok (.iadd, 1) := by decide +kernel
theorem dL_law_667 : decode cL_law 667 = .ok (.iaload, 1) := by decide +kernel
theorem dL_law_668 : decode cL_law 668 = .ok (.aload_n 0, 1) := by decide +kernel
theorem dL_law_669 : decode cL_law 669 = .ok (.iload_n 3, 1) := by decide +kernel
theorem dL_law_670 : decode cL_law 670 = .ok (.iconst 2, 1) := by decide +kernel
theorem dL_law_671 : decode cL_law 671 = .ok (.iadd, 1) := by decide +kernel
theorem dL_law_672 : decode cL_law 672 = .ok (.iaload, 1) := by decide +kernel
theorem dL_law_673 : decode cL_law 673 = .ok (.aload_n 0, 1) := by decide +kernel
theorem dL_law_674 : decode cL_law 674 = .ok (.iload_n 3, 1) := by decide +kernel
theorem dL_law_675 : decode cL_law 675 = .ok (.iconst 3, 1) := by decide +kernel
theorem dL_law_676 : decode cL_law 676 = .ok (.iadd, 1) := by decide +kernel
theorem dL_law_677 : decode cL_law 677 = .ok (.iaload, 1) := by decide +kernel
theorem dL_law_678 : decode cL_law 678 = .ok (.invokevirtual 92, 3) := by decide +kernel
theorem dL_law_681 : decode cL_law 681 = .ok (.if_icmp .eq 328, 3) := by decide +kernel
theorem dL_law_684 : decode cL_law 684 = .ok (.iconst 0, 1) := by decide +kernel
theorem dL_law_685 : decode cL_law 685 = .ok (.ireturn, 1) := by decide +kernel
theorem dL_law_686 : decode cL_law 686 = .ok (.aload_n 1, 1) := by decide +kernel
theorem dL_law_687 : decode cL_law 687 = .ok (.invokevirtual 93, 3) := by decide +kernel
theorem dL_law_690 : decode cL_law 690 = .ok (.aload_n 2, 1) := by decide +kernel
theorem dL_law_691 : decode cL_law 691 = .ok (.invokevirtual 96, 3) := by decide +kernel
theorem dL_law_694 : decode cL_law 694 = .ok (.if_icmp .eq 315, 3) := by decide +kernel
theorem dL_law_697 : decode cL_law 697 = .ok (.iconst 0, 1) := by decide +kernel
theorem dL_law_698 : decode cL_law 698 = .ok (.ireturn, 1) := by decide +kernel
theorem dL_law_699 : decode cL_law 699 = .ok (.aload_n 1, 1) := by decide +kernel
theorem dL_law_700 : decode cL_law 700 = .ok (.invokevirtual 97, 3) := by decide +kernel
theorem dL_law_703 : decode cL_law 703 = .ok (.aload_n 2, 1) := by decide +kernel
theorem dL_law_704 : decode cL_law 704 = .ok (.invokevirtual 100, 3) := by decide +kernel
theorem dL_law_707 : decode cL_law 707 = .ok (.if_icmp .eq 302, 3) := by decide +kernel
theorem dL_law_710 : decode cL_law 710 = .ok (.iconst 0, 1) := by decide +kernel
theorem dL_law_711 : decode cL_law 711 = .ok (.ireturn, 1) := by decide +kernel
theorem dL_law_712 : decode cL_law 712 = .ok (.aload_n 1, 1) := by decide +kernel
theorem dL_law_713 : decode cL_law 713 = .ok (.aload_n 0, 1) := by decide +kernel
theorem dL_law_714 : decode cL_law 714 = .ok (.iload_n 3, 1) := by decide +kernel
theorem dL_law_715 : decode cL_law 715 = .ok (.iconst 1, 1) := by decide +kernel
theorem dL_law_716 : decode cL_law 716 = .ok (.iadd, 1) := by decide +kernel
theorem dL_law_717 : decode cL_law 717 = .ok (.iaload, 1) := by decide +kernel
theorem dL_law_718 : decode cL_law 718 = .ok (.aload_n 0, 1) := by decide +kernel
theorem dL_law_719 : decode cL_law 719 = .ok (.iload_n 3, 1) := by decide +kernel
theorem dL_law_720 : decode cL_law 720 = .ok (.iconst 2, 1) := by decide +kernel
theorem dL_law_721 : decode cL_law 721 = .ok (.iadd, 1) := by decide +kernel
theorem dL_law_722 : decode cL_law 722 = .ok (.iaload, 1) := by decide +kernel
theorem dL_law_723 : decode cL_law 723 = .ok (.ifCond .eq 7, 3) := by decide +kernel
theorem dL_law_726 : decode cL_law 726 = .ok (.iconst 1, 1) := by decide +kernel
theorem dL_law_727 : decode cL_law 727 = .ok (.goto 4, 3) := by decide +kernel
theorem dL_law_730 : decode cL_law 730 = .ok (.iconst 0, 1) := by decide +kernel
theorem dL_law_731 : decode cL_law 731 = .ok (.invokevirtual 101, 3) := by decide +kernel
theorem dL_law_734 : decode cL_law 734 = .ok (.aload_n 2, 1) := by decide +kernel
theorem dL_law_735 : decode cL_law 735 = .ok (.aload_n 0, 1) := by decide +kernel
theorem dL_law_736 : decode cL_law 736 = .ok (.iload_n 3, 1) := by decide +kernel
theorem dL_law_737 : decode cL_law 737 = .ok (.iconst 1, 1) := by decide +kernel
theorem dL_law_738 : decode cL_law 738 = .ok (.iadd, 1) := by decide +kernel
theorem dL_law_739 : decode cL_law 739 = .ok (.iaload, 1) := by decide +kernel
theorem dL_law_740 : decode cL_law 740 = .ok (.aload_n 0, 1) := by decide +kernel
theorem dL_law_741 : decode cL_law 741 = .ok (.iload_n 3, 1) := by decide +kernel
theorem dL_law_742 : decode cL_law 742 = .ok (.iconst 2, 1) := by decide +kernel
theorem dL_law_743 : decode cL_law 743 = .ok (.iadd, 1) := by decide +kernel
theorem dL_law_744 : decode cL_law 744 = .ok (.iaload, 1) := by decide +kernel
theorem dL_law_745 : decode cL_law 745 = .ok (.ifCond .eq 7, 3) := by decide +kernel
theorem dL_law_748 : decode cL_law 748 = .ok (.iconst 1, 1) := by decide +kernel
theorem dL_law_749 : decode cL_law 749 = .ok (.goto 4, 3) := by decide +kernel
theorem dL_law_752 : decode cL_law 752 = .ok (.iconst 0, 1) := by decide +kernel
theorem dL_law_753 : decode cL_law 753 = .ok (.invokevirtual 104, 3) := by decide +kernel
theorem dL_law_756 : decode cL_law 756 = .ok (.if_icmp .eq 253, 3) := by decide +kernel
theorem dL_law_759 : decode cL_law 759 = .ok (.iconst 0, 1) := by decide +kernel
theorem dL_law_760 : decode cL_law 760 = .ok (.ireturn, 1) := by decide +kernel
theorem dL_law_761 : decode cL_law 761 = .ok (.aload_n 1, 1) := by decide +kernel
theorem dL_law_762 : decode cL_law 762 = .ok (.aload_n 0, 1) := by decide +kernel
theorem dL_law_763 : decode cL_law 763 = .ok (.iload_n 3, 1) := by decide +kernel
theorem dL_law_764 : decode cL_law 764 = .ok (.iconst 1, 1) := by decide +kernel
theorem dL_law_765 : decode cL_law 765 = .ok (.iadd, 1) := by decide +kernel
theorem dL_law_766 : decode cL_law 766 = .ok (.iaload, 1) := by decide +kernel
theorem dL_law_767 : decode cL_law 767 = .ok (.invokevirtual 105, 3) := by decide +kernel
theorem dL_law_770 : decode cL_law 770 = .ok (.aload_n 2, 1) := by decide +kernel
theorem dL_law_771 : decode cL_law 771 = .ok (.aload_n 0, 1) := by decide +kernel
theorem dL_law_772 : decode cL_law 772 = .ok (.iload_n 3, 1) := by decide +kernel
theorem dL_law_773 : decode cL_law 773 = .ok (.iconst 1, 1) := by decide +kernel
theorem dL_law_774 : decode cL_law 774 = .ok (.iadd, 1) := by decide +kernel
theorem dL_law_775 : decode cL_law 775 = .ok (.iaload, 1) := by decide +kernel
theorem dL_law_776 : decode cL_law 776 = .ok (.invokevirtual 108, 3) := by decide +kernel
theorem dL_law_779 : decode cL_law 779 = .ok (.if_icmp .eq 230, 3) := by decide +kernel
theorem dL_law_782 : decode cL_law 782 = .ok (.iconst 0, 1) := by decide +kernel
theorem dL_law_783 : decode cL_law 783 = .ok (.ireturn, 1) := by decide +kernel
theorem dL_law_784 : decode cL_law 784 = .ok (.aload_n 1, 1) := by decide +kernel
theorem dL_law_785 : decode cL_law 785 = .ok (.aload_n 0, 1) := by decide +kernel
theorem dL_law_786 : decode cL_law 786 = .ok (.iload_n 3, 1) := by decide +kernel
theorem dL_law_787 : decode cL_law 787 = .ok (.iconst 1, 1) := by decide +kernel
theorem dL_law_788 : decode cL_law 788 = .ok (.iadd, 1) := by decide +kernel
theorem dL_law_789 : decode cL_law 789 = .ok (.iaload, 1) := by decide +kernel
theorem dL_law_790 : decode cL_law 790 = .ok (.aload_n 0, 1) := by decide +kernel
theorem dL_law_791 : decode cL_law 791 = .ok (.iload_n 3, 1) := by decide +kernel
theorem dL_law_792 : decode cL_law 792 = .ok (.iconst 2, 1) := by decide +kernel
theorem dL_law_793 : decode cL_law 793 = .ok (.iadd, 1) := by decide +kernel
theorem dL_law_794 : decode cL_law 794 = .ok (.iaload, 1) := by decide +kernel
theorem dL_law_795 : decode cL_law 795 = .ok (.aload_n 0, 1) := by decide +kernel
theorem dL_law_796 : decode cL_law 796 = .ok (.iload_n 3, 1) := by decide +kernel
theorem dL_law_797 : decode cL_law 797 = .ok (.iconst 3, 1) := by decide +kernel
theorem dL_law_798 : decode cL_law 798 = .ok (.iadd, 1) := by decide +kernel
theorem dL_law_799 : decode cL_law 799 = .ok (.iaload, 1) := by decide +kernel
theorem dL_law_800 : decode cL_law 800 = .ok (.aload_n 0, 1) := by decide +kernel
theorem dL_law_801 : decode cL_law 801 = .ok (.iload_n 3, 1) := by decide +kernel
theorem dL_law_802 : decode cL_law 802 = .ok (.iconst 4, 1) := by decide +kernel
theorem dL_law_803 : decode cL_law 803 = .ok (.iadd, 1) := by decide +kernel
theorem dL_law_804 : decode cL_law 804 = .ok (.iaload, 1) := by decide +kernel
theorem dL_law_805 : decode cL_law 805 = .ok (.aload_n 0, 1) := by decide +kernel
theorem dL_law_806 : decode cL_law 806 = .ok (.iload_n 3, 1) := by decide +kernel
theorem dL_law_807 : decode cL_law 807 = .ok (.iconst 5, 1) := by decide +kernel
theorem dL_law_808 : decode cL_law 808 = .ok (.iadd, 1) := by decide +kernel
theorem dL_law_809 : decode cL_law 809 = .ok (.iaload, 1) := by decide +kernel
theorem dL_law_810 : decode cL_law 810 = .ok (.ifCond .eq 7, 3) := by decide +kernel
theorem dL_law_813 : decode cL_law 813 = .ok (.iconst 1, 1) := by decide +kernel
theorem dL_law_814 : decode cL_law 814 = .ok (.goto 4, 3) := by decide +kernel
theorem dL_law_817 : decode cL_law 817 = .ok (.iconst 0, 1) := by decide +kernel
theorem dL_law_818 : decode cL_law 818 = .ok (.invokevirtual 109, 3) := by decide +kernel
theorem dL_law_821 : decode cL_law 821 = .ok (.aload_n 2, 1) := by decide +kernel
theorem dL_law_822 : decode cL_law 822 = .ok (.aload_n 0, 1) := by decide +kernel
theorem dL_law_823 : decode cL_law 823 = .ok (.iload_n 3, 1) := by decide +kernel
theorem dL_law_824 : decode cL_law 824 = .ok (.iconst 1, 1) := by decide +kernel
theorem dL_law_825 : decode cL_law 825 = .ok (.iadd, 1) := by decide +kernel
theorem dL_law_826 : decode cL_law 826 = .ok (.iaload, 1) := by decide +kernel
theorem dL_law_827 : decode cL_law 827 = .ok (.aload_n 0, 1) := by decide +kernel
theorem dL_law_828 : decode cL_law 828 = .ok (.iload_n 3, 1) := by decide +kernel
theorem dL_law_829 : decode cL_law 829 = .ok (.iconst 2, 1) := by decide +kernel
theorem dL_law_830 : decode cL_law 830 = .ok (.iadd, 1) := by decide +kernel
theorem dL_law_831 : decode cL_law 831 = .ok (.iaload, 1) := by decide +kernel
theorem dL_law_832 : decode cL_law 832 = .ok (.aload_n 0, 1) := by decide +kernel
theorem dL_law_833 : decode cL_law 833 = .ok (.iload_n 3, 1) := by decide +kernel
theorem dL_law_834 : decode cL_law 834 = .ok (.iconst 3, 1) := by decide +kernel
theorem dL_law_835 : decode cL_law 835 = .ok (.iadd, 1) := by decide +kernel
theorem dL_law_836 : decode cL_law 836 = .ok (.iaload, 1) := by decide +kernel
theorem dL_law_837 : decode cL_law 837 = .ok (.aload_n 0, 1) := by decide +kernel
theorem dL_law_838 : decode cL_law 838 = .ok (.iload_n 3, 1) := by decide +kernel
theorem dL_law_839 : decode cL_law 839 = .ok (.iconst 4, 1) := by decide +kernel
theorem dL_law_840 : decode cL_law 840 = .ok (.iadd, 1) := by decide +kernel
theorem dL_law_841 : decode cL_law 841 = .ok (.iaload, 1) := by decide +kernel
theorem dL_law_842 : decode cL_law 842 = .ok (.aload_n 0, 1) := by decide +kernel
theorem dL_law_843 : decode cL_law 843 = .ok (.iload_n 3, 1) := by decide +kernel
theorem dL_law_844 : decode cL_law 844 = .ok (.iconst 5, 1) := by decide +kernel
theorem dL_law_845 : decode cL_law 845 = .ok (.iadd, 1) := by decide +kernel
theorem dL_law_846 : decode cL_law 846 = .ok (.iaload, 1) := by decide +kernel
theorem dL_law_847 : decode cL_law 847 = .ok (.ifCond .eq 7, 3) := by decide +kernel
theorem dL_law_850 : decode cL_law 850 = .ok (.iconst 1, 1) := by decide +kernel
theorem dL_law_851 : decode cL_law 851 = .ok (.goto 4, 3) := by decide +kernel
theorem dL_law_854 : decode cL_law 854 = .ok (.iconst 0, 1) := by decide +kernel
theorem dL_law_855 : decode cL_law 855 = .ok (.invokevirtual 113, 3) := by decide +kernel
theorem dL_law_858 : decode cL_law 858 = .ok (.if_icmp .eq 151, 3) := by decide +kernel
theorem dL_law_861 : decode cL_law 861 = .ok (.iconst 0, 1) := by decide +kernel
theorem dL_law_862 : decode cL_law 862 = .ok (.ireturn, 1) := by decide +kernel
theorem dL_law_863 : decode cL_law 863 = .ok (.aload_n 1, 1) := by decide +kernel
theorem dL_law_864 : decode cL_law 864 = .ok (.aload_n 0, 1) := by decide +kernel
theorem dL_law_865 : decode cL_law 865 = .ok (.iload_n 3, 1) := by decide +kernel
theorem dL_law_866 : decode cL_law 866 = .ok (.iconst 1, 1) := by decide +kernel
theorem dL_law_867 : decode cL_law 867 = .ok (.iadd, 1) := by decide +kernel
theorem dL_law_868 : decode cL_law 868 = .ok (.iaload, 1) := by decide +kernel
theorem dL_law_869 : decode cL_law 869 = .ok (.i2l, 1) := by decide +kernel
theorem dL_law_870 : decode cL_law 870 = .ok (.bipush 32, 2) := by decide +kernel
theorem dL_law_872 : decode cL_law 872 = .ok (.lshl, 1) := by decide +kernel
theorem dL_law_873 : decode cL_law 873 = .ok (.aload_n 0, 1) := by decide +kernel
theorem dL_law_874 : decode cL_law 874 = .ok (.iload_n 3, 1) := by decide +kernel
theorem dL_law_875 : decode cL_law 875 = .ok (.iconst 2, 1) := by decide +kernel
theorem dL_law_876 : decode cL_law 876 = .ok (.iadd, 1) := by decide +kernel
theorem dL_law_877 : decode cL_law 877 = .ok (.iaload, 1) := by decide +kernel
theorem dL_law_878 : decode cL_law 878 = .ok (.i2l, 1) := by decide +kernel
theorem dL_law_879 : decode cL_law 879 = .ok (.ldc2_w 81, 3) := by decide +kernel
theorem dL_law_882 : decode cL_law 882 = .ok (.land, 1) := by decide +kernel
theorem dL_law_883 : decode cL_law 883 = .ok (.lor, 1) := by decide +kernel
theorem dL_law_884 : decode cL_law 884 = .ok (.invokevirtual 114, 3) := by decide +kernel
theorem dL_law_887 : decode cL_law 887 = .ok (.aload_n 2, 1) := by decide +kernel
theorem dL_law_888 : decode cL_law 888 = .ok (.aload_n 0, 1) := by decide +kernel
theorem dL_law_889 : decode cL_law 889 = .ok (.iload_n 3, 1) := by decide +kernel
theorem dL_law_890 : decode cL_law 890 = .ok (.iconst 1, 1) := by decide +kernel
theorem dL_law_891 : decode cL_law 891 = .ok (.iadd, 1) := by decide +kernel
theorem dL_law_892 : decode cL_law 892 = .ok (.iaload, 1) := by decide +kernel
theorem dL_law_893 : decode cL_law 893 = .ok (.i2l, 1) := by decide +kernel
theorem dL_law_894 : decode cL_law 894 = .ok (.bipush 32, 2) := by decide +kernel
theorem dL_law_896 : decode cL_law 896 = .ok (.lshl, 1) := by decide +kernel
theorem dL_law_897 : decode cL_law 897 = .ok (.aload_n 0, 1) := by decide +kernel
theorem dL_law_898 : decode cL_law 898 = .ok (.iload_n 3, 1) := by decide +kernel
theorem dL_law_899 : decode cL_law 899 = .ok (.iconst 2, 1) := by decide +kernel
theorem dL_law_900 : decode cL_law 900 = .ok (.iadd, 1) := by decide +kernel
theorem dL_law_901 : decode cL_law 901 = .ok (.iaload, 1) := by decide +kernel
theorem dL_law_902 : decode cL_law 902 = .ok (.i2l, 1) := by decide +kernel
theorem dL_law_903 : decode cL_law 903 = .ok (.ldc2_w 81, 3) := by decide +kernel
theorem dL_law_906 : decode cL_law 906 = .ok (.land, 1) := by decide +kernel
theorem dL_law_907 : decode cL_law 907 = .ok (.lor, 1) := by decide +kernel
theorem dL_law_908 : decode cL_law 908 = .ok (.invokevirtual 118, 3) := by decide +kernel
theorem dL_law_911 : decode cL_law 911 = .ok (.lcmp, 1) := by decide +kernel
theorem dL_law_912 : decode cL_law 912 = .ok (.ifCond .eq 97, 3) := by decide +kernel
theorem dL_law_915 : decode cL_law 915 = .ok (.iconst 0, 1) := by decide +kernel
theorem dL_law_916 : decode cL_law 916 = .ok (.ireturn, 1) := by decide +kernel
theorem dL_law_917 : decode cL_law 917 = .ok (.aload_n 1, 1) := by decide +kernel
theorem dL_law_918 : decode cL_law 918 = .ok (.aload_n 0, 1) := by decide +kernel
theorem dL_law_919 : decode cL_law 919 = .ok (.iload_n 3, 1) := by decide +kernel
theorem dL_law_920 : decode cL_law 920 = .ok (.iconst 1, 1) := by decide +kernel
theorem dL_law_921 : decode cL_law 921 = .ok (.iadd, 1) := by decide +kernel
theorem dL_law_922 : decode cL_law 922 = .ok (.iaload, 1) := by decide +kernel
theorem dL_law_923 : decode cL_law 923 = .ok (.invokevirtual 119, 3) := by decide +kernel
theorem dL_law_926 : decode cL_law 926 = .ok (.aload_n 2, 1) := by decide +kernel
theorem dL_law_927 : decode cL_law 927 = .ok (.aload_n 0, 1) := by decide +kernel
theorem dL_law_928 : decode cL_law 928 = .ok (.iload_n 3, 1) := by decide +kernel
theorem dL_law_929 : decode cL_law 929 = .ok (.iconst 1, 1) := by decide +kernel
theorem dL_law_930 : decode cL_law 930 = .ok (.iadd, 1) := by decide +kernel
theorem dL_law_931 : decode cL_law 931 = .ok (.iaload, 1) := by decide +kernel
theorem dL_law_932 : decode cL_law 932 = .ok (.invokevirtual 122, 3) := by decide +kernel
theorem dL_law_935 : decode cL_law 935 = .ok (.if_icmp .eq 74, 3) := by decide +kernel
theorem dL_law_938 : decode cL_law 938 = .ok (.iconst 0, 1) := by decide +kernel
theorem dL_law_939 : decode cL_law 939 = .ok (.ireturn, 1) := by decide +kernel
theorem dL_law_940 : decode cL_law 940 = .ok (.aload_n 1, 1) := by decide +kernel
theorem dL_law_941 : decode cL_law 941 = .ok (.aload_n 0, 1) := by decide +kernel
theorem dL_law_942 : decode cL_law 942 = .ok (.iload_n 3, 1) := by decide +kernel
theorem dL_law_943 : decode cL_law 943 = .ok (.iconst 1, 1) := by decide +kernel
theorem dL_law_944 : decode cL_law 944 = .ok (.iadd, 1) := by decide +kernel
theorem dL_law_945 : decode cL_law 945 = .ok (.iaload, 1) := by decide +kernel
theorem dL_law_946 : decode cL_law 946 = .ok (.invokevirtual 123, 3) := by decide +kernel
theorem dL_law_949 : decode cL_law 949 = .ok (.aload_n 2, 1) := by decide +kernel
theorem dL_law_950 : decode cL_law 950 = .ok (.aload_n 0, 1) := by decide +kernel
theorem dL_law_951 : decode cL_law 951 = .ok (.iload_n 3, 1) := by decide +kernel
theorem dL_law_952 : decode cL_law 952 = .ok (.iconst 1, 1) := by decide +kernel
theorem dL_law_953 : decode cL_law 953 = .ok (.iadd, 1) := by decide +kernel
theorem dL_law_954 : decode cL_law 954 = .ok (.iaload, 1) := by decide +kernel
theorem dL_law_955 : decode cL_law 955 = .ok (.invokevirtual 126, 3) := by decide +kernel
theorem dL_law_958 : decode cL_law 958 = .ok (.if_icmp .eq 51, 3) := by decide +kernel
theorem dL_law_961 : decode cL_law 961 = .ok (.iconst 0, 1) := by decide +kernel
theorem dL_law_962 : decode cL_law 962 = .ok (.ireturn, 1) := by decide +kernel
theorem dL_law_963 : decode cL_law 963 = .ok (.aload_n 1, 1) := by decide +kernel
theorem dL_law_964 : decode cL_law 964 = .ok (.aload_n 0, 1) := by decide +kernel
theorem dL_law_965 : decode cL_law 965 = .ok (.iload_n 3, 1) := by decide +kernel
theorem dL_law_966 : decode cL_law 966 = .ok (.iconst 1, 1) := by decide +kernel
theorem dL_law_967 : decode cL_law 967 = .ok (.iadd, 1) := by decide +kernel
theorem dL_law_968 : decode cL_law 968 = .ok (.iaload, 1) := by decide +kernel
theorem dL_law_969 : decode cL_law 969 = .ok (.invokevirtual 127, 3) := by decide +kernel
theorem dL_law_972 : decode cL_law 972 = .ok (.aload_n 2, 1) := by decide +kernel
theorem dL_law_973 : decode cL_law 973 = .ok (.aload_n 0, 1) := by decide +kernel
theorem dL_law_974 : decode cL_law 974 = .ok (.iload_n 3, 1) := by decide +kernel
theorem dL_law_975 : decode cL_law 975 = .ok (.iconst 1, 1) := by decide +kernel
theorem dL_law_976 : decode cL_law 976 = .ok (.iadd, 1) := by decide +kernel
theorem dL_law_977 : decode cL_law 977 = .ok (.iaload, 1) := by decide +kernel
theorem dL_law_978 : decode cL_law 978 = .ok (.invokevirtual 130, 3) := by decide +kernel
theorem dL_law_981 : decode cL_law 981 = .ok (.if_icmp .eq 28, 3) := by decide +kernel
theorem dL_law_984 : decode cL_law 984 = .ok (.iconst 0, 1) := by decide +kernel
theorem dL_law_985 : decode cL_law 985 = .ok (.ireturn, 1) := by decide +kernel
theorem dL_law_986 : decode cL_law 986 = .ok (.aload_n 1, 1) := by decide +kernel
theorem dL_law_987 : decode cL_law 987 = .ok (.aload_n 0, 1) := by decide +kernel
theorem dL_law_988 : decode cL_law 988 = .ok (.iload_n 3, 1) := by decide +kernel
theorem dL_law_989 : decode cL_law 989 = .ok (.iconst 1, 1) := by decide +kernel
theorem dL_law_990 : decode cL_law 990 = .ok (.iadd, 1) := by decide +kernel
theorem dL_law_991 : decode cL_law 991 = .ok (.iaload, 1) := by decide +kernel
theorem dL_law_992 : decode cL_law 992 = .ok (.invokevirtual 131, 3) := by decide +kernel
theorem dL_law_995 : decode cL_law 995 = .ok (.aload_n 2, 1) := by decide +kernel
theorem dL_law_996 : decode cL_law 996 = .ok (.aload_n 0, 1) := by decide +kernel
theorem dL_law_997 : decode cL_law 997 = .ok (.iload_n 3, 1) := by decide +kernel
theorem dL_law_998 : decode cL_law 998 = .ok (.iconst 1, 1) := by decide +kernel
theorem dL_law_999 : decode cL_law 999 = .ok (.iadd, 1) := by decide +kernel
theorem dL_law_1000 : decode cL_law 1000 = .ok (.iaload, 1) := by decide +kernel
theorem dL_law_1001 : decode cL_law 1001 = .ok (.invokevirtual 134, 3) := by decide +kernel
theorem dL_law_1004 : decode cL_law 1004 = .ok (.if_icmp .eq 5, 3) := by decide +kernel
theorem dL_law_1007 : decode cL_law 1007 = .ok (.iconst 0, 1) := by decide +kernel
theorem dL_law_1008 : decode cL_law 1008 = .ok (.ireturn, 1) := by decide +kernel
theorem dL_law_1009 : decode cL_law 1009 = .ok (.iinc 3 6, 3) := by decide +kernel
theorem dL_law_1012 : decode cL_law 1012 = .ok (.goto (-994), 3) := by decide +kernel
theorem dL_law_1015 : decode cL_law 1015 = .ok (.iconst 1, 1) := by decide +kernel
theorem dL_law_1016 : decode cL_law 1016 = .ok (.ireturn, 1) := by decide +kernel
