theorem dX7_readPart_119 : decode cX7_readPart 119 = .ok (.aload_n 0, 1) := by decide +kernel
theorem dX7_readPart_120 : decode cX7_readPart 120 = .ok (.getfield 67, 3) := by decide +kernel
theorem dX7_readPart_123 : decode cX7_readPart 123 = .ok (.iconst 2, 1) := by decide +kernel
theorem dX7_readPart_124 : decode cX7_readPart 124 = .ok (.iadd, 1) := by decide +kernel
theorem dX7_readPart_125 : decode cX7_readPart 125 = .ok (.aload_n 0, 1) := by decide +kernel
theorem dX7_readPart_126 : decode cX7_readPart 126 = .ok (.getfield 60, 3) := by decide +kernel
theorem dX7_readPart_129 : decode cX7_readPart 129 = .ok (.if_icmp .ge 20, 3) := by decide +kernel
theorem dX7_readPart_132 : decode cX7_readPart 132 = .ok (.aload_n 0, 1) := by decide +kernel
theorem dX7_readPart_133 : decode cX7_readPart 133 = .ok (.getfield 28, 3) := by decide +kernel
theorem dX7_readPart_136 : decode cX7_readPart 136 = .ok (.aload_n 0, 1) := by decide +kernel
theorem dX7_readPart_137 : decode cX7_readPart 137 = .ok (.getfield 67, 3) := by decide +kernel
theorem dX7_readPart_140 : decode cX7_readPart 140 = .ok (.iconst 2, 1) := by decide +kernel
theorem dX7_readPart_141 : decode cX7_readPart 141 = .ok (.iadd, 1) := by decide +kernel
theorem dX7_readPart_142 : decode cX7_readPart 142 = .ok (.iaload, 1) := by decide +kernel
theorem dX7_readPart_143 : decode cX7_readPart 143 = .ok (.bipush 48, 2) := by decide +kernel
theorem dX7_readPart_145 : decode cX7_readPart 145 = .ok (.isub, 1) := by decide +kernel
theorem dX7_readPart_146 : decode cX7_readPart 146 = .ok (.goto 5, 3) := by decide +kernel
theorem dX7_readPart_149 : decode cX7_readPart 149 = .ok (.bipush (-9), 2) := by decide +kernel
theorem dX7_readPart_151 : decode cX7_readPart 151 = .ok (.istore 4, 2) := by decide +kernel
theorem dX7_readPart_153 : decode cX7_readPart 153 = .ok (.iload 4, 2) := by decide +kernel
theorem dX7_readPart_155 : decode cX7_readPart 155 = .ok (.i2l, 1) := by decide +kernel
theorem dX7_readPart_156 : decode cX7_readPart 156 = .ok (.lconst 0, 1) := by decide +kernel
theorem dX7_readPart_157 : decode cX7_readPart 157 = .ok (.ldc2_w 86, 3) := by decide +kernel
theorem dX7_readPart_160 : decode cX7_readPart 160 = .ok (.invokestatic 56, 3) := by decide +kernel
theorem dX7_readPart_163 : decode cX7_readPart 163 = .ok (.ifCond .ne 14, 3) := by decide +kernel
theorem dX7_readPart_166 : decode cX7_readPart 166 = .ok (.aload_n 0, 1) := by decide +kernel
theorem dX7_readPart_167 : decode cX7_readPart 167 = .ok (.aload_n 0, 1) := by decide +kernel
theorem dX7_readPart_168 : decode cX7_readPart 168 = .ok (.getfield 67, 3) := by decide +kernel
theorem dX7_readPart_171 : decode cX7_readPart 171 = .ok (.iconst 2, 1) := by decide +kernel
theorem dX7_readPart_172 : decode cX7_readPart 172 = .ok (.iadd, 1) := by decide +kernel
theorem dX7_readPart_173 : decode cX7_readPart 173 = .ok (.putfield 70, 3) := by decide +kernel
theorem dX7_readPart_176 : decode cX7_readPart 176 = .ok (.return_, 1) := by decide +kernel
theorem dX7_readPart_177 : decode cX7_readPart 177 = .ok (.aload_n 0, 1) := by decide +kernel
theorem dX7_readPart_178 : decode cX7_readPart 178 = .ok (.getfield 19, 3) := by decide +kernel
theorem dX7_readPart_181 : decode cX7_readPart 181 = .ok (.iconst 4, 1) := by decide +kernel
theorem dX7_readPart_182 : decode cX7_readPart 182 = .ok (.iaload, 1) := by decide +kernel
theorem dX7_readPart_183 : decode cX7_readPart 183 = .ok (.invokestatic 63, 3) := by decide +kernel
theorem dX7_readPart_186 : decode cX7_readPart 186 = .ok (.istore 5, 2) := by decide +kernel
theorem dX7_readPart_188 : decode cX7_readPart 188 = .ok (.aload_n 0, 1) := by decide +kernel
theorem dX7_readPart_189 : decode cX7_readPart 189 = .ok (.getfield 22, 3) := by decide +kernel
theorem dX7_readPart_192 : decode cX7_readPart 192 = .ok (.iload 5, 2) := by decide +kernel
theorem dX7_readPart_194 : decode cX7_readPart 194 = .ok (.iload_n 3, 1) := by decide +kernel
theorem dX7_readPart_195 : decode cX7_readPart 195 = .ok (.iastore, 1) := by decide +kernel
theorem dX7_readPart_196 : decode cX7_readPart 196 = .ok (.aload_n 0, 1) := by decide +kernel
theorem dX7_readPart_197 : decode cX7_readPart 197 = .ok (.getfield 25, 3) := by decide +kernel
theorem dX7_readPart_200 : decode cX7_readPart 200 = .ok (.iload 5, 2) := by decide +kernel
theorem dX7_readPart_202 : decode cX7_readPart 202 = .ok (.iload 4, 2) := by decide +kernel
theorem dX7_readPart_204 : decode cX7_readPart 204 = .ok (.iastore, 1) := by decide +kernel
theorem dX7_readPart_205 : decode cX7_readPart 205 = .ok (.aload_n 0, 1) := by decide +kernel
theorem dX7_readPart_206 : decode cX7_readPart 206 = .ok (.dup, 1) := by decide +kernel
theorem dX7_readPart_207 : decode cX7_readPart 207 = .ok (.getfield 67, 3) := by decide +kernel
theorem dX7_readPart_210 : decode cX7_readPart 210 = .ok (.iconst 1, 1) := by decide +kernel
theorem dX7_readPart_211 : decode cX7_readPart 211 = .ok (.iadd, 1) := by decide +kernel
theorem dX7_readPart_212 : decode cX7_readPart 212 = .ok (.putfield 67, 3) := by decide +kernel
theorem dX7_readPart_215 : decode cX7_readPart 215 = .ok (.aload_n 0, 1) := by decide +kernel
theorem dX7_readPart_216 : decode cX7_readPart 216 = .ok (.getfield 19, 3) := by decide +kernel
theorem dX7_readPart_219 : decode cX7_readPart 219 = .ok (.iload_n 1, 1) := by decide +kernel
theorem dX7_readPart_220 : decode cX7_readPart 220 = .ok (.dup2, 1) := by decide +kernel
theorem dX7_readPart_221 : decode cX7_readPart 221 = .ok (.iaload, 1) := by decide +kernel
theorem dX7_readPart_222 : decode cX7_readPart 222 = .ok (.iconst 1, 1) := by decide +kernel
theorem dX7_readPart_223 : decode cX7_readPart 223 = .ok (.iload_n 3, 1) := by decide +kernel
theorem dX7_readPart_224 : decode cX7_readPart 224 = .ok (.ishl, 1) := by decide +kernel
theorem dX7_readPart_225 : decode cX7_readPart 225 = .ok (.ior, 1) := by decide +kernel
theorem dX7_readPart_226 : decode cX7_readPart 226 = .ok (.iastore, 1) := by decide +kernel
theorem dX7_readPart_227 : decode cX7_readPart 227 = .ok (.aload_n 0, 1) := by decide +kernel
theorem dX7_readPart_228 : decode cX7_readPart 228 = .ok (.dup, 1) := by decide +kernel
theorem dX7_readPart_229 : decode cX7_readPart 229 = .ok (.getfield 67, 3) := by decide +kernel
theorem dX7_readPart_232 : decode cX7_readPart 232 = .ok (.iconst 2, 1) := by decide +kernel
theorem dX7_readPart_233 : decode cX7_readPart 233 = .ok (.iadd, 1) := by decide +kernel
theorem dX7_readPart_234 : decode cX7_readPart 234 = .ok (.putfield 67, 3) := by decide +kernel
theorem dX7_readPart_237 : decode cX7_readPart 237 = .ok (.return_, 1) := by decide +kernel
set_option maxRecDepth 20000 in
theorem ggX7_fault_X7_readText : GoodIn wsX7_fault wsX7_readText := goodIn_r _ [5, 6, 7, 8, 9, 10, 11, 12, 13, 4, 14, 15, 16, 17, 18, 19, 20, 21, 22, 23, 24, 25, 26, 27, 28, 29, 30, 31, 32, 33, 34, 35, 36, 37, 38, 39, 40, 41, 42, 43, 44, 45, 46, 47, 48, 49, 50, 51, 52, 53, 54, 55] (by decide +kernel) (by decide +kernel)
set_option maxRecDepth 20000 in
theorem gX7_fault_X7_readText : GoodIn wsX7_fault (wsV RX7 88 RX7 yX7_readText wsX7_readText) := goodIn_app (goodIn_of _ (by decide +kernel)) ggX7_fault_X7_readText
theorem dX7_fault_0 : decode cX7_fault 0 = .ok (.aload_n 0, 1) := by decide +kernel
theorem dX7_fault_1 : decode cX7_fault 1 = .ok (.invokevirtual 88, 3) := by decide +kernel
theorem dX7_fault_4 : decode cX7_fault 4 = .ok (.ireturn, 1) := by decide +kernel
set_option maxRecDepth 20000 in
theorem ggX7_table_X7_readText : GoodIn wsX7_table wsX7_readText := goodIn_r _ [14, 15, 16, 2, 17, 18, 19, 20, 21, 13, 22, 23, 24, 25, 26, 27, 28, 29, 30, 31, 5, 7, 32, 33, 34, 35, 36, 37, 38, 39, 40, 41, 42, 43, 44, 45, 46, 47, 48, 49, 50, 51, 52, 53, 54, 55, 56, 57, 58, 59, 60, 61] (by decide +kernel) (by decide +kernel)
set_option maxRecDepth 20000 in
theorem gX7_table_X7_readText : GoodIn wsX7_table (wsV RX7 88 RX7 yX7_readText wsX7_readText) := goodIn_app (goodIn_of _ (by decide +kernel)) ggX7_table_X7_readText
set_option maxRecDepth 20000 in
theorem ggX7_table_X7_ones : GoodIn wsX7_table wsX7_ones := goodIn_r _ [25] (by decide +kernel) (by decide +kernel)
set_option maxRecDepth 20000 in
theorem gX7_table_X7_ones : GoodIn wsX7_table (va_wsS RX7 63 yX7_ones wsX7_ones) := goodIn_app (goodIn_of _ (by decide +kernel)) ggX7_table_X7_ones
theorem dX7_table_0 : decode cX7_table 0 = .ok (.aload_n 0, 1) := by decide +kernel
theorem dX7_table_1 : decode cX7_table 1 = .ok (.invokevirtual 88, 3) := by decide +kernel
theorem dX7_table_4 : decode cX7_table 4 = .ok (.bipush (-9), 2) := by decide +kernel
theorem dX7_table_6 : decode cX7_table 6 = .ok (.if_icmp .eq 6, 3) := by decide +kernel
theorem dX7_table_9 : decode cX7_table 9 = .ok (.bipush (-3), 2) := by decide +kernel
theorem dX7_table_11 : decode cX7_table 11 = .ok (.ireturn, 1) := by decide +kernel
theorem dX7_table_12 : decode cX7_table 12 = .ok (.iconst 0, 1) := by decide +kernel
theorem dX7_table_13 : decode cX7_table 13 = .ok (.istore_n 1, 1) := by decide +kernel
theorem dX7_table_14 : decode cX7_table 14 = .ok (.iload_n 1, 1) := by decide +kernel
theorem dX7_table_15 : decode cX7_table 15 = .ok (.iconst 5, 1) := by decide +kernel
theorem dX7_table_16 : decode cX7_table 16 = .ok (.if_icmp .ge 21, 3) := by decide +kernel
theorem dX7_table_19 : decode cX7_table 19 = .ok (.aload_n 0, 1) := by decide +kernel
theorem dX7_table_20 : decode cX7_table 20 = .ok (.getfield 13, 3) := by decide +kernel
theorem dX7_table_23 : decode cX7_table 23 = .ok (.iload_n 1, 1) := by decide +kernel
theorem dX7_table_24 : decode cX7_table 24 = .ok (.aload_n 0, 1) := by decide +kernel
theorem dX7_table_25 : decode cX7_table 25 = .ok (.getfield 19, 3) := by decide +kernel
theorem dX7_table_28 : decode cX7_table 28 = .ok (.iload_n 1, 1) := by decide +kernel
theorem dX7_table_29 : decode cX7_table 29 = .ok (.iaload, 1) := by decide +kernel
theorem dX7_table_30 : decode cX7_table 30 = .ok (.iastore, 1) := by decide +kernel
theorem dX7_table_31 : decode cX7_table 31 = .ok (.iinc 1 1, 3) := by decide +kernel
theorem dX7_table_34 : decode cX7_table 34 = .ok (.goto (-20), 3) := by decide +kernel
theorem dX7_table_37 : decode cX7_table 37 = .ok (.aload_n 0, 1) := by decide +kernel
theorem dX7_table_38 : decode cX7_table 38 = .ok (.aload_n 0, 1) := by decide +kernel
theorem dX7_table_39 : decode cX7_table 39 = .ok (.getfield 13, 3) := by decide +kernel
theorem dX7_table_42 : decode cX7_table 42 = .ok (.iconst 4, 1) := by decide +kernel
theorem dX7_table_43 : decode cX7_table 43 = .ok (.iaload, 1) := by decide +kernel
theorem dX7_table_44 : decode cX7_table 44 = .ok (.invokestatic 63, 3) := by decide +kernel
theorem dX7_table_47 : decode cX7_table 47 = .ok (.putfield 92, 3) := by decide +kernel
theorem dX7_table_50 : decode cX7_table 50 = .ok (.iconst 0, 1) := by decide +kernel
theorem dX7_table_51 : decode cX7_table 51 = .ok (.istore_n 1, 1) := by decide +kernel
theorem dX7_table_52 : decode cX7_table 52 = .ok (.iload_n 1, 1) := by decide +kernel
theorem dX7_table_53 : decode cX7_table 53 = .ok (.bipush 7, 2) := by decide +kernel
theorem dX7_table_55 : decode cX7_table 55 = .ok (.if_icmp .ge 16, 3) := by decide +kernel
theorem dX7_table_58 : decode cX7_table 58 = .ok (.aload_n 0, 1) := by decide +kernel
theorem dX7_table_59 : decode cX7_table 59 = .ok (.getfield 16, 3) := by decide +kernel
theorem dX7_table_62 : decode cX7_table 62 = .ok (.iload_n 1, 1) := by decide +kernel
theorem dX7_table_63 : decode cX7_table 63 = .ok (.iconst 0, 1) := by decide +kernel
theorem dX7_table_64 : decode cX7_table 64 = .ok (.iastore, 1) := by decide +kernel
theorem dX7_table_65 : decode cX7_table 65 = .ok (.iinc 1 1, 3) := by decide +kernel
theorem dX7_table_68 : decode cX7_table 68 = .ok (.goto (-16), 3) := by decide +kernel
theorem dX7_table_71 : decode cX7_table 71 = .ok (.iconst 0, 1) := by decide +kernel
theorem dX7_table_72 : decode cX7_table 72 = .ok (.istore_n 1, 1) := by decide +kernel
theorem dX7_table_73 : decode cX7_table 73 = .ok (.iload_n 1, 1) := by decide +kernel
theorem dX7_table_74 : decode cX7_table 74 = .ok (.aload_n 0, 1) := by decide +kernel
theorem dX7_table_75 : decode cX7_table 75 = .ok (.getfield 92, 3) := by decide +kernel
theorem dX7_table_78 : decode cX7_table 78 = .ok (.if_icmp .ge 33, 3) := by decide +kernel
theorem dX7_table_81 : decode cX7_table 81 = .ok (.aload_n 0, 1) := by decide +kernel
theorem dX7_table_82 : decode cX7_table 82 = .ok (.getfield 16, 3) := by decide +kernel
theorem dX7_table_85 : decode cX7_table 85 = .ok (.iload_n 1, 1) := by decide +kernel
theorem dX7_table_86 : decode cX7_table 86 = .ok (.aload_n 0, 1) := by decide +kernel
theorem dX7_table_87 : decode cX7_table 87 = .ok (.getfield 22, 3) := by decide +kernel
theorem dX7_table_90 : decode cX7_table 90 = .ok (.iload_n 1, 1) := by decide +kernel
theorem dX7_table_91 : decode cX7_table 91 = .ok (.iaload, 1) := by decide +kernel
theorem dX7_table_92 : decode cX7_table 92 = .ok (.iastore, 1) := by decide +kernel
theorem dX7_table_93 : decode cX7_table 93 = .ok (.aload_n 0, 1) := by decide +kernel
theorem dX7_table_94 : decode cX7_table 94 = .ok (.getfield 7, 3) := by decide +kernel
theorem dX7_table_97 : decode cX7_table 97 = .ok (.iload_n 1, 1) := by decide +kernel
theorem dX7_table_98 : decode cX7_table 98 = .ok (.aload_n 0, 1) := by decide +kernel
theorem dX7_table_99 : decode cX7_table 99 = .ok (.getfield 25, 3) := by decide +kernel
theorem dX7_table_102 : decode cX7_table 102 = .ok (.iload_n 1, 1) := by decide +kernel
theorem dX7_table_103 : decode cX7_table 103 = .ok (.iaload, 1) := by decide +kernel
theorem dX7_table_104 : decode cX7_table 104 = .ok (.iastore, 1) := by decide +kernel
theorem dX7_table_105 : decode cX7_table 105 = .ok (.iinc 1 1, 3) := by decide +kernel
theorem dX7_table_108 : decode cX7_table 108 = .ok (.goto (-35), 3) := by decide +kernel
theorem dX7_table_111 : decode cX7_table 111 = .ok (.aload_n 0, 1) := by decide +kernel
theorem dX7_table_112 : decode cX7_table 112 = .ok (.iconst 0, 1) := by decide +kernel
theorem dX7_table_113 : decode cX7_table 113 = .ok (.putfield 95, 3) := by decide +kernel
theorem dX7_table_116 : decode cX7_table 116 = .ok (.aload_n 0, 1) := by decide +kernel
theorem dX7_table_117 : decode cX7_table 117 = .ok (.getfield 47, 3) := by decide +kernel
theorem dX7_table_120 : decode cX7_table 120 = .ok (.iconst 0, 1) := by decide +kernel
theorem dX7_table_121 : decode cX7_table 121 = .ok (.iconst 0, 1) := by decide +kernel
theorem dX7_table_122 : decode cX7_table 122 = .ok (.bastore, 1) := by decide +kernel
theorem dX7_table_123 : decode cX7_table 123 = .ok (.aload_n 0, 1) := by decide +kernel
theorem dX7_table_124 : decode cX7_table 124 = .ok (.getfield 47, 3) := by decide +kernel
theorem dX7_table_127 : decode cX7_table 127 = .ok (.iconst 1, 1) := by decide +kernel
theorem dX7_table_128 : decode cX7_table 128 = .ok (.iconst 0, 1) := by decide +kernel
theorem dX7_table_129 : decode cX7_table 129 = .ok (.bastore, 1) := by decide +kernel
theorem dX7_table_130 : decode cX7_table 130 = .ok (.bipush 100, 2) := by decide +kernel
theorem dX7_table_132 : decode cX7_table 132 = .ok (.aload_n 0, 1) := by decide +kernel
theorem dX7_table_133 : decode cX7_table 133 = .ok (.getfield 13, 3) := by decide +kernel
theorem dX7_table_136 : decode cX7_table 136 = .ok (.iconst 0, 1) := by decide +kernel
theorem dX7_table_137 : decode cX7_table 137 = .ok (.iaload, 1) := by decide +kernel
theorem dX7_table_138 : decode cX7_table 138 = .ok (.invokestatic 63, 3) := by decide +kernel
theorem dX7_table_141 : decode cX7_table 141 = .ok (.imul, 1) := by decide +kernel
theorem dX7_table_142 : decode cX7_table 142 = .ok (.bipush 10, 2) := by decide +kernel
theorem dX7_table_144 : decode cX7_table 144 = .ok (.aload_n 0, 1) := by decide +kernel
theorem dX7_table_145 : decode cX7_table 145 = .ok (.getfield 13, 3) := by decide +kernel
theorem dX7_table_148 : decode cX7_table 148 = .ok (.iconst 1, 1) := by decide +kernel
theorem dX7_table_149 : decode cX7_table 149 = .ok (.iaload, 1) := by decide +kernel
theorem dX7_table_150 : decode cX7_table 150 = .ok (.invokestatic 63, 3) := by decide +kernel
theorem dX7_table_153 : decode cX7_table 153 = .ok (.imul, 1) := by decide +kernel
theorem dX7_table_154 : decode cX7_table 154 = .ok (.iadd, 1) := by decide +kernel
theorem dX7_table_155 : decode cX7_table 155 = .ok (.aload_n 0, 1) := by decide +kernel
theorem dX7_table_156 : decode cX7_table 156 = .ok (.getfield 92, 3) := by decide +kernel
theorem dX7_table_159 : decode cX7_table 159 = .ok (.iadd, 1) := by decide +kernel
theorem dX7_table_160 : decode cX7_table 160 = .ok (.ireturn, 1) := by decide +kernel
set_option maxRecDepth 20000 in
theorem ggX7_isMarble_X7_in : GoodIn wsX7_isMarble wsX7_in := goodIn_r _ [5] (by decide +kernel) (by decide +kernel)
set_option maxRecDepth 20000 in
theorem gX7_isMarble_X7_in : GoodIn wsX7_isMarble (va_wsS RX7 56 yX7_in wsX7_in) := goodIn_app (goodIn_of _ (by decide +kernel)) ggX7_isMarble_X7_in
theorem dX7_isMarble_0 : decode cX7_isMarble 0 = .ok (.iload_n 1, 1) := by decide +kernel
theorem dX7_isMarble_1 : decode cX7_isMarble 1 = .ok (.i2l, 1) := by decide +kernel
theorem dX7_isMarble_2 : decode cX7_isMarble 2 = .ok (.lconst 0, 1) := by decide +kernel
theorem dX7_isMarble_3 : decode cX7_isMarble 3 = .ok (.aload_n 0, 1) := by decide +kernel
theorem dX7_isMarble_4 : decode cX7_isMarble 4 = .ok (.getfield 92, 3) := by decide +kernel
theorem dX7_isMarble_7 : decode cX7_isMarble 7 = .ok (.iconst 1, 1) := by decide +kernel
theorem dX7_isMarble_8 : decode cX7_isMarble 8 = .ok (.isub, 1) := by decide +kernel
theorem dX7_isMarble_9 : decode cX7_isMarble 9 = .ok (.i2l, 1) := by decide +kernel
theorem dX7_isMarble_10 : decode cX7_isMarble 10 = .ok (.invokestatic 56, 3) := by decide +kernel
theorem dX7_isMarble_13 : decode cX7_isMarble 13 = .ok (.ireturn, 1) := by decide +kernel
set_option maxRecDepth 20000 in
theorem ggX7_isCell_X7_in : GoodIn wsX7_isCell wsX7_in := goodIn_r _ [5] (by decide +kernel) (by decide +kernel)
set_option maxRecDepth 20000 in
theorem gX7_isCell_X7_in : GoodIn wsX7_isCell (va_wsS RX7 56 yX7_in wsX7_in) := goodIn_app (goodIn_of _ (by decide +kernel)) ggX7_isCell_X7_in
theorem dX7_isCell_0 : decode cX7_isCell 0 = .ok (.iload_n 0, 1) := by decide +kernel
theorem dX7_isCell_1 : decode cX7_isCell 1 = .ok (.i2l, 1) := by decide +kernel
theorem dX7_isCell_2 : decode cX7_isCell 2 = .ok (.lconst 0, 1) := by decide +kernel
theorem dX7_isCell_3 : decode cX7_isCell 3 = .ok (.ldc2_w 80, 3) := by decide +kernel
theorem dX7_isCell_6 : decode cX7_isCell 6 = .ok (.invokestatic 56, 3) := by decide +kernel
theorem dX7_isCell_9 : decode cX7_isCell 9 = .ok (.ireturn, 1) := by decide +kernel
theorem dX7_onward_0 : decode cX7_onward 0 = .ok (.iload_n 1, 1) := by decide +kernel
theorem dX7_onward_1 : decode cX7_onward 1 = .ok (.tableswitch 72 0 2 #[27, 42, 58], 27) := by decide +kernel
theorem dX7_onward_28 : decode cX7_onward 28 = .ok (.iload_n 0, 1) := by decide +kernel
theorem dX7_onward_29 : decode cX7_onward 29 = .ok (.iconst 5, 1) := by decide +kernel
theorem dX7_onward_30 : decode cX7_onward 30 = .ok (.irem, 1) := by decide +kernel
theorem dX7_onward_31 : decode cX7_onward 31 = .ok (.ifCond .ne 8, 3) := by decide +kernel
theorem dX7_onward_34 : decode cX7_onward 34 = .ok (.bipush (-9), 2) := by decide +kernel
theorem dX7_onward_36 : decode cX7_onward 36 = .ok (.goto 6, 3) := by decide +kernel
theorem dX7_onward_39 : decode cX7_onward 39 = .ok (.iload_n 0, 1) := by decide +kernel
theorem dX7_onward_40 : decode cX7_onward 40 = .ok (.iconst 1, 1) := by decide +kernel
theorem dX7_onward_41 : decode cX7_onward 41 = .ok (.isub, 1) := by decide +kernel
theorem dX7_onward_42 : decode cX7_onward 42 = .ok (.ireturn, 1) := by decide +kernel
theorem dX7_onward_43 : decode cX7_onward 43 = .ok (.iload_n 0, 1) := by decide +kernel
theorem dX7_onward_44 : decode cX7_onward 44 = .ok (.iconst 5, 1) := by decide +kernel
theorem dX7_onward_45 : decode cX7_onward 45 = .ok (.irem, 1) := by decide +kernel
theorem dX7_onward_46 : decode cX7_onward 46 = .ok (.iconst 4, 1) := by decide +kernel
theorem dX7_onward_47 : decode cX7_onward 47 = .ok (.if_icmp .ne 8, 3) := by decide +kernel
theorem dX7_onward_50 : decode cX7_onward 50 = .ok (.bipush (-9), 2) := by decide +kernel
theorem dX7_onward_52 : decode cX7_onward 52 = .ok (.goto 6, 3) := by decide +kernel
theorem dX7_onward_55 : decode cX7_onward 55 = .ok (.iload_n 0, 1) := by decide +kernel
theorem dX7_onward_56 : decode cX7_onward 56 = .ok (.iconst 1, 1) := by decide +kernel
theorem dX7_onward_57 : decode cX7_onward 57 = .ok (.iadd, 1) := by decide +kernel
theorem dX7_onward_58 : decode cX7_onward 58 = .ok (.ireturn, 1) := by decide +kernel
theorem dX7_onward_59 : decode cX7_onward 59 = .ok (.iload_n 0, 1) := by decide +kernel
theorem dX7_onward_60 : decode cX7_onward 60 = .ok (.iconst 5, 1) := by decide +kernel
theorem dX7_onward_61 : decode cX7_onward 61 = .ok (.if_icmp .ge 8, 3) := by decide +kernel
theorem dX7_onward_64 : decode cX7_onward 64 = .ok (.bipush (-9), 2) := by decide +kernel
theorem dX7_onward_66 : decode cX7_onward 66 = .ok (.goto 6, 3) := by decide +kernel
theorem dX7_onward_69 : decode cX7_onward 69 = .ok (.iload_n 0, 1) := by decide +kernel
theorem dX7_onward_70 : decode cX7_onward 70 = .ok (.iconst 5, 1) := by decide +kernel
theorem dX7_onward_71 : decode cX7_onward 71 = .ok (.isub, 1) := by decide +kernel
theorem dX7_onward_72 : decode cX7_onward 72 = .ok (.ireturn, 1) := by decide +kernel
theorem dX7_onward_73 : decode cX7_onward 73 = .ok (.iload_n 0, 1) := by decide +kernel
theorem dX7_onward_74 : decode cX7_onward 74 = .ok (.bipush 19, 2) := by decide +kernel
theorem dX7_onward_76 : decode cX7_onward 76 = .ok (.if_icmp .le 8, 3) := by decide +kernel
theorem dX7_onward_79 : decode cX7_onward 79 = .ok (.bipush (-9), 2) := by decide +kernel
theorem dX7_onward_81 : decode cX7_onward 81 = .ok (.goto 6, 3) := by decide +kernel
theorem dX7_onward_84 : decode cX7_onward 84 = .ok (.iload_n 0, 1) := by decide +kernel
theorem dX7_onward_85 : decode cX7_onward 85 = .ok (.iconst 5, 1) := by decide +kernel
theorem dX7_onward_86 : decode cX7_onward 86 = .ok (.iadd, 1) := by decide +kernel
theorem dX7_onward_87 : decode cX7_onward 87 = .ok (.ireturn, 1) := by decide +kernel
set_option maxRecDepth 20000 in
theorem ggX7_nearMagnet_X7_onward : GoodIn wsX7_nearMagnet wsX7_onward := goodIn_r _ [5] (by decide +kernel) (by decide +kernel)
set_option maxRecDepth 20000 in
theorem gX7_nearMagnet_X7_onward : GoodIn wsX7_nearMagnet (va_wsS RX7 98 yX7_onward wsX7_onward) := goodIn_app (goodIn_of _ (by decide +kernel)) ggX7_nearMagnet_X7_onward
set_option maxRecDepth 20000 in
theorem ggX7_nearMagnet_X7_has : GoodIn wsX7_nearMagnet wsX7_has := goodIn_r _ [8] (by decide +kernel) (by decide +kernel)
set_option maxRecDepth 20000 in
theorem gX7_nearMagnet_X7_has : GoodIn wsX7_nearMagnet (va_wsS RX7 82 yX7_has wsX7_has) := goodIn_app (goodIn_of _ (by decide +kernel)) ggX7_nearMagnet_X7_has
theorem dX7_nearMagnet_0 : decode cX7_nearMagnet 0 = .ok (.iconst 0, 1) := by decide +kernel
theorem dX7_nearMagnet_1 : decode cX7_nearMagnet 1 = .ok (.istore_n 2, 1) := by decide +kernel
theorem dX7_nearMagnet_2 : decode cX7_nearMagnet 2 = .ok (.iconst 0, 1) := by decide +kernel
theorem dX7_nearMagnet_3 : decode cX7_nearMagnet 3 = .ok (.istore_n 3, 1) := by decide +kernel
theorem dX7_nearMagnet_4 : decode cX7_nearMagnet 4 = .ok (.iload_n 3, 1) := by decide +kernel
theorem dX7_nearMagnet_5 : decode cX7_nearMagnet 5 = .ok (.iconst 4, 1) := by decide +kernel
theorem dX7_nearMagnet_6 : decode cX7_nearMagnet 6 = .ok (.if_icmp .ge 47, 3) := by decide +kernel
theorem dX7_nearMagnet_9 : decode cX7_nearMagnet 9 = .ok (.iload_n 1, 1) := by decide +kernel
theorem dX7_nearMagnet_10 : decode cX7_nearMagnet 10 = .ok (.iload_n 3, 1) := by decide +kernel
theorem dX7_nearMagnet_11 : decode cX7_nearMagnet 11 = .ok (.invokestatic 98, 3) := by decide +kernel
theorem dX7_nearMagnet_14 : decode cX7_nearMagnet 14 = .ok (.istore 4, 2) := by decide +kernel
theorem dX7_nearMagnet_16 : decode cX7_nearMagnet 16 = .ok (.iload_n 2, 1) := by decide +kernel
theorem dX7_nearMagnet_17 : decode cX7_nearMagnet 17 = .ok (.ifCond .ne 24, 3) := by decide +kernel
theorem dX7_nearMagnet_20 : decode cX7_nearMagnet 20 = .ok (.iload 4, 2) := by decide +kernel
theorem dX7_nearMagnet_22 : decode cX7_nearMagnet 22 = .ok (.bipush (-9), 2) := by decide +kernel
theorem dX7_nearMagnet_24 : decode cX7_nearMagnet 24 = .ok (.if_icmp .eq 21, 3) := by decide +kernel
theorem dX7_nearMagnet_27 : decode cX7_nearMagnet 27 = .ok (.aload_n 0, 1) := by decide +kernel
theorem dX7_nearMagnet_28 : decode cX7_nearMagnet 28 = .ok (.getfield 13, 3) := by decide +kernel
theorem dX7_nearMagnet_31 : decode cX7_nearMagnet 31 = .ok (.iconst 3, 1) := by decide +kernel
theorem dX7_nearMagnet_32 : decode cX7_nearMagnet 32 = .ok (.iaload, 1) := by decide +kernel
theorem dX7_nearMagnet_33 : decode cX7_nearMagnet 33 = .ok (.iload 4, 2) := by decide +kernel
theorem dX7_nearMagnet_35 : decode cX7_nearMagnet 35 = .ok (.invokestatic 82, 3) := by decide +kernel
theorem dX7_nearMagnet_38 : decode cX7_nearMagnet 38 = .ok (.ifCond .eq 7, 3) := by decide +kernel
theorem dX7_nearMagnet_41 : decode cX7_nearMagnet 41 = .ok (.iconst 1, 1) := by decide +kernel
theorem dX7_nearMagnet_42 : decode cX7_nearMagnet 42 = .ok (.goto 4, 3) := by decide +kernel
theorem dX7_nearMagnet_45 : decode cX7_nearMagnet 45 = .ok (.iconst 0, 1) := by decide +kernel
theorem dX7_nearMagnet_46 : decode cX7_nearMagnet 46 = .ok (.istore_n 2, 1) := by decide +kernel
theorem dX7_nearMagnet_47 : decode cX7_nearMagnet 47 = .ok (.iinc 3 1, 3) := by decide +kernel
theorem dX7_nearMagnet_50 : decode cX7_nearMagnet 50 = .ok (.goto (-46), 3) := by decide +kernel
theorem dX7_nearMagnet_53 : decode cX7_nearMagnet 53 = .ok (.iload_n 2, 1) := by decide +kernel
theorem dX7_nearMagnet_54 : decode cX7_nearMagnet 54 = .ok (.ireturn, 1) := by decide +kernel
set_option maxRecDepth 20000 in
theorem ggX7_isThere_X7_has : GoodIn wsX7_isThere wsX7_has := goodIn_r _ [6] (by decide +kernel) (by decide +kernel)
set_option maxRecDepth 20000 in
theorem gX7_isThere_X7_has : GoodIn wsX7_isThere (va_wsS RX7 82 yX7_has wsX7_has) := goodIn_app (goodIn_of _ (by decide +kernel)) ggX7_isThere_X7_has
theorem dX7_isThere_0 : decode cX7_isThere 0 = .ok (.aload_n 0, 1) := by decide +kernel
theorem dX7_isThere_1 : decode cX7_isThere 1 = .ok (.getfield 31, 3) := by decide +kernel
theorem dX7_isThere_4 : decode cX7_isThere 4 = .ok (.iload_n 2, 1) := by decide +kernel
theorem dX7_isThere_5 : decode cX7_isThere 5 = .ok (.invokestatic 82, 3) := by decide +kernel
theorem dX7_isThere_8 : decode cX7_isThere 8 = .ok (.ifCond .eq 23, 3) := by decide +kernel
theorem dX7_isThere_11 : decode cX7_isThere 11 = .ok (.aload_n 0, 1) := by decide +kernel
theorem dX7_isThere_12 : decode cX7_isThere 12 = .ok (.getfield 16, 3) := by decide +kernel
theorem dX7_isThere_15 : decode cX7_isThere 15 = .ok (.bipush 7, 2) := by decide +kernel
theorem dX7_isThere_17 : decode cX7_isThere 17 = .ok (.iload_n 1, 1) := by decide +kernel
theorem dX7_isThere_18 : decode cX7_isThere 18 = .ok (.imul, 1) := by decide +kernel
theorem dX7_isThere_19 : decode cX7_isThere 19 = .ok (.iload_n 2, 1) := by decide +kernel
theorem dX7_isThere_20 : decode cX7_isThere 20 = .ok (.iadd, 1) := by decide +kernel
theorem dX7_isThere_21 : decode cX7_isThere 21 = .ok (.iaload, 1) := by decide +kernel
theorem dX7_isThere_22 : decode cX7_isThere 22 = .ok (.bipush 100, 2) := by decide +kernel
theorem dX7_isThere_24 : decode cX7_isThere 24 = .ok (.if_icmp .ge 7, 3) := by decide +kernel
theorem dX7_isThere_27 : decode cX7_isThere 27 = .ok (.iconst 1, 1) := by decide +kernel
theorem dX7_isThere_28 : decode cX7_isThere 28 = .ok (.goto 4, 3) := by decide +kernel
theorem dX7_isThere_31 : decode cX7_isThere 31 = .ok (.iconst 0, 1) := by decide +kernel
theorem dX7_isThere_32 : decode cX7_isThere 32 = .ok (.ireturn, 1) := by decide +kernel
set_option maxRecDepth 20000 in
theorem ggX7_marbleAt_X7_isThere : GoodIn wsX7_marbleAt wsX7_isThere := goodIn_r _ [7, 8, 2, 9, 10, 6, 11, 12, 13, 14, 15, 16, 17, 18, 19, 20, 21, 22, 23, 24, 25, 26, 27, 28, 29, 30, 31, 32, 33, 34, 35] (by decide +kernel) (by decide +kernel)
set_option maxRecDepth 20000 in
theorem gX7_marbleAt_X7_isThere : GoodIn wsX7_marbleAt (wsV RX7 102 RX7 yX7_isThere wsX7_isThere) := goodIn_app (goodIn_of _ (by decide +kernel)) ggX7_marbleAt_X7_isThere
theorem dX7_marbleAt_0 : decode cX7_marbleAt 0 = .ok (.iconst 0, 1) := by decide +kernel
theorem dX7_marbleAt_1 : decode cX7_marbleAt 1 = .ok (.istore_n 3, 1) := by decide +kernel
theorem dX7_marbleAt_2 : decode cX7_marbleAt 2 = .ok (.iload_n 3, 1) := by decide +kernel
theorem dX7_marbleAt_3 : decode cX7_marbleAt 3 = .ok (.aload_n 0, 1) := by decide +kernel
theorem dX7_marbleAt_4 : decode cX7_marbleAt 4 = .ok (.getfield 92, 3) := by decide +kernel
theorem dX7_marbleAt_7 : decode cX7_marbleAt 7 = .ok (.if_icmp .ge 35, 3) := by decide +kernel
theorem dX7_marbleAt_10 : decode cX7_marbleAt 10 = .ok (.aload_n 0, 1) := by decide +kernel
theorem dX7_marbleAt_11 : decode cX7_marbleAt 11 = .ok (.iload_n 1, 1) := by decide +kernel
theorem dX7_marbleAt_12 : decode cX7_marbleAt 12 = .ok (.iload_n 3, 1) := by decide +kernel
theorem dX7_marbleAt_13 : decode cX7_marbleAt 13 = .ok (.invokevirtual 102, 3) := by decide +kernel
theorem dX7_marbleAt_16 : decode cX7_marbleAt 16 = .ok (.ifCond .eq 20, 3) := by decide +kernel
theorem dX7_marbleAt_19 : decode cX7_marbleAt 19 = .ok (.aload_n 0, 1) := by decide +kernel
theorem dX7_marbleAt_20 : decode cX7_marbleAt 20 = .ok (.getfield 16, 3) := by decide +kernel
theorem dX7_marbleAt_23 : decode cX7_marbleAt 23 = .ok (.bipush 7, 2) := by decide +kernel
theorem dX7_marbleAt_25 : decode cX7_marbleAt 25 = .ok (.iload_n 1, 1) := by decide +kernel
theorem dX7_marbleAt_26 : decode cX7_marbleAt 26 = .ok (.imul, 1) := by decide +kernel
theorem dX7_marbleAt_27 : decode cX7_marbleAt 27 = .ok (.iload_n 3, 1) := by decide +kernel
theorem dX7_marbleAt_28 : decode cX7_marbleAt 28 = .ok (.iadd, 1) := by decide +kernel
theorem dX7_marbleAt_29 : decode cX7_marbleAt 29 = .ok (.iaload, 1) := by decide +kernel
theorem dX7_marbleAt_30 : decode cX7_marbleAt 30 = .ok (.iload_n 2, 1) := by decide +kernel
theorem dX7_marbleAt_31 : decode cX7_marbleAt 31 = .ok (.if_icmp .ne 5, 3) := by decide +kernel
theorem dX7_marbleAt_34 : decode cX7_marbleAt 34 = .ok (.iload_n 3, 1) := by decide +kernel
theorem dX7_marbleAt_35 : decode cX7_marbleAt 35 = .ok (.ireturn, 1) := by decide +kernel
theorem dX7_marbleAt_36 : decode cX7_marbleAt 36 = .ok (.iinc 3 1, 3) := by decide +kernel
theorem dX7_marbleAt_39 : decode cX7_marbleAt 39 = .ok (.goto (-37), 3) := by decide +kernel
theorem dX7_marbleAt_42 : decode cX7_marbleAt 42 = .ok (.bipush (-9), 2) := by decide +kernel
theorem dX7_marbleAt_44 : decode cX7_marbleAt 44 = .ok (.ireturn, 1) := by decide +kernel
set_option maxRecDepth 20000 in
theorem ggX7_canBe_X7_has : GoodIn wsX7_canBe wsX7_has := goodIn_r _ [6] (by decide +kernel) (by decide +kernel)
set_option maxRecDepth 20000 in
theorem gX7_canBe_X7_has : GoodIn wsX7_canBe (va_wsS RX7 82 yX7_has wsX7_has) := goodIn_app (goodIn_of _ (by decide +kernel)) ggX7_canBe_X7_has
set_option maxRecDepth 20000 in
theorem ggX7_canBe_X7_marbleAt : GoodIn wsX7_canBe wsX7_marbleAt := goodIn_r _ [10, 11, 2, 12, 13, 14, 5, 15, 16, 3, 4, 6, 17, 18, 19, 20, 21, 22, 23, 24, 25, 26, 27, 28, 29, 30, 31, 32, 33, 34, 35, 36, 37, 38, 39, 40] (by decide +kernel) (by decide +kernel)
set_option maxRecDepth 20000 in
theorem gX7_canBe_X7_marbleAt : GoodIn wsX7_canBe (wsV RX7 105 RX7 yX7_marbleAt wsX7_marbleAt) := goodIn_app (goodIn_of _ (by decide +kernel)) ggX7_canBe_X7_marbleAt
theorem dX7_canBe_0 : decode cX7_canBe 0 = .ok (.iload_n 2, 1) := by decide +kernel
theorem dX7_canBe_1 : decode cX7_canBe 1 = .ok (.bipush (-9), 2) := by decide +kernel
theorem dX7_canBe_3 : decode cX7_canBe 3 = .ok (.if_icmp .eq 50, 3) := by decide +kernel
theorem dX7_canBe_6 : decode cX7_canBe 6 = .ok (.aload_n 0, 1) := by decide +kernel
theorem dX7_canBe_7 : decode cX7_canBe 7 = .ok (.getfield 13, 3) := by decide +kernel
theorem dX7_canBe_10 : decode cX7_canBe 10 = .ok (.iconst 0, 1) := by decide +kernel
theorem dX7_canBe_11 : decode cX7_canBe 11 = .ok (.iaload, 1) := by decide +kernel
theorem dX7_canBe_12 : decode cX7_canBe 12 = .ok (.aload_n 0, 1) := by decide +kernel
theorem dX7_canBe_13 : decode cX7_canBe 13 = .ok (.getfield 13, 3) := by decide +kernel
theorem dX7_canBe_16 : decode cX7_canBe 16 = .ok (.iconst 3, 1) := by decide +kernel
theorem dX7_canBe_17 : decode cX7_canBe 17 = .ok (.iaload, 1) := by decide +kernel
theorem dX7_canBe_18 : decode cX7_canBe 18 = .ok (.ior, 1) := by decide +kernel
theorem dX7_canBe_19 : decode cX7_canBe 19 = .ok (.aload_n 0, 1) := by decide +kernel
theorem dX7_canBe_20 : decode cX7_canBe 20 = .ok (.getfield 16, 3) := by decide +kernel
theorem dX7_canBe_23 : decode cX7_canBe 23 = .ok (.bipush 7, 2) := by decide +kernel
theorem dX7_canBe_25 : decode cX7_canBe 25 = .ok (.iload_n 1, 1) := by decide +kernel
theorem dX7_canBe_26 : decode cX7_canBe 26 = .ok (.imul, 1) := by decide +kernel
theorem dX7_canBe_27 : decode cX7_canBe 27 = .ok (.iconst 5, 1) := by decide +kernel
theorem dX7_canBe_28 : decode cX7_canBe 28 = .ok (.iadd, 1) := by decide +kernel
theorem dX7_canBe_29 : decode cX7_canBe 29 = .ok (.iaload, 1) := by decide +kernel
theorem dX7_canBe_30 : decode cX7_canBe 30 = .ok (.ior, 1) := by decide +kernel
theorem dX7_canBe_31 : decode cX7_canBe 31 = .ok (.iload_n 2, 1) := by decide +kernel
theorem dX7_canBe_32 : decode cX7_canBe 32 = .ok (.invokestatic 82, 3) := by decide +kernel
theorem dX7_canBe_35 : decode cX7_canBe 35 = .ok (.ifCond .ne 18, 3) := by decide +kernel
theorem dX7_canBe_38 : decode cX7_canBe 38 = .ok (.aload_n 0, 1) := by decide +kernel
theorem dX7_canBe_39 : decode cX7_canBe 39 = .ok (.iload_n 1, 1) := by decide +kernel
theorem dX7_canBe_40 : decode cX7_canBe 40 = .ok (.iload_n 2, 1) := by decide +kernel
theorem dX7_canBe_41 : decode cX7_canBe 41 = .ok (.invokevirtual 105, 3) := by decide +kernel
theorem dX7_canBe_44 : decode cX7_canBe 44 = .ok (.bipush (-9), 2) := by decide +kernel
theorem dX7_canBe_46 : decode cX7_canBe 46 = .ok (.if_icmp .ne 7, 3) := by decide +kernel
theorem dX7_canBe_49 : decode cX7_canBe 49 = .ok (.iconst 1, 1) := by decide +kernel
theorem dX7_canBe_50 : decode cX7_canBe 50 = .ok (.goto 4, 3) := by decide +kernel
theorem dX7_canBe_53 : decode cX7_canBe 53 = .ok (.iconst 0, 1) := by decide +kernel
theorem dX7_canBe_54 : decode cX7_canBe 54 = .ok (.ireturn, 1) := by decide +kernel
set_option maxRecDepth 20000 in
theorem ggX7_isOpen_X7_has : GoodIn wsX7_isOpen wsX7_has := goodIn_r _ [6] (by decide +kernel) (by decide +kernel)
set_option maxRecDepth 20000 in
theorem gX7_isOpen_X7_has : GoodIn wsX7_isOpen (va_wsS RX7 82 yX7_has wsX7_has) := goodIn_app (goodIn_of _ (by decide +kernel)) ggX7_isOpen_X7_has
theorem dX7_isOpen_0 : decode cX7_isOpen 0 = .ok (.aload_n 0, 1) := by decide +kernel
theorem dX7_isOpen_1 : decode cX7_isOpen 1 = .ok (.getfield 13, 3) := by decide +kernel
theorem dX7_isOpen_4 : decode cX7_isOpen 4 = .ok (.iconst 1, 1) := by decide +kernel
theorem dX7_isOpen_5 : decode cX7_isOpen 5 = .ok (.iaload, 1) := by decide +kernel
theorem dX7_isOpen_6 : decode cX7_isOpen 6 = .ok (.iload_n 2, 1) := by decide +kernel
theorem dX7_isOpen_7 : decode cX7_isOpen 7 = .ok (.invokestatic 82, 3) := by decide +kernel
theorem dX7_isOpen_10 : decode cX7_isOpen 10 = .ok (.ifCond .eq 25, 3) := by decide +kernel
theorem dX7_isOpen_13 : decode cX7_isOpen 13 = .ok (.aload_n 0, 1) := by decide +kernel
theorem dX7_isOpen_14 : decode cX7_isOpen 14 = .ok (.getfield 16, 3) := by decide +kernel
theorem dX7_isOpen_17 : decode cX7_isOpen 17 = .ok (.bipush 7, 2) := by decide +kernel
theorem dX7_isOpen_19 : decode cX7_isOpen 19 = .ok (.iload_n 1, 1) := by decide +kernel
theorem dX7_isOpen_20 : decode cX7_isOpen 20 = .ok (.imul, 1) := by decide +kernel
theorem dX7_isOpen_21 : decode cX7_isOpen 21 = .ok (.iconst 4, 1) := by decide +kernel
theorem dX7_isOpen_22 : decode cX7_isOpen 22 = .ok (.iadd, 1) := by decide +kernel
theorem dX7_isOpen_23 : decode cX7_isOpen 23 = .ok (.iaload, 1) := by decide +kernel
theorem dX7_isOpen_24 : decode cX7_isOpen 24 = .ok (.iload_n 2, 1) := by decide +kernel
theorem dX7_isOpen_25 : decode cX7_isOpen 25 = .ok (.invokestatic 82, 3) := by decide +kernel
theorem dX7_isOpen_28 : decode cX7_isOpen 28 = .ok (.ifCond .ne 7, 3) := by decide +kernel
theorem dX7_isOpen_31 : decode cX7_isOpen 31 = .ok (.iconst 1, 1) := by decide +kernel
theorem dX7_isOpen_32 : decode cX7_isOpen 32 = .ok (.goto 4, 3) := by decide +kernel
theorem dX7_isOpen_35 : decode cX7_isOpen 35 = .ok (.iconst 0, 1) := by decide +kernel
theorem dX7_isOpen_36 : decode cX7_isOpen 36 = .ok (.ireturn, 1) := by decide +kernel
set_option maxRecDepth 20000 in
theorem ggX7_roll_X7_isThere : GoodIn wsX7_roll wsX7_isThere := goodIn_r _ [9, 10, 2, 11, 12, 8, 13, 34, 35, 36, 37, 38, 39, 40, 41, 42, 43, 44, 45, 46, 47, 48, 49, 50, 51, 52, 53, 54, 55, 56, 57] (by decide +kernel) (by decide +kernel)
set_option maxRecDepth 20000 in
theorem gX7_roll_X7_isThere : GoodIn wsX7_roll (wsV RX7 102 RX7 yX7_isThere wsX7_isThere) := goodIn_app (goodIn_of _ (by decide +kernel)) ggX7_roll_X7_isThere
set_option maxRecDepth 20000 in
theorem ggX7_roll_X7_has : GoodIn wsX7_roll wsX7_has := goodIn_r _ [13] (by decide +kernel) (by decide +kernel)
set_option maxRecDepth 20000 in
theorem gX7_roll_X7_has : GoodIn wsX7_roll (va_wsS RX7 82 yX7_has wsX7_has) := goodIn_app (goodIn_of _ (by decide +kernel)) ggX7_roll_X7_has
set_option maxRecDepth 20000 in
theorem ggX7_roll_X7_onward : GoodIn wsX7_roll wsX7_onward := goodIn_r _ [16] (by decide +kernel) (by decide +kernel)
set_option maxRecDepth 20000 in
theorem gX7_roll_X7_onward : GoodIn wsX7_roll (va_wsS RX7 98 yX7_onward wsX7_onward) := goodIn_app (goodIn_of _ (by decide +kernel)) ggX7_roll_X7_onward
set_option maxRecDepth 20000 in
theorem ggX7_roll_X7_canBe : GoodIn wsX7_roll wsX7_canBe := goodIn_r _ [20, 4, 2, 11, 12, 8, 13, 21, 22, 23, 24, 25, 5, 6, 7, 9, 10, 34, 35, 36, 37, 38, 39, 40, 41, 42, 43, 44, 45, 46, 47, 48, 49, 50, 51, 52, 53, 54, 55, 56, 57] (by decide +kernel) (by decide +kernel)
set_option maxRecDepth 20000 in
theorem gX7_roll_X7_canBe : GoodIn wsX7_roll (wsV RX7 111 RX7 yX7_canBe wsX7_canBe) := goodIn_app (goodIn_of _ (by decide +kernel)) ggX7_roll_X7_canBe
set_option maxRecDepth 20000 in
theorem ggX7_roll_X7_isOpen : GoodIn wsX7_roll wsX7_isOpen := goodIn_r _ [29, 4, 2, 11, 12, 8, 13, 34, 35, 36, 37, 38, 39, 40, 41, 42, 43, 44, 45, 46, 47, 48, 49, 50, 51, 52, 53, 54, 55, 56, 57] (by decide +kernel) (by decide +kernel)
set_option maxRecDepth 20000 in
theorem gX7_roll_X7_isOpen : GoodIn wsX7_roll (wsV RX7 114 RX7 yX7_isOpen wsX7_isOpen) := goodIn_app (goodIn_of _ (by decide +kernel)) ggX7_roll_X7_isOpen
set_option maxRecDepth 20000 in
theorem ggX7_roll_X7_nearMagnet : GoodIn wsX7_roll wsX7_nearMagnet := goodIn_r _ [33, 4, 14, 15, 8, 16, 11, 12, 13, 34, 35, 36, 37, 38, 39, 40, 41, 42, 43, 44, 45, 46, 47, 48, 49, 50, 51, 52, 53, 54, 55, 56, 57] (by decide +kernel) (by decide +kernel)
set_option maxRecDepth 20000 in
theorem gX7_roll_X7_nearMagnet : GoodIn wsX7_roll (wsV RX7 117 RX7 yX7_nearMagnet wsX7_nearMagnet) := goodIn_app (goodIn_of _ (by decide +kernel)) ggX7_roll_X7_nearMagnet
theorem dX7_roll_0 : decode cX7_roll 0 = .ok (.bipush 7, 2) := by decide +kernel
theorem dX7_roll_2 : decode cX7_roll 2 = .ok (.iload_n 1, 1) := by decide +kernel
theorem dX7_roll_3 : decode cX7_roll 3 = .ok (.imul, 1) := by decide +kernel
theorem dX7_roll_4 : decode cX7_roll 4 = .ok (.istore 4, 2) := by decide +kernel
theorem dX7_roll_6 : decode cX7_roll 6 = .ok (.aload_n 0, 1) := by decide +kernel
theorem dX7_roll_7 : decode cX7_roll 7 = .ok (.iload_n 1, 1) := by decide +kernel
theorem dX7_roll_8 : decode cX7_roll 8 = .ok (.iload_n 2, 1) := by decide +kernel
theorem dX7_roll_9 : decode cX7_roll 9 = .ok (.invokevirtual 102, 3) := by decide +kernel
theorem dX7_roll_12 : decode cX7_roll 12 = .ok (.ifCond .eq 14, 3) := by decide +kernel
theorem dX7_roll_15 : decode cX7_roll 15 = .ok (.aload_n 0, 1) := by decide +kernel
theorem dX7_roll_16 : decode cX7_roll 16 = .ok (.getfield 108, 3) := by decide +kernel
theorem dX7_roll_19 : decode cX7_roll 19 = .ok (.iload_n 2, 1) := by decide +kernel
theorem dX7_roll_20 : decode cX7_roll 20 = .ok (.invokestatic 82, 3) := by decide +kernel
theorem dX7_roll_23 : decode cX7_roll 23 = .ok (.ifCond .eq 5, 3) := by decide +kernel
theorem dX7_roll_26 : decode cX7_roll 26 = .ok (.iconst 0, 1) := by decide +kernel
theorem dX7_roll_27 : decode cX7_roll 27 = .ok (.ireturn, 1) := by decide +kernel
theorem dX7_roll_28 : decode cX7_roll 28 = .ok (.aload_n 0, 1) := by decide +kernel
theorem dX7_roll_29 : decode cX7_roll 29 = .ok (.getfield 16, 3) := by decide +kernel
theorem dX7_roll_32 : decode cX7_roll 32 = .ok (.iload 4, 2) := by decide +kernel
theorem dX7_roll_34 : decode cX7_roll 34 = .ok (.iload_n 2, 1) := by decide +kernel
theorem dX7_roll_35 : decode cX7_roll 35 = .ok (.iadd, 1) := by decide +kernel
theorem dX7_roll_36 : decode cX7_roll 36 = .ok (.iaload, 1) := by decide +kernel
theorem dX7_roll_37 : decode cX7_roll 37 = .ok (.aload_n 0, 1) := by decide +kernel
theorem dX7_roll_38 : decode cX7_roll 38 = .ok (.getfield 7, 3) := by decide +kernel
theorem dX7_roll_41 : decode cX7_roll 41 = .ok (.iload_n 2, 1) := by decide +kernel
theorem dX7_roll_42 : decode cX7_roll 42 = .ok (.iaload, 1) := by decide +kernel
theorem dX7_roll_43 : decode cX7_roll 43 = .ok (.iconst 3, 1) := by decide +kernel
theorem dX7_roll_44 : decode cX7_roll 44 = .ok (.if_icmp .ne 9, 3) := by decide +kernel
theorem dX7_roll_47 : decode cX7_roll 47 = .ok (.iload_n 3, 1) := by decide +kernel
theorem dX7_roll_48 : decode cX7_roll 48 = .ok (.iconst 1, 1) := by decide +kernel
theorem dX7_roll_49 : decode cX7_roll 49 = .ok (.ixor, 1) := by decide +kernel
theorem dX7_roll_50 : decode cX7_roll 50 = .ok (.goto 4, 3) := by decide +kernel
theorem dX7_roll_53 : decode cX7_roll 53 = .ok (.iload_n 3, 1) := by decide +kernel
theorem dX7_roll_54 : decode cX7_roll 54 = .ok (.invokestatic 98, 3) := by decide +kernel
theorem dX7_roll_57 : decode cX7_roll 57 = .ok (.istore 5, 2) := by decide +kernel
theorem dX7_roll_59 : decode cX7_roll 59 = .ok (.aload_n 0, 1) := by decide +kernel
theorem dX7_roll_60 : decode cX7_roll 60 = .ok (.iload_n 1, 1) := by decide +kernel
theorem dX7_roll_61 : decode cX7_roll 61 = .ok (.iload 5, 2) := by decide +kernel
theorem dX7_roll_63 : decode cX7_roll 63 = .ok (.invokevirtual 111, 3) := by decide +kernel
theorem dX7_roll_66 : decode cX7_roll 66 = .ok (.ifCond .ne 5, 3) := by decide +kernel
theorem dX7_roll_69 : decode cX7_roll 69 = .ok (.iconst 0, 1) := by decide +kernel
theorem dX7_roll_70 : decode cX7_roll 70 = .ok (.ireturn, 1) := by decide +kernel
theorem dX7_roll_71 : decode cX7_roll 71 = .ok (.aload_n 0, 1) := by decide +kernel
theorem dX7_roll_72 : decode cX7_roll 72 = .ok (.iload_n 1, 1) := by decide +kernel
theorem dX7_roll_73 : decode cX7_roll 73 = .ok (.iload 5, 2) := by decide +kernel
theorem dX7_roll_75 : decode cX7_roll 75 = .ok (.invokevirtual 114, 3) := by decide +kernel
theorem dX7_roll_78 : decode cX7_roll 78 = .ok (.ifCond .eq 35, 3) := by decide +kernel
theorem dX7_roll_81 : decode cX7_roll 81 = .ok (.aload_n 0, 1) := by decide +kernel
theorem dX7_roll_82 : decode cX7_roll 82 = .ok (.getfield 16, 3) := by decide +kernel
theorem dX7_roll_85 : decode cX7_roll 85 = .ok (.iload 4, 2) := by decide +kernel
theorem dX7_roll_87 : decode cX7_roll 87 = .ok (.iload_n 2, 1) := by decide +kernel
theorem dX7_roll_88 : decode cX7_roll 88 = .ok (.iadd, 1) := by decide +kernel
theorem dX7_roll_89 : decode cX7_roll 89 = .ok (.bipush 100, 2) := by decide +kernel
theorem dX7_roll_91 : decode cX7_roll 91 = .ok (.iload 5, 2) := by decide +kernel
theorem dX7_roll_93 : decode cX7_roll 93 = .ok (.iadd, 1) := by decide +kernel
theorem dX7_roll_94 : decode cX7_roll 94 = .ok (.iastore, 1) := by decide +kernel
theorem dX7_roll_95 : decode cX7_roll 95 = .ok (.aload_n 0, 1) := by decide +kernel
theorem dX7_roll_96 : decode cX7_roll 96 = .ok (.getfield 16, 3) := by decide +kernel
theorem dX7_roll_99 : decode cX7_roll 99 = .ok (.iload 4, 2) := by decide +kernel
theorem dX7_roll_101 : decode cX7_roll 101 = .ok (.iconst 4, 1) := by decide +kernel
theorem dX7_roll_102 : decode cX7_roll 102 = .ok (.iadd, 1) := by decide +kernel
theorem dX7_roll_103 : decode cX7_roll 103 = .ok (.dup2, 1) := by decide +kernel
theorem dX7_roll_104 : decode cX7_roll 104 = .ok (.iaload, 1) := by decide +kernel
theorem dX7_roll_105 : decode cX7_roll 105 = .ok (.iconst 1, 1) := by decide +kernel
theorem dX7_roll_106 : decode cX7_roll 106 = .ok (.iload 5, 2) := by decide +kernel
theorem dX7_roll_108 : decode cX7_roll 108 = .ok (.ishl, 1) := by decide +kernel
theorem dX7_roll_109 : decode cX7_roll 109 = .ok (.ior, 1) := by decide +kernel
theorem dX7_roll_110 : decode cX7_roll 110 = .ok (.iastore, 1) := by decide +kernel
theorem dX7_roll_111 : decode cX7_roll 111 = .ok (.iconst 1, 1) := by decide +kernel
theorem dX7_roll_112 : decode cX7_roll 112 = .ok (.ireturn, 1) := by decide +kernel
theorem dX7_roll_113 : decode cX7_roll 113 = .ok (.aload_n 0, 1) := by decide +kernel
theorem dX7_roll_114 : decode cX7_roll 114 = .ok (.getfield 16, 3) := by decide +kernel
theorem dX7_roll_117 : decode cX7_roll 117 = .ok (.iload 4, 2) := by decide +kernel
theorem dX7_roll_119 : decode cX7_roll 119 = .ok (.iload_n 2, 1) := by decide +kernel
theorem dX7_roll_120 : decode cX7_roll 120 = .ok (.iadd, 1) := by decide +kernel
theorem dX7_roll_121 : decode cX7_roll 121 = .ok (.iload 5, 2) := by decide +kernel
theorem dX7_roll_123 : decode cX7_roll 123 = .ok (.iastore, 1) := by decide +kernel
theorem dX7_roll_124 : decode cX7_roll 124 = .ok (.aload_n 0, 1) := by decide +kernel
theorem dX7_roll_125 : decode cX7_roll 125 = .ok (.getfield 7, 3) := by decide +kernel
theorem dX7_roll_128 : decode cX7_roll 128 = .ok (.iload_n 2, 1) := by decide +kernel
theorem dX7_roll_129 : decode cX7_roll 129 = .ok (.iaload, 1) := by decide +kernel
theorem dX7_roll_130 : decode cX7_roll 130 = .ok (.iconst 2, 1) := by decide +kernel
theorem dX7_roll_131 : decode cX7_roll 131 = .ok (.if_icmp .eq 45, 3) := by decide +kernel
theorem dX7_roll_134 : decode cX7_roll 134 = .ok (.aload_n 0, 1) := by decide +kernel
theorem dX7_roll_135 : decode cX7_roll 135 = .ok (.getfield 7, 3) := by decide +kernel
theorem dX7_roll_138 : decode cX7_roll 138 = .ok (.iload_n 2, 1) := by decide +kernel
theorem dX7_roll_139 : decode cX7_roll 139 = .ok (.iaload, 1) := by decide +kernel
theorem dX7_roll_140 : decode cX7_roll 140 = .ok (.ifCond .eq 17, 3) := by decide +kernel
theorem dX7_roll_143 : decode cX7_roll 143 = .ok (.aload_n 0, 1) := by decide +kernel
theorem dX7_roll_144 : decode cX7_roll 144 = .ok (.getfield 13, 3) := by decide +kernel
theorem dX7_roll_147 : decode cX7_roll 147 = .ok (.iconst 2, 1) := by decide +kernel
theorem dX7_roll_148 : decode cX7_roll 148 = .ok (.iaload, 1) := by decide +kernel
theorem dX7_roll_149 : decode cX7_roll 149 = .ok (.iload 5, 2) := by decide +kernel
theorem dX7_roll_151 : decode cX7_roll 151 = .ok (.invokestatic 82, 3) := by decide +kernel
theorem dX7_roll_154 : decode cX7_roll 154 = .ok (.ifCond .ne 22, 3) := by decide +kernel
theorem dX7_roll_157 : decode cX7_roll 157 = .ok (.aload_n 0, 1) := by decide +kernel
theorem dX7_roll_158 : decode cX7_roll 158 = .ok (.getfield 7, 3) := by decide +kernel
theorem dX7_roll_161 : decode cX7_roll 161 = .ok (.iload_n 2, 1) := by decide +kernel
theorem dX7_roll_162 : decode cX7_roll 162 = .ok (.iaload, 1) := by decide +kernel
theorem dX7_roll_163 : decode cX7_roll 163 = .ok (.iconst 1, 1) := by decide +kernel
theorem dX7_roll_164 : decode cX7_roll 164 = .ok (.if_icmp .ne 16, 3) := by decide +kernel
theorem dX7_roll_167 : decode cX7_roll 167 = .ok (.aload_n 0, 1) := by decide +kernel
theorem dX7_roll_168 : decode cX7_roll 168 = .ok (.iload 5, 2) := by decide +kernel
theorem dX7_roll_170 : decode cX7_roll 170 = .ok (.invokevirtual 117, 3) := by decide +kernel
theorem dX7_roll_173 : decode cX7_roll 173 = .ok (.ifCond .eq 7, 3) := by decide +kernel
theorem dX7_roll_176 : decode cX7_roll 176 = .ok (.iconst 1, 1) := by decide +kernel
theorem dX7_roll_177 : decode cX7_roll 177 = .ok (.goto 4, 3) := by decide +kernel
theorem dX7_roll_180 : decode cX7_roll 180 = .ok (.iconst 0, 1) := by decide +kernel
theorem dX7_roll_181 : decode cX7_roll 181 = .ok (.istore 6, 2) := by decide +kernel
theorem dX7_roll_183 : decode cX7_roll 183 = .ok (.aload_n 0, 1) := by decide +kernel
theorem dX7_roll_184 : decode cX7_roll 184 = .ok (.dup, 1) := by decide +kernel
theorem dX7_roll_185 : decode cX7_roll 185 = .ok (.getfield 108, 3) := by decide +kernel
theorem dX7_roll_188 : decode cX7_roll 188 = .ok (.iload 6, 2) := by decide +kernel
theorem dX7_roll_190 : decode cX7_roll 190 = .ok (.ifCond .eq 9, 3) := by decide +kernel
theorem dX7_roll_193 : decode cX7_roll 193 = .ok (.iconst 1, 1) := by decide +kernel
theorem dX7_roll_194 : decode cX7_roll 194 = .ok (.iload_n 2, 1) := by decide +kernel
theorem dX7_roll_195 : decode cX7_roll 195 = .ok (.ishl, 1) := by decide +kernel
theorem dX7_roll_196 : decode cX7_roll 196 = .ok (.goto 4, 3) := by decide +kernel
theorem dX7_roll_199 : decode cX7_roll 199 = .ok (.iconst 0, 1) := by decide +kernel
theorem dX7_roll_200 : decode cX7_roll 200 = .ok (.ior, 1) := by decide +kernel
theorem dX7_roll_201 : decode cX7_roll 201 = .ok (.putfield 108, 3) := by decide +kernel
theorem dX7_roll_204 : decode cX7_roll 204 = .ok (.iconst 1, 1) := by decide +kernel
theorem dX7_roll_205 : decode cX7_roll 205 = .ok (.ireturn, 1) := by decide +kernel
set_option maxRecDepth 20000 in
theorem ggX7_fallen_X7_has : GoodIn wsX7_fallen wsX7_has := goodIn_r _ [7] (by decide +kernel) (by decide +kernel)
set_option maxRecDepth 20000 in
theorem gX7_fallen_X7_has : GoodIn wsX7_fallen (va_wsS RX7 82 yX7_has wsX7_has) := goodIn_app (goodIn_of _ (by decide +kernel)) ggX7_fallen_X7_has
theorem dX7_fallen_0 : decode cX7_fallen 0 = .ok (.iconst 0, 1) := by decide +kernel
theorem dX7_fallen_1 : decode cX7_fallen 1 = .ok (.istore_n 2, 1) := by decide +kernel
theorem dX7_fallen_2 : decode cX7_fallen 2 = .ok (.iconst 0, 1) := by decide +kernel
theorem dX7_fallen_3 : decode cX7_fallen 3 = .ok (.istore_n 3, 1) := by decide +kernel
theorem dX7_fallen_4 : decode cX7_fallen 4 = .ok (.iload_n 3, 1) := by decide +kernel
theorem dX7_fallen_5 : decode cX7_fallen 5 = .ok (.aload_n 0, 1) := by decide +kernel
theorem dX7_fallen_6 : decode cX7_fallen 6 = .ok (.getfield 92, 3) := by decide +kernel
theorem dX7_fallen_9 : decode cX7_fallen 9 = .ok (.if_icmp .ge 44, 3) := by decide +kernel
theorem dX7_fallen_12 : decode cX7_fallen 12 = .ok (.iload_n 2, 1) := by decide +kernel
theorem dX7_fallen_13 : decode cX7_fallen 13 = .ok (.aload_n 0, 1) := by decide +kernel
theorem dX7_fallen_14 : decode cX7_fallen 14 = .ok (.getfield 31, 3) := by decide +kernel
theorem dX7_fallen_17 : decode cX7_fallen 17 = .ok (.iload_n 3, 1) := by decide +kernel
theorem dX7_fallen_18 : decode cX7_fallen 18 = .ok (.invokestatic 82, 3) := by decide +kernel
theorem dX7_fallen_21 : decode cX7_fallen 21 = .ok (.ifCond .eq 23, 3) := by decide +kernel
theorem dX7_fallen_24 : decode cX7_fallen 24 = .ok (.aload_n 0, 1) := by decide +kernel
theorem dX7_fallen_25 : decode cX7_fallen 25 = .ok (.getfield 16, 3) := by decide +kernel
theorem dX7_fallen_28 : decode cX7_fallen 28 = .ok (.bipush 7, 2) := by decide +kernel
theorem dX7_fallen_30 : decode cX7_fallen 30 = .ok (.iload_n 1, 1) := by decide +kernel
theorem dX7_fallen_31 : decode cX7_fallen 31 = .ok (.imul, 1) := by decide +kernel
theorem dX7_fallen_32 : decode cX7_fallen 32 = .ok (.iload_n 3, 1) := by decide +kernel
theorem dX7_fallen_33 : decode cX7_fallen 33 = .ok (.iadd, 1) := by decide +kernel
theorem dX7_fallen_34 : decode cX7_fallen 34 = .ok (.iaload, 1) := by decide +kernel
theorem dX7_fallen_35 : decode cX7_fallen 35 = .ok (.bipush 100, 2) := by decide +kernel
theorem dX7_fallen_37 : decode cX7_fallen 37 = .ok (.if_icmp .lt 7, 3) := by decide +kernel
theorem dX7_fallen_40 : decode cX7_fallen 40 = .ok (.iconst 1, 1) := by decide +kernel
theorem dX7_fallen_41 : decode cX7_fallen 41 = .ok (.goto 4, 3) := by decide +kernel
theorem dX7_fallen_44 : decode cX7_fallen 44 = .ok (.iconst 0, 1) := by decide +kernel
theorem dX7_fallen_45 : decode cX7_fallen 45 = .ok (.iadd, 1) := by decide +kernel
theorem dX7_fallen_46 : decode cX7_fallen 46 = .ok (.istore_n 2, 1) := by decide +kernel
theorem dX7_fallen_47 : decode cX7_fallen 47 = .ok (.iinc 3 1, 3) := by decide +kernel
theorem dX7_fallen_50 : decode cX7_fallen 50 = .ok (.goto (-46), 3) := by decide +kernel
theorem dX7_fallen_53 : decode cX7_fallen 53 = .ok (.iload_n 2, 1) := by decide +kernel
theorem dX7_fallen_54 : decode cX7_fallen 54 = .ok (.ireturn, 1) := by decide +kernel
set_option maxRecDepth 20000 in
theorem ggX7_tiltOn_X7_fallen : GoodIn wsX7_tiltOn wsX7_fallen := goodIn_r _ [9, 2, 10, 4, 11, 12, 8, 13, 42, 43, 44, 45, 46, 47, 48, 49, 50, 51, 52, 53, 54, 55, 56, 57, 58, 59, 60, 61, 62, 63, 64, 65] (by decide +kernel) (by decide +kernel)
set_option maxRecDepth 20000 in
theorem gX7_tiltOn_X7_fallen : GoodIn wsX7_tiltOn (wsV RX7 121 RX7 yX7_fallen wsX7_fallen) := goodIn_app (goodIn_of _ (by decide +kernel)) ggX7_tiltOn_X7_fallen
set_option maxRecDepth 20000 in
theorem ggX7_tiltOn_X7_isThere : GoodIn wsX7_tiltOn wsX7_isThere := goodIn_r _ [17, 10, 4, 11, 12, 8, 13, 42, 43, 44, 45, 46, 47, 48, 49, 50, 51, 52, 53, 54, 55, 56, 57, 58, 59, 60, 61, 62, 63, 64, 65] (by decide +kernel) (by decide +kernel)
set_option maxRecDepth 20000 in
theorem gX7_tiltOn_X7_isThere : GoodIn wsX7_tiltOn (wsV RX7 102 RX7 yX7_isThere wsX7_isThere) := goodIn_app (goodIn_of _ (by decide +kernel)) ggX7_tiltOn_X7_isThere
set_option maxRecDepth 20000 in
theorem ggX7_tiltOn_X7_nearMagnet : GoodIn wsX7_tiltOn wsX7_nearMagnet := goodIn_r _ [21, 22, 23, 24, 8, 25, 11, 12, 13, 42, 43, 44, 45, 46, 47, 48, 49, 50, 51, 52, 53, 54, 55, 56, 57, 58, 59, 60, 61, 62, 63, 64, 65] (by decide +kernel) (by decide +kernel)
set_option maxRecDepth 20000 in
theorem gX7_tiltOn_X7_nearMagnet : GoodIn wsX7_tiltOn (wsV RX7 117 RX7 yX7_nearMagnet wsX7_nearMagnet) := goodIn_app (goodIn_of _ (by decide +kernel)) ggX7_tiltOn_X7_nearMagnet
set_option maxRecDepth 20000 in
theorem ggX7_tiltOn_X7_roll : GoodIn wsX7_tiltOn wsX7_roll := goodIn_r _ [29, 1, 4, 3, 22, 14, 15, 16, 8, 17, 10, 11, 12, 13, 23, 24, 25, 30, 31, 32, 33, 34, 35, 36, 37, 2, 38, 39, 40, 41, 18, 19, 20, 21, 42, 43, 44, 45, 46, 47, 48, 49, 50, 51, 52, 53, 54, 55, 56, 57, 58, 59, 60, 61, 62, 63, 64, 65] (by decide +kernel) (by decide +kernel)
set_option maxRecDepth 20000 in
theorem gX7_tiltOn_X7_roll : GoodIn wsX7_tiltOn (wsV RX7 124 RX7 yX7_roll wsX7_roll) := goodIn_app (goodIn_of _ (by decide +kernel)) ggX7_tiltOn_X7_roll
theorem dX7_tiltOn_0 : decode cX7_tiltOn 0 = .ok (.bipush 7, 2) := by decide +kernel
theorem dX7_tiltOn_2 : decode cX7_tiltOn 2 = .ok (.iload_n 1, 1) := by decide +kernel
theorem dX7_tiltOn_3 : decode cX7_tiltOn 3 = .ok (.imul, 1) := by decide +kernel
theorem dX7_tiltOn_4 : decode cX7_tiltOn 4 = .ok (.istore_n 3, 1) := by decide +kernel
theorem dX7_tiltOn_5 : decode cX7_tiltOn 5 = .ok (.aload_n 0, 1) := by decide +kernel
theorem dX7_tiltOn_6 : decode cX7_tiltOn 6 = .ok (.iload_n 1, 1) := by decide +kernel
theorem dX7_tiltOn_7 : decode cX7_tiltOn 7 = .ok (.invokevirtual 121, 3) := by decide +kernel
theorem dX7_tiltOn_10 : decode cX7_tiltOn 10 = .ok (.istore 4, 2) := by decide +kernel
theorem dX7_tiltOn_12 : decode cX7_tiltOn 12 = .ok (.aload_n 0, 1) := by decide +kernel
theorem dX7_tiltOn_13 : decode cX7_tiltOn 13 = .ok (.iconst 0, 1) := by decide +kernel
theorem dX7_tiltOn_14 : decode cX7_tiltOn 14 = .ok (.putfield 108, 3) := by decide +kernel
theorem dX7_tiltOn_17 : decode cX7_tiltOn 17 = .ok (.iconst 0, 1) := by decide +kernel
theorem dX7_tiltOn_18 : decode cX7_tiltOn 18 = .ok (.istore 5, 2) := by decide +kernel
theorem dX7_tiltOn_20 : decode cX7_tiltOn 20 = .ok (.iload 5, 2) := by decide +kernel
theorem dX7_tiltOn_22 : decode cX7_tiltOn 22 = .ok (.aload_n 0, 1) := by decide +kernel
theorem dX7_tiltOn_23 : decode cX7_tiltOn 23 = .ok (.getfield 92, 3) := by decide +kernel
theorem dX7_tiltOn_26 : decode cX7_tiltOn 26 = .ok (.if_icmp .ge 63, 3) := by decide +kernel
theorem dX7_tiltOn_29 : decode cX7_tiltOn 29 = .ok (.aload_n 0, 1) := by decide +kernel
theorem dX7_tiltOn_30 : decode cX7_tiltOn 30 = .ok (.dup, 1) := by decide +kernel
theorem dX7_tiltOn_31 : decode cX7_tiltOn 31 = .ok (.getfield 108, 3) := by decide +kernel
theorem dX7_tiltOn_34 : decode cX7_tiltOn 34 = .ok (.aload_n 0, 1) := by decide +kernel
theorem dX7_tiltOn_35 : decode cX7_tiltOn 35 = .ok (.iload_n 1, 1) := by decide +kernel
theorem dX7_tiltOn_36 : decode cX7_tiltOn 36 = .ok (.iload 5, 2) := by decide +kernel
theorem dX7_tiltOn_38 : decode cX7_tiltOn 38 = .ok (.invokevirtual 102, 3) := by decide +kernel
theorem dX7_tiltOn_41 : decode cX7_tiltOn 41 = .ok (.ifCond .eq 37, 3) := by decide +kernel
theorem dX7_tiltOn_44 : decode cX7_tiltOn 44 = .ok (.aload_n 0, 1) := by decide +kernel
theorem dX7_tiltOn_45 : decode cX7_tiltOn 45 = .ok (.getfield 7, 3) := by decide +kernel
theorem dX7_tiltOn_48 : decode cX7_tiltOn 48 = .ok (.iload 5, 2) := by decide +kernel
theorem dX7_tiltOn_50 : decode cX7_tiltOn 50 = .ok (.iaload, 1) := by decide +kernel
theorem dX7_tiltOn_51 : decode cX7_tiltOn 51 = .ok (.iconst 1, 1) := by decide +kernel
theorem dX7_tiltOn_52 : decode cX7_tiltOn 52 = .ok (.if_icmp .ne 26, 3) := by decide +kernel
theorem dX7_tiltOn_55 : decode cX7_tiltOn 55 = .ok (.aload_n 0, 1) := by decide +kernel
theorem dX7_tiltOn_56 : decode cX7_tiltOn 56 = .ok (.aload_n 0, 1) := by decide +kernel
theorem dX7_tiltOn_57 : decode cX7_tiltOn 57 = .ok (.getfield 16, 3) := by decide +kernel
theorem dX7_tiltOn_60 : decode cX7_tiltOn 60 = .ok (.iload_n 3, 1) := by decide +kernel
theorem dX7_tiltOn_61 : decode cX7_tiltOn 61 = .ok (.iload 5, 2) := by decide +kernel
theorem dX7_tiltOn_63 : decode cX7_tiltOn 63 = .ok (.iadd, 1) := by decide +kernel
theorem dX7_tiltOn_64 : decode cX7_tiltOn 64 = .ok (.iaload, 1) := by decide +kernel
theorem dX7_tiltOn_65 : decode cX7_tiltOn 65 = .ok (.invokevirtual 117, 3) := by decide +kernel
theorem dX7_tiltOn_68 : decode cX7_tiltOn 68 = .ok (.ifCond .eq 10, 3) := by decide +kernel
theorem dX7_tiltOn_71 : decode cX7_tiltOn 71 = .ok (.iconst 1, 1) := by decide +kernel
theorem dX7_tiltOn_72 : decode cX7_tiltOn 72 = .ok (.iload 5, 2) := by decide +kernel
theorem dX7_tiltOn_74 : decode cX7_tiltOn 74 = .ok (.ishl, 1) := by decide +kernel
theorem dX7_tiltOn_75 : decode cX7_tiltOn 75 = .ok (.goto 4, 3) := by decide +kernel
theorem dX7_tiltOn_78 : decode cX7_tiltOn 78 = .ok (.iconst 0, 1) := by decide +kernel
theorem dX7_tiltOn_79 : decode cX7_tiltOn 79 = .ok (.ior, 1) := by decide +kernel
theorem dX7_tiltOn_80 : decode cX7_tiltOn 80 = .ok (.putfield 108, 3) := by decide +kernel
theorem dX7_tiltOn_83 : decode cX7_tiltOn 83 = .ok (.iinc 5 1, 3) := by decide +kernel
theorem dX7_tiltOn_86 : decode cX7_tiltOn 86 = .ok (.goto (-66), 3) := by decide +kernel
theorem dX7_tiltOn_89 : decode cX7_tiltOn 89 = .ok (.iconst 1, 1) := by decide +kernel
theorem dX7_tiltOn_90 : decode cX7_tiltOn 90 = .ok (.istore 5, 2) := by decide +kernel
theorem dX7_tiltOn_92 : decode cX7_tiltOn 92 = .ok (.iload 5, 2) := by decide +kernel
theorem dX7_tiltOn_94 : decode cX7_tiltOn 94 = .ok (.ifCond .eq 50, 3) := by decide +kernel
theorem dX7_tiltOn_97 : decode cX7_tiltOn 97 = .ok (.iconst 0, 1) := by decide +kernel
theorem dX7_tiltOn_98 : decode cX7_tiltOn 98 = .ok (.istore 5, 2) := by decide +kernel
theorem dX7_tiltOn_100 : decode cX7_tiltOn 100 = .ok (.iconst 0, 1) := by decide +kernel
theorem dX7_tiltOn_101 : decode cX7_tiltOn 101 = .ok (.istore 6, 2) := by decide +kernel
theorem dX7_tiltOn_103 : decode cX7_tiltOn 103 = .ok (.iload 6, 2) := by decide +kernel
theorem dX7_tiltOn_105 : decode cX7_tiltOn 105 = .ok (.aload_n 0, 1) := by decide +kernel
theorem dX7_tiltOn_106 : decode cX7_tiltOn 106 = .ok (.getfield 92, 3) := by decide +kernel
theorem dX7_tiltOn_109 : decode cX7_tiltOn 109 = .ok (.if_icmp .ge 32, 3) := by decide +kernel
theorem dX7_tiltOn_112 : decode cX7_tiltOn 112 = .ok (.aload_n 0, 1) := by decide +kernel
theorem dX7_tiltOn_113 : decode cX7_tiltOn 113 = .ok (.iload_n 1, 1) := by decide +kernel
theorem dX7_tiltOn_114 : decode cX7_tiltOn 114 = .ok (.iload 6, 2) := by decide +kernel
theorem dX7_tiltOn_116 : decode cX7_tiltOn 116 = .ok (.iload_n 2, 1) := by decide +kernel
theorem dX7_tiltOn_117 : decode cX7_tiltOn 117 = .ok (.invokevirtual 124, 3) := by decide +kernel
theorem dX7_tiltOn_120 : decode cX7_tiltOn 120 = .ok (.ifCond .ne 8, 3) := by decide +kernel
theorem dX7_tiltOn_123 : decode cX7_tiltOn 123 = .ok (.iload 5, 2) := by decide +kernel
theorem dX7_tiltOn_125 : decode cX7_tiltOn 125 = .ok (.ifCond .eq 7, 3) := by decide +kernel
theorem dX7_tiltOn_128 : decode cX7_tiltOn 128 = .ok (.iconst 1, 1) := by decide +kernel
theorem dX7_tiltOn_129 : decode cX7_tiltOn 129 = .ok (.goto 4, 3) := by decide +kernel
theorem dX7_tiltOn_132 : decode cX7_tiltOn 132 = .ok (.iconst 0, 1) := by decide +kernel
theorem dX7_tiltOn_133 : decode cX7_tiltOn 133 = .ok (.istore 5, 2) := by decide +kernel
theorem dX7_tiltOn_135 : decode cX7_tiltOn 135 = .ok (.iinc 6 1, 3) := by decide +kernel
theorem dX7_tiltOn_138 : decode cX7_tiltOn 138 = .ok (.goto (-35), 3) := by decide +kernel
theorem dX7_tiltOn_141 : decode cX7_tiltOn 141 = .ok (.goto (-49), 3) := by decide +kernel
theorem dX7_tiltOn_144 : decode cX7_tiltOn 144 = .ok (.aload_n 0, 1) := by decide +kernel
theorem dX7_tiltOn_145 : decode cX7_tiltOn 145 = .ok (.getfield 16, 3) := by decide +kernel
theorem dX7_tiltOn_148 : decode cX7_tiltOn 148 = .ok (.iload_n 3, 1) := by decide +kernel
theorem dX7_tiltOn_149 : decode cX7_tiltOn 149 = .ok (.bipush 6, 2) := by decide +kernel
theorem dX7_tiltOn_151 : decode cX7_tiltOn 151 = .ok (.iadd, 1) := by decide +kernel
theorem dX7_tiltOn_152 : decode cX7_tiltOn 152 = .ok (.dup2, 1) := by decide +kernel
theorem dX7_tiltOn_153 : decode cX7_tiltOn 153 = .ok (.iaload, 1) := by decide +kernel
theorem dX7_tiltOn_154 : decode cX7_tiltOn 154 = .ok (.iconst 1, 1) := by decide +kernel
theorem dX7_tiltOn_155 : decode cX7_tiltOn 155 = .ok (.iadd, 1) := by decide +kernel
theorem dX7_tiltOn_156 : decode cX7_tiltOn 156 = .ok (.iastore, 1) := by decide +kernel
theorem dX7_tiltOn_157 : decode cX7_tiltOn 157 = .ok (.aload_n 0, 1) := by decide +kernel
theorem dX7_tiltOn_158 : decode cX7_tiltOn 158 = .ok (.iload_n 1, 1) := by decide +kernel
theorem dX7_tiltOn_159 : decode cX7_tiltOn 159 = .ok (.invokevirtual 121, 3) := by decide +kernel
theorem dX7_tiltOn_162 : decode cX7_tiltOn 162 = .ok (.iload 4, 2) := by decide +kernel
theorem dX7_tiltOn_164 : decode cX7_tiltOn 164 = .ok (.isub, 1) := by decide +kernel
theorem dX7_tiltOn_165 : decode cX7_tiltOn 165 = .ok (.ireturn, 1) := by decide +kernel
theorem dX7_layTrial_0 : decode cX7_layTrial 0 = .ok (.iconst 0, 1) := by decide +kernel
theorem dX7_layTrial_1 : decode cX7_layTrial 1 = .ok (.istore_n 1, 1) := by decide +kernel
theorem dX7_layTrial_2 : decode cX7_layTrial 2 = .ok (.iload_n 1, 1) := by decide +kernel
theorem dX7_layTrial_3 : decode cX7_layTrial 3 = .ok (.bipush 7, 2) := by decide +kernel
theorem dX7_layTrial_5 : decode cX7_layTrial 5 = .ok (.if_icmp .ge 24, 3) := by decide +kernel
theorem dX7_layTrial_8 : decode cX7_layTrial 8 = .ok (.aload_n 0, 1) := by decide +kernel
theorem dX7_layTrial_9 : decode cX7_layTrial 9 = .ok (.getfield 16, 3) := by decide +kernel
theorem dX7_layTrial_12 : decode cX7_layTrial 12 = .ok (.bipush 7, 2) := by decide +kernel
theorem dX7_layTrial_14 : decode cX7_layTrial 14 = .ok (.iload_n 1, 1) := by decide +kernel
theorem dX7_layTrial_15 : decode cX7_layTrial 15 = .ok (.iadd, 1) := by decide +kernel
theorem dX7_layTrial_16 : decode cX7_layTrial 16 = .ok (.aload_n 0, 1) := by decide +kernel
theorem dX7_layTrial_17 : decode cX7_layTrial 17 = .ok (.getfield 16, 3) := by decide +kernel
theorem dX7_layTrial_20 : decode cX7_layTrial 20 = .ok (.iload_n 1, 1) := by decide +kernel
theorem dX7_layTrial_21 : decode cX7_layTrial 21 = .ok (.iaload, 1) := by decide +kernel
theorem dX7_layTrial_22 : decode cX7_layTrial 22 = .ok (.iastore, 1) := by decide +kernel
theorem dX7_layTrial_23 : decode cX7_layTrial 23 = .ok (.iinc 1 1, 3) := by decide +kernel
theorem dX7_layTrial_26 : decode cX7_layTrial 26 = .ok (.goto (-24), 3) := by decide +kernel
theorem dX7_layTrial_29 : decode cX7_layTrial 29 = .ok (.return_, 1) := by decide +kernel
set_option maxRecDepth 20000 in
theorem ggX7_cell_X7_isCell : GoodIn wsX7_cell wsX7_isCell := goodIn_r _ [6, 7, 8, 9, 5, 10] (by decide +kernel) (by decide +kernel)
set_option maxRecDepth 20000 in
theorem gX7_cell_X7_isCell : GoodIn wsX7_cell (va_wsS RX7 128 yX7_isCell wsX7_isCell) := goodIn_app (goodIn_of _ (by decide +kernel)) ggX7_cell_X7_isCell
set_option maxRecDepth 20000 in
theorem ggX7_cell_X7_has : GoodIn wsX7_cell wsX7_has := goodIn_r _ [13] (by decide +kernel) (by decide +kernel)
set_option maxRecDepth 20000 in
theorem gX7_cell_X7_has : GoodIn wsX7_cell (va_wsS RX7 82 yX7_has wsX7_has) := goodIn_app (goodIn_of _ (by decide +kernel)) ggX7_cell_X7_has
set_option maxRecDepth 20000 in
theorem ggX7_cell_X7_marbleAt : GoodIn wsX7_cell wsX7_marbleAt := goodIn_r _ [17, 18, 2, 19, 20, 21, 5, 22, 23, 11, 12, 13, 24, 25, 26, 27, 28, 29, 30, 31, 32, 33, 34, 35, 36, 37, 38, 39, 40, 41, 42, 43, 44, 45, 46, 47] (by decide +kernel) (by decide +kernel)
set_option maxRecDepth 20000 in
theorem gX7_cell_X7_marbleAt : GoodIn wsX7_cell (wsV RX7 105 RX7 yX7_marbleAt wsX7_marbleAt) := goodIn_app (goodIn_of _ (by decide +kernel)) ggX7_cell_X7_marbleAt
theorem dX7_cell_0 : decode cX7_cell 0 = .ok (.iload_n 1, 1) := by decide +kernel
theorem dX7_cell_1 : decode cX7_cell 1 = .ok (.invokestatic 128, 3) := by decide +kernel
theorem dX7_cell_4 : decode cX7_cell 4 = .ok (.ifCond .ne 5, 3) := by decide +kernel
theorem dX7_cell_7 : decode cX7_cell 7 = .ok (.iconst (-1), 1) := by decide +kernel
theorem dX7_cell_8 : decode cX7_cell 8 = .ok (.ireturn, 1) := by decide +kernel
theorem dX7_cell_9 : decode cX7_cell 9 = .ok (.iload_n 2, 1) := by decide +kernel
theorem dX7_cell_10 : decode cX7_cell 10 = .ok (.tableswitch 129 0 3 #[30, 100, 107, 118], 30) := by decide +kernel
theorem dX7_cell_40 : decode cX7_cell 40 = .ok (.aload_n 0, 1) := by decide +kernel
theorem dX7_cell_41 : decode cX7_cell 41 = .ok (.getfield 13, 3) := by decide +kernel
theorem dX7_cell_44 : decode cX7_cell 44 = .ok (.iconst 0, 1) := by decide +kernel
theorem dX7_cell_45 : decode cX7_cell 45 = .ok (.iaload, 1) := by decide +kernel
theorem dX7_cell_46 : decode cX7_cell 46 = .ok (.iload_n 1, 1) := by decide +kernel
theorem dX7_cell_47 : decode cX7_cell 47 = .ok (.invokestatic 82, 3) := by decide +kernel
theorem dX7_cell_50 : decode cX7_cell 50 = .ok (.ifCond .eq 7, 3) := by decide +kernel
theorem dX7_cell_53 : decode cX7_cell 53 = .ok (.iconst 1, 1) := by decide +kernel
theorem dX7_cell_54 : decode cX7_cell 54 = .ok (.goto 55, 3) := by decide +kernel
theorem dX7_cell_57 : decode cX7_cell 57 = .ok (.aload_n 0, 1) := by decide +kernel
theorem dX7_cell_58 : decode cX7_cell 58 = .ok (.getfield 13, 3) := by decide +kernel
theorem dX7_cell_61 : decode cX7_cell 61 = .ok (.iconst 1, 1) := by decide +kernel
theorem dX7_cell_62 : decode cX7_cell 62 = .ok (.iaload, 1) := by decide +kernel
theorem dX7_cell_63 : decode cX7_cell 63 = .ok (.iload_n 1, 1) := by decide +kernel
theorem dX7_cell_64 : decode cX7_cell 64 = .ok (.invokestatic 82, 3) := by decide +kernel
theorem dX7_cell_67 : decode cX7_cell 67 = .ok (.ifCond .eq 7, 3) := by decide +kernel
theorem dX7_cell_70 : decode cX7_cell 70 = .ok (.iconst 2, 1) := by decide +kernel
theorem dX7_cell_71 : decode cX7_cell 71 = .ok (.goto 38, 3) := by decide +kernel
theorem dX7_cell_74 : decode cX7_cell 74 = .ok (.aload_n 0, 1) := by decide +kernel
theorem dX7_cell_75 : decode cX7_cell 75 = .ok (.getfield 13, 3) := by decide +kernel
theorem dX7_cell_78 : decode cX7_cell 78 = .ok (.iconst 2, 1) := by decide +kernel
theorem dX7_cell_79 : decode cX7_cell 79 = .ok (.iaload, 1) := by decide +kernel
theorem dX7_cell_80 : decode cX7_cell 80 = .ok (.iload_n 1, 1) := by decide +kernel
theorem dX7_cell_81 : decode cX7_cell 81 = .ok (.invokestatic 82, 3) := by decide +kernel
theorem dX7_cell_84 : decode cX7_cell 84 = .ok (.ifCond .eq 7, 3) := by decide +kernel
theorem dX7_cell_87 : decode cX7_cell 87 = .ok (.iconst 3, 1) := by decide +kernel
theorem dX7_cell_88 : decode cX7_cell 88 = .ok (.goto 21, 3) := by decide +kernel
theorem dX7_cell_91 : decode cX7_cell 91 = .ok (.aload_n 0, 1) := by decide +kernel
theorem dX7_cell_92 : decode cX7_cell 92 = .ok (.getfield 13, 3) := by decide +kernel
theorem dX7_cell_95 : decode cX7_cell 95 = .ok (.iconst 3, 1) := by decide +kernel
theorem dX7_cell_96 : decode cX7_cell 96 = .ok (.iaload, 1) := by decide +kernel
theorem dX7_cell_97 : decode cX7_cell 97 = .ok (.iload_n 1, 1) := by decide +kernel
theorem dX7_cell_98 : decode cX7_cell 98 = .ok (.invokestatic 82, 3) := by decide +kernel
theorem dX7_cell_101 : decode cX7_cell 101 = .ok (.ifCond .eq 7, 3) := by decide +kernel
theorem dX7_cell_104 : decode cX7_cell 104 = .ok (.iconst 4, 1) := by decide +kernel
theorem dX7_cell_105 : decode cX7_cell 105 = .ok (.goto 4, 3) := by decide +kernel
theorem dX7_cell_108 : decode cX7_cell 108 = .ok (.iconst 0, 1) := by decide +kernel
theorem dX7_cell_109 : decode cX7_cell 109 = .ok (.ireturn, 1) := by decide +kernel
theorem dX7_cell_110 : decode cX7_cell 110 = .ok (.aload_n 0, 1) := by decide +kernel
theorem dX7_cell_111 : decode cX7_cell 111 = .ok (.iconst 0, 1) := by decide +kernel
theorem dX7_cell_112 : decode cX7_cell 112 = .ok (.iload_n 1, 1) := by decide +kernel
theorem dX7_cell_113 : decode cX7_cell 113 = .ok (.invokevirtual 105, 3) := by decide +kernel
theorem dX7_cell_116 : decode cX7_cell 116 = .ok (.ireturn, 1) := by decide +kernel
theorem dX7_cell_117 : decode cX7_cell 117 = .ok (.aload_n 0, 1) := by decide +kernel
theorem dX7_cell_118 : decode cX7_cell 118 = .ok (.getfield 16, 3) := by decide +kernel
theorem dX7_cell_121 : decode cX7_cell 121 = .ok (.iconst 4, 1) := by decide +kernel
theorem dX7_cell_122 : decode cX7_cell 122 = .ok (.iaload, 1) := by decide +kernel
theorem dX7_cell_123 : decode cX7_cell 123 = .ok (.iload_n 1, 1) := by decide +kernel
theorem dX7_cell_124 : decode cX7_cell 124 = .ok (.ishr, 1) := by decide +kernel
theorem dX7_cell_125 : decode cX7_cell 125 = .ok (.iconst 1, 1) := by decide +kernel
theorem dX7_cell_126 : decode cX7_cell 126 = .ok (.iand, 1) := by decide +kernel
theorem dX7_cell_127 : decode cX7_cell 127 = .ok (.ireturn, 1) := by decide +kernel
theorem dX7_cell_128 : decode cX7_cell 128 = .ok (.aload_n 0, 1) := by decide +kernel
theorem dX7_cell_129 : decode cX7_cell 129 = .ok (.getfield 16, 3) := by decide +kernel
theorem dX7_cell_132 : decode cX7_cell 132 = .ok (.iconst 5, 1) := by decide +kernel
theorem dX7_cell_133 : decode cX7_cell 133 = .ok (.iaload, 1) := by decide +kernel
theorem dX7_cell_134 : decode cX7_cell 134 = .ok (.iload_n 1, 1) := by decide +kernel
theorem dX7_cell_135 : decode cX7_cell 135 = .ok (.ishr, 1) := by decide +kernel
theorem dX7_cell_136 : decode cX7_cell 136 = .ok (.iconst 1, 1) := by decide +kernel
theorem dX7_cell_137 : decode cX7_cell 137 = .ok (.iand, 1) := by decide +kernel
theorem dX7_cell_138 : decode cX7_cell 138 = .ok (.ireturn, 1) := by decide +kernel
theorem dX7_cell_139 : decode cX7_cell 139 = .ok (.bipush (-2), 2) := by decide +kernel
theorem dX7_cell_141 : decode cX7_cell 141 = .ok (.ireturn, 1) := by decide +kernel
set_option maxRecDepth 20000 in
theorem ggX7_waysOf_X7_layTrial : GoodIn wsX7_waysOf wsX7_layTrial := goodIn_r _ [6, 1, 50, 51, 52, 53, 54, 55, 56, 57, 58, 59, 60, 61, 62, 63, 64, 65, 66, 67, 68, 69, 70, 71, 72, 73] (by decide +kernel) (by decide +kernel)
set_option maxRecDepth 20000 in
theorem gX7_waysOf_X7_layTrial : GoodIn wsX7_waysOf (wsV RX7 131 RX7 yX7_layTrial wsX7_layTrial) := goodIn_app (goodIn_of _ (by decide +kernel)) ggX7_waysOf_X7_layTrial
set_option maxRecDepth 20000 in
theorem ggX7_waysOf_X7_tiltOn : GoodIn wsX7_waysOf wsX7_tiltOn := goodIn_r _ [10, 11, 12, 13, 1, 14, 15, 16, 5, 17, 18, 19, 20, 21, 22, 23, 24, 25, 26, 27, 28, 29, 30, 31, 32, 33, 34, 35, 36, 37, 38, 39, 40, 41, 42, 43, 44, 45, 46, 47, 48, 49, 50, 51, 52, 53, 54, 55, 56, 57, 58, 59, 60, 61, 62, 63, 64, 65, 66, 67, 68, 69, 70, 71, 72, 73] (by decide +kernel) (by decide +kernel)
set_option maxRecDepth 20000 in
theorem gX7_waysOf_X7_tiltOn : GoodIn wsX7_waysOf (wsV RX7 134 RX7 yX7_tiltOn wsX7_tiltOn) := goodIn_app (goodIn_of _ (by decide +kernel)) ggX7_waysOf_X7_tiltOn
theorem dX7_waysOf_0 : decode cX7_waysOf 0 = .ok (.iconst 0, 1) := by decide +kernel
theorem dX7_waysOf_1 : decode cX7_waysOf 1 = .ok (.istore_n 3, 1) := by decide +kernel
theorem dX7_waysOf_2 : decode cX7_waysOf 2 = .ok (.iconst 0, 1) := by decide +kernel
theorem dX7_waysOf_3 : decode cX7_waysOf 3 = .ok (.istore 4, 2) := by decide +kernel
theorem dX7_waysOf_5 : decode cX7_waysOf 5 = .ok (.iload 4, 2) := by decide +kernel
theorem dX7_waysOf_7 : decode cX7_waysOf 7 = .ok (.iconst 4, 1) := by decide +kernel
theorem dX7_waysOf_8 : decode cX7_waysOf 8 = .ok (.if_icmp .ge 99, 3) := by decide +kernel
theorem dX7_waysOf_11 : decode cX7_waysOf 11 = .ok (.aload_n 0, 1) := by decide +kernel
theorem dX7_waysOf_12 : decode cX7_waysOf 12 = .ok (.invokevirtual 131, 3) := by decide +kernel
theorem dX7_waysOf_15 : decode cX7_waysOf 15 = .ok (.aload_n 0, 1) := by decide +kernel
theorem dX7_waysOf_16 : decode cX7_waysOf 16 = .ok (.iconst 1, 1) := by decide +kernel
theorem dX7_waysOf_17 : decode cX7_waysOf 17 = .ok (.iload 4, 2) := by decide +kernel
theorem dX7_waysOf_19 : decode cX7_waysOf 19 = .ok (.invokevirtual 134, 3) := by decide +kernel
theorem dX7_waysOf_22 : decode cX7_waysOf 22 = .ok (.pop, 1) := by decide +kernel
theorem dX7_waysOf_23 : decode cX7_waysOf 23 = .ok (.iload_n 2, 1) := by decide +kernel
theorem dX7_waysOf_24 : decode cX7_waysOf 24 = .ok (.ifCond .eq 36, 3) := by decide +kernel
theorem dX7_waysOf_27 : decode cX7_waysOf 27 = .ok (.aload_n 0, 1) := by decide +kernel
theorem dX7_waysOf_28 : decode cX7_waysOf 28 = .ok (.getfield 16, 3) := by decide +kernel
theorem dX7_waysOf_31 : decode cX7_waysOf 31 = .ok (.iload_n 1, 1) := by decide +kernel
theorem dX7_waysOf_32 : decode cX7_waysOf 32 = .ok (.iaload, 1) := by decide +kernel
theorem dX7_waysOf_33 : decode cX7_waysOf 33 = .ok (.bipush 100, 2) := by decide +kernel
theorem dX7_waysOf_35 : decode cX7_waysOf 35 = .ok (.if_icmp .ge 21, 3) := by decide +kernel
theorem dX7_waysOf_38 : decode cX7_waysOf 38 = .ok (.aload_n 0, 1) := by decide +kernel
theorem dX7_waysOf_39 : decode cX7_waysOf 39 = .ok (.getfield 16, 3) := by decide +kernel
theorem dX7_waysOf_42 : decode cX7_waysOf 42 = .ok (.bipush 7, 2) := by decide +kernel
theorem dX7_waysOf_44 : decode cX7_waysOf 44 = .ok (.iload_n 1, 1) := by decide +kernel
theorem dX7_waysOf_45 : decode cX7_waysOf 45 = .ok (.iadd, 1) := by decide +kernel
theorem dX7_waysOf_46 : decode cX7_waysOf 46 = .ok (.iaload, 1) := by decide +kernel
theorem dX7_waysOf_47 : decode cX7_waysOf 47 = .ok (.bipush 100, 2) := by decide +kernel
theorem dX7_waysOf_49 : decode cX7_waysOf 49 = .ok (.if_icmp .lt 7, 3) := by decide +kernel
theorem dX7_waysOf_52 : decode cX7_waysOf 52 = .ok (.iconst 1, 1) := by decide +kernel
theorem dX7_waysOf_53 : decode cX7_waysOf 53 = .ok (.goto 30, 3) := by decide +kernel
theorem dX7_waysOf_56 : decode cX7_waysOf 56 = .ok (.iconst 0, 1) := by decide +kernel
theorem dX7_waysOf_57 : decode cX7_waysOf 57 = .ok (.goto 26, 3) := by decide +kernel
theorem dX7_waysOf_60 : decode cX7_waysOf 60 = .ok (.aload_n 0, 1) := by decide +kernel
theorem dX7_waysOf_61 : decode cX7_waysOf 61 = .ok (.getfield 16, 3) := by decide +kernel
theorem dX7_waysOf_64 : decode cX7_waysOf 64 = .ok (.bipush 7, 2) := by decide +kernel
theorem dX7_waysOf_66 : decode cX7_waysOf 66 = .ok (.iload_n 1, 1) := by decide +kernel
theorem dX7_waysOf_67 : decode cX7_waysOf 67 = .ok (.iadd, 1) := by decide +kernel
theorem dX7_waysOf_68 : decode cX7_waysOf 68 = .ok (.iaload, 1) := by decide +kernel
theorem dX7_waysOf_69 : decode cX7_waysOf 69 = .ok (.aload_n 0, 1) := by decide +kernel
theorem dX7_waysOf_70 : decode cX7_waysOf 70 = .ok (.getfield 16, 3) := by decide +kernel
theorem dX7_waysOf_73 : decode cX7_waysOf 73 = .ok (.iload_n 1, 1) := by decide +kernel
theorem dX7_waysOf_74 : decode cX7_waysOf 74 = .ok (.iaload, 1) := by decide +kernel
theorem dX7_waysOf_75 : decode cX7_waysOf 75 = .ok (.if_icmp .eq 7, 3) := by decide +kernel
theorem dX7_waysOf_78 : decode cX7_waysOf 78 = .ok (.iconst 1, 1) := by decide +kernel
theorem dX7_waysOf_79 : decode cX7_waysOf 79 = .ok (.goto 4, 3) := by decide +kernel
theorem dX7_waysOf_82 : decode cX7_waysOf 82 = .ok (.iconst 0, 1) := by decide +kernel
theorem dX7_waysOf_83 : decode cX7_waysOf 83 = .ok (.istore 5, 2) := by decide +kernel
theorem dX7_waysOf_85 : decode cX7_waysOf 85 = .ok (.iload_n 3, 1) := by decide +kernel
theorem dX7_waysOf_86 : decode cX7_waysOf 86 = .ok (.iload 5, 2) := by decide +kernel
theorem dX7_waysOf_88 : decode cX7_waysOf 88 = .ok (.ifCond .eq 10, 3) := by decide +kernel
theorem dX7_waysOf_91 : decode cX7_waysOf 91 = .ok (.iconst 1, 1) := by decide +kernel
theorem dX7_waysOf_92 : decode cX7_waysOf 92 = .ok (.iload 4, 2) := by decide +kernel
theorem dX7_waysOf_94 : decode cX7_waysOf 94 = .ok (.ishl, 1) := by decide +kernel
theorem dX7_waysOf_95 : decode cX7_waysOf 95 = .ok (.goto 4, 3) := by decide +kernel
theorem dX7_waysOf_98 : decode cX7_waysOf 98 = .ok (.iconst 0, 1) := by decide +kernel
theorem dX7_waysOf_99 : decode cX7_waysOf 99 = .ok (.ior, 1) := by decide +kernel
theorem dX7_waysOf_100 : decode cX7_waysOf 100 = .ok (.istore_n 3, 1) := by decide +kernel
theorem dX7_waysOf_101 : decode cX7_waysOf 101 = .ok (.iinc 4 1, 3) := by decide +kernel
theorem dX7_waysOf_104 : decode cX7_waysOf 104 = .ok (.goto (-99), 3) := by decide +kernel
theorem dX7_waysOf_107 : decode cX7_waysOf 107 = .ok (.iload_n 3, 1) := by decide +kernel
theorem dX7_waysOf_108 : decode cX7_waysOf 108 = .ok (.ireturn, 1) := by decide +kernel
set_option maxRecDepth 20000 in
theorem ggX7_marble_X7_isMarble : GoodIn wsX7_marble wsX7_isMarble := goodIn_r _ [7, 8, 9, 10, 6, 11, 61, 62, 63, 64, 65, 66, 67, 68, 69, 70, 71, 72, 73, 74, 75, 76, 77, 78, 79, 80, 81, 82, 83, 84] (by decide +kernel) (by decide +kernel)
set_option maxRecDepth 20000 in
theorem gX7_marble_X7_isMarble : GoodIn wsX7_marble (wsV RX7 137 RX7 yX7_isMarble wsX7_isMarble) := goodIn_app (goodIn_of _ (by decide +kernel)) ggX7_marble_X7_isMarble
set_option maxRecDepth 20000 in
theorem ggX7_marble_X7_waysOf : GoodIn wsX7_marble wsX7_waysOf := goodIn_r _ [15, 2, 16, 17, 18, 6, 19, 20, 21, 22, 23, 24, 8, 1, 25, 26, 27, 28, 29, 30, 31, 32, 33, 34, 35, 36, 37, 38, 39, 40, 41, 42, 43, 44, 45, 46, 47, 48, 49, 50, 51, 52, 53, 54, 55, 56, 57, 58, 59, 60, 61, 62, 63, 64, 65, 66, 67, 68, 69, 70, 71, 72, 73, 74, 75, 76, 77, 78, 79, 80, 81, 82, 83, 84] (by decide +kernel) (by decide +kernel)
set_option maxRecDepth 20000 in
theorem gX7_marble_X7_waysOf : GoodIn wsX7_marble (wsV RX7 140 RX7 yX7_waysOf wsX7_waysOf) := goodIn_app (goodIn_of _ (by decide +kernel)) ggX7_marble_X7_waysOf
theorem dX7_marble_0 : decode cX7_marble 0 = .ok (.aload_n 0, 1) := by decide +kernel
theorem dX7_marble_1 : decode cX7_marble 1 = .ok (.iload_n 1, 1) := by decide +kernel
theorem dX7_marble_2 : decode cX7_marble 2 = .ok (.invokevirtual 137, 3) := by decide +kernel
theorem dX7_marble_5 : decode cX7_marble 5 = .ok (.ifCond .ne 5, 3) := by decide +kernel
theorem dX7_marble_8 : decode cX7_marble 8 = .ok (.iconst (-1), 1) := by decide +kernel
theorem dX7_marble_9 : decode cX7_marble 9 = .ok (.ireturn, 1) := by decide +kernel
theorem dX7_marble_10 : decode cX7_marble 10 = .ok (.iload_n 2, 1) := by decide +kernel
theorem dX7_marble_11 : decode cX7_marble 11 = .ok (.tableswitch 57 0 3 #[29, 36, 43, 50], 29) := by decide +kernel
theorem dX7_marble_40 : decode cX7_marble 40 = .ok (.aload_n 0, 1) := by decide +kernel
theorem dX7_marble_41 : decode cX7_marble 41 = .ok (.getfield 7, 3) := by decide +kernel
theorem dX7_marble_44 : decode cX7_marble 44 = .ok (.iload_n 1, 1) := by decide +kernel
theorem dX7_marble_45 : decode cX7_marble 45 = .ok (.iaload, 1) := by decide +kernel
theorem dX7_marble_46 : decode cX7_marble 46 = .ok (.ireturn, 1) := by decide +kernel
theorem dX7_marble_47 : decode cX7_marble 47 = .ok (.aload_n 0, 1) := by decide +kernel
theorem dX7_marble_48 : decode cX7_marble 48 = .ok (.getfield 16, 3) := by decide +kernel
theorem dX7_marble_51 : decode cX7_marble 51 = .ok (.iload_n 1, 1) := by decide +kernel
theorem dX7_marble_52 : decode cX7_marble 52 = .ok (.iaload, 1) := by decide +kernel
theorem dX7_marble_53 : decode cX7_marble 53 = .ok (.ireturn, 1) := by decide +kernel
theorem dX7_marble_54 : decode cX7_marble 54 = .ok (.aload_n 0, 1) := by decide +kernel
theorem dX7_marble_55 : decode cX7_marble 55 = .ok (.iload_n 1, 1) := by decide +kernel
theorem dX7_marble_56 : decode cX7_marble 56 = .ok (.iconst 0, 1) := by decide +kernel
theorem dX7_marble_57 : decode cX7_marble 57 = .ok (.invokevirtual 140, 3) := by decide +kernel
theorem dX7_marble_60 : decode cX7_marble 60 = .ok (.ireturn, 1) := by decide +kernel
theorem dX7_marble_61 : decode cX7_marble 61 = .ok (.aload_n 0, 1) := by decide +kernel
theorem dX7_marble_62 : decode cX7_marble 62 = .ok (.iload_n 1, 1) := by decide +kernel
theorem dX7_marble_63 : decode cX7_marble 63 = .ok (.iconst 1, 1) := by decide +kernel
theorem dX7_marble_64 : decode cX7_marble 64 = .ok (.invokevirtual 140, 3) := by decide +kernel
theorem dX7_marble_67 : decode cX7_marble 67 = .ok (.ireturn, 1) := by decide +kernel
theorem dX7_marble_68 : decode cX7_marble 68 = .ok (.bipush (-2), 2) := by decide +kernel
theorem dX7_marble_70 : decode cX7_marble 70 = .ok (.ireturn, 1) := by decide +kernel
theorem dX7_keepAct_0 : decode cX7_keepAct 0 = .ok (.iconst 0, 1) := by decide +kernel
theorem dX7_keepAct_1 : decode cX7_keepAct 1 = .ok (.istore_n 1, 1) := by decide +kernel
theorem dX7_keepAct_2 : decode cX7_keepAct 2 = .ok (.iload_n 1, 1) := by decide +kernel
theorem dX7_keepAct_3 : decode cX7_keepAct 3 = .ok (.bipush 7, 2) := by decide +kernel
theorem dX7_keepAct_5 : decode cX7_keepAct 5 = .ok (.if_icmp .ge 29, 3) := by decide +kernel
theorem dX7_keepAct_8 : decode cX7_keepAct 8 = .ok (.aload_n 0, 1) := by decide +kernel
theorem dX7_keepAct_9 : decode cX7_keepAct 9 = .ok (.getfield 35, 3) := by decide +kernel
theorem dX7_keepAct_12 : decode cX7_keepAct 12 = .ok (.bipush 7, 2) := by decide +kernel
theorem dX7_keepAct_14 : decode cX7_keepAct 14 = .ok (.aload_n 0, 1) := by decide +kernel
theorem dX7_keepAct_15 : decode cX7_keepAct 15 = .ok (.getfield 144, 3) := by decide +kernel
theorem dX7_keepAct_18 : decode cX7_keepAct 18 = .ok (.imul, 1) := by decide +kernel
theorem dX7_keepAct_19 : decode cX7_keepAct 19 = .ok (.iload_n 1, 1) := by decide +kernel
theorem dX7_keepAct_20 : decode cX7_keepAct 20 = .ok (.iadd, 1) := by decide +kernel
theorem dX7_keepAct_21 : decode cX7_keepAct 21 = .ok (.aload_n 0, 1) := by decide +kernel
theorem dX7_keepAct_22 : decode cX7_keepAct 22 = .ok (.getfield 16, 3) := by decide +kernel
theorem dX7_keepAct_25 : decode cX7_keepAct 25 = .ok (.iload_n 1, 1) := by decide +kernel
theorem dX7_keepAct_26 : decode cX7_keepAct 26 = .ok (.iaload, 1) := by decide +kernel
theorem dX7_keepAct_27 : decode cX7_keepAct 27 = .ok (.iastore, 1) := by decide +kernel
theorem dX7_keepAct_28 : decode cX7_keepAct 28 = .ok (.iinc 1 1, 3) := by decide +kernel
theorem dX7_keepAct_31 : decode cX7_keepAct 31 = .ok (.goto (-29), 3) := by decide +kernel
theorem dX7_keepAct_34 : decode cX7_keepAct 34 = .ok (.aload_n 0, 1) := by decide +kernel
theorem dX7_keepAct_35 : decode cX7_keepAct 35 = .ok (.aload_n 0, 1) := by decide +kernel
theorem dX7_keepAct_36 : decode cX7_keepAct 36 = .ok (.getfield 144, 3) := by decide +kernel
theorem dX7_keepAct_39 : decode cX7_keepAct 39 = .ok (.iconst 1, 1) := by decide +kernel
theorem dX7_keepAct_40 : decode cX7_keepAct 40 = .ok (.iadd, 1) := by decide +kernel
theorem dX7_keepAct_41 : decode cX7_keepAct 41 = .ok (.bipush 14, 2) := by decide +kernel
theorem dX7_keepAct_43 : decode cX7_keepAct 43 = .ok (.irem, 1) := by decide +kernel
theorem dX7_keepAct_44 : decode cX7_keepAct 44 = .ok (.putfield 144, 3) := by decide +kernel
theorem dX7_keepAct_47 : decode cX7_keepAct 47 = .ok (.aload_n 0, 1) := by decide +kernel
theorem dX7_keepAct_48 : decode cX7_keepAct 48 = .ok (.aload_n 0, 1) := by decide +kernel
theorem dX7_keepAct_49 : decode cX7_keepAct 49 = .ok (.getfield 95, 3) := by decide +kernel
theorem dX7_keepAct_52 : decode cX7_keepAct 52 = .ok (.bipush 14, 2) := by decide +kernel
theorem dX7_keepAct_54 : decode cX7_keepAct 54 = .ok (.if_icmp .ge 12, 3) := by decide +kernel
theorem dX7_keepAct_57 : decode cX7_keepAct 57 = .ok (.aload_n 0, 1) := by decide +kernel
theorem dX7_keepAct_58 : decode cX7_keepAct 58 = .ok (.getfield 95, 3) := by decide +kernel
theorem dX7_keepAct_61 : decode cX7_keepAct 61 = .ok (.iconst 1, 1) := by decide +kernel
theorem dX7_keepAct_62 : decode cX7_keepAct 62 = .ok (.iadd, 1) := by decide +kernel
theorem dX7_keepAct_63 : decode cX7_keepAct 63 = .ok (.goto 5, 3) := by decide +kernel
theorem dX7_keepAct_66 : decode cX7_keepAct 66 = .ok (.bipush 14, 2) := by decide +kernel
theorem dX7_keepAct_68 : decode cX7_keepAct 68 = .ok (.putfield 95, 3) := by decide +kernel
theorem dX7_keepAct_71 : decode cX7_keepAct 71 = .ok (.return_, 1) := by decide +kernel
set_option maxRecDepth 20000 in
theorem ggX7_tilt_X7_in : GoodIn wsX7_tilt wsX7_in := goodIn_r _ [5] (by decide +kernel) (by decide +kernel)
set_option maxRecDepth 20000 in
theorem gX7_tilt_X7_in : GoodIn wsX7_tilt (va_wsS RX7 56 yX7_in wsX7_in) := goodIn_app (goodIn_of _ (by decide +kernel)) ggX7_tilt_X7_in
set_option maxRecDepth 20000 in
theorem ggX7_tilt_X7_keepAct : GoodIn wsX7_tilt wsX7_keepAct := goodIn_r _ [9, 10, 11, 12, 13, 57, 58, 59, 60, 61, 62, 63, 64, 65, 66, 67, 68, 69, 70, 71, 72, 73, 74, 75, 76, 77, 78, 79, 80] (by decide +kernel) (by decide +kernel)
set_option maxRecDepth 20000 in
theorem gX7_tilt_X7_keepAct : GoodIn wsX7_tilt (wsV RX7 147 RX7 yX7_keepAct wsX7_keepAct) := goodIn_app (goodIn_of _ (by decide +kernel)) ggX7_tilt_X7_keepAct
set_option maxRecDepth 20000 in
theorem ggX7_tilt_X7_tiltOn : GoodIn wsX7_tilt wsX7_tiltOn := goodIn_r _ [17, 18, 19, 20, 12, 21, 22, 23, 4, 24, 25, 26, 27, 28, 29, 30, 31, 32, 33, 34, 35, 36, 37, 38, 39, 40, 41, 42, 43, 44, 45, 46, 47, 48, 49, 50, 51, 52, 53, 54, 55, 56, 57, 58, 59, 60, 61, 62, 63, 64, 65, 66, 67, 68, 69, 70, 71, 72, 73, 74, 75, 76, 77, 78, 79, 80] (by decide +kernel) (by decide +kernel)
set_option maxRecDepth 20000 in
theorem gX7_tilt_X7_tiltOn : GoodIn wsX7_tilt (wsV RX7 134 RX7 yX7_tiltOn wsX7_tiltOn) := goodIn_app (goodIn_of _ (by decide +kernel)) ggX7_tilt_X7_tiltOn
theorem dX7_tilt_0 : decode cX7_tilt 0 = .ok (.iload_n 1, 1) := by decide +kernel
theorem dX7_tilt_1 : decode cX7_tilt 1 = .ok (.i2l, 1) := by decide +kernel
theorem dX7_tilt_2 : decode cX7_tilt 2 = .ok (.lconst 0, 1) := by decide +kernel
theorem dX7_tilt_3 : decode cX7_tilt 3 = .ok (.ldc2_w 86, 3) := by decide +kernel
theorem dX7_tilt_6 : decode cX7_tilt 6 = .ok (.invokestatic 56, 3) := by decide +kernel
theorem dX7_tilt_9 : decode cX7_tilt 9 = .ok (.ifCond .ne 6, 3) := by decide +kernel
theorem dX7_tilt_12 : decode cX7_tilt 12 = .ok (.bipush (-2), 2) := by decide +kernel
theorem dX7_tilt_14 : decode cX7_tilt 14 = .ok (.ireturn, 1) := by decide +kernel
theorem dX7_tilt_15 : decode cX7_tilt 15 = .ok (.aload_n 0, 1) := by decide +kernel
theorem dX7_tilt_16 : decode cX7_tilt 16 = .ok (.invokevirtual 147, 3) := by decide +kernel
theorem dX7_tilt_19 : decode cX7_tilt 19 = .ok (.aload_n 0, 1) := by decide +kernel
theorem dX7_tilt_20 : decode cX7_tilt 20 = .ok (.iconst 0, 1) := by decide +kernel
theorem dX7_tilt_21 : decode cX7_tilt 21 = .ok (.iload_n 1, 1) := by decide +kernel
theorem dX7_tilt_22 : decode cX7_tilt 22 = .ok (.invokevirtual 134, 3) := by decide +kernel
theorem dX7_tilt_25 : decode cX7_tilt 25 = .ok (.ireturn, 1) := by decide +kernel
set_option maxRecDepth 20000 in
theorem ggX7_lift_X7_isMarble : GoodIn wsX7_lift wsX7_isMarble := goodIn_r _ [6, 7, 8, 9, 5, 10, 43, 44, 45, 46, 47, 48, 49, 50, 51, 52, 53, 54, 55, 56, 57, 58, 59, 60, 61, 62, 63, 64, 65, 66] (by decide +kernel) (by decide +kernel)
set_option maxRecDepth 20000 in
theorem gX7_lift_X7_isMarble : GoodIn wsX7_lift (wsV RX7 137 RX7 yX7_isMarble wsX7_isMarble) := goodIn_app (goodIn_of _ (by decide +kernel)) ggX7_lift_X7_isMarble
set_option maxRecDepth 20000 in
theorem ggX7_lift_X7_isCell : GoodIn wsX7_lift wsX7_isCell := goodIn_r _ [13, 14, 8, 9, 5, 10] (by decide +kernel) (by decide +kernel)
set_option maxRecDepth 20000 in
theorem gX7_lift_X7_isCell : GoodIn wsX7_lift (va_wsS RX7 128 yX7_isCell wsX7_isCell) := goodIn_app (goodIn_of _ (by decide +kernel)) ggX7_lift_X7_isCell
set_option maxRecDepth 20000 in
theorem ggX7_lift_X7_canBe : GoodIn wsX7_lift wsX7_canBe := goodIn_r _ [18, 19, 1, 20, 21, 5, 22, 23, 24, 25, 26, 7, 27, 28, 29, 30, 31, 43, 44, 45, 46, 47, 48, 49, 50, 51, 52, 53, 54, 55, 56, 57, 58, 59, 60, 61, 62, 63, 64, 65, 66] (by decide +kernel) (by decide +kernel)
set_option maxRecDepth 20000 in
theorem gX7_lift_X7_canBe : GoodIn wsX7_lift (wsV RX7 111 RX7 yX7_canBe wsX7_canBe) := goodIn_app (goodIn_of _ (by decide +kernel)) ggX7_lift_X7_canBe
set_option maxRecDepth 20000 in
theorem ggX7_lift_X7_isOpen : GoodIn wsX7_lift wsX7_isOpen := goodIn_r _ [35, 19, 1, 20, 21, 5, 22, 43, 44, 45, 46, 47, 48, 49, 50, 51, 52, 53, 54, 55, 56, 57, 58, 59, 60, 61, 62, 63, 64, 65, 66] (by decide +kernel) (by decide +kernel)
set_option maxRecDepth 20000 in
theorem gX7_lift_X7_isOpen : GoodIn wsX7_lift (wsV RX7 114 RX7 yX7_isOpen wsX7_isOpen) := goodIn_app (goodIn_of _ (by decide +kernel)) ggX7_lift_X7_isOpen
set_option maxRecDepth 20000 in
theorem ggX7_lift_X7_keepAct : GoodIn wsX7_lift wsX7_keepAct := goodIn_r _ [39, 40, 41, 1, 42, 43, 44, 45, 46, 47, 48, 49, 50, 51, 52, 53, 54, 55, 56, 57, 58, 59, 60, 61, 62, 63, 64, 65, 66] (by decide +kernel) (by decide +kernel)
set_option maxRecDepth 20000 in
theorem gX7_lift_X7_keepAct : GoodIn wsX7_lift (wsV RX7 147 RX7 yX7_keepAct wsX7_keepAct) := goodIn_app (goodIn_of _ (by decide +kernel)) ggX7_lift_X7_keepAct
theorem dX7_lift_0 : decode cX7_lift 0 = .ok (.aload_n 0, 1) := by decide +kernel
theorem dX7_lift_1 : decode cX7_lift 1 = .ok (.iload_n 1, 1) := by decide +kernel
theorem dX7_lift_2 : decode cX7_lift 2 = .ok (.invokevirtual 137, 3) := by decide +kernel
theorem dX7_lift_5 : decode cX7_lift 5 = .ok (.ifCond .eq 10, 3) := by decide +kernel
theorem dX7_lift_8 : decode cX7_lift 8 = .ok (.iload_n 2, 1) := by decide +kernel
theorem dX7_lift_9 : decode cX7_lift 9 = .ok (.invokestatic 128, 3) := by decide +kernel
theorem dX7_lift_12 : decode cX7_lift 12 = .ok (.ifCond .ne 5, 3) := by decide +kernel
theorem dX7_lift_15 : decode cX7_lift 15 = .ok (.iconst (-1), 1) := by decide +kernel
theorem dX7_lift_16 : decode cX7_lift 16 = .ok (.ireturn, 1) := by decide +kernel
theorem dX7_lift_17 : decode cX7_lift 17 = .ok (.aload_n 0, 1) := by decide +kernel
theorem dX7_lift_18 : decode cX7_lift 18 = .ok (.getfield 16, 3) := by decide +kernel
theorem dX7_lift_21 : decode cX7_lift 21 = .ok (.iload_n 1, 1) := by decide +kernel
theorem dX7_lift_22 : decode cX7_lift 22 = .ok (.iaload, 1) := by decide +kernel
theorem dX7_lift_23 : decode cX7_lift 23 = .ok (.istore_n 3, 1) := by decide +kernel
theorem dX7_lift_24 : decode cX7_lift 24 = .ok (.aload_n 0, 1) := by decide +kernel
theorem dX7_lift_25 : decode cX7_lift 25 = .ok (.iconst 0, 1) := by decide +kernel
theorem dX7_lift_26 : decode cX7_lift 26 = .ok (.iload_n 2, 1) := by decide +kernel
theorem dX7_lift_27 : decode cX7_lift 27 = .ok (.invokevirtual 111, 3) := by decide +kernel
theorem dX7_lift_30 : decode cX7_lift 30 = .ok (.ifCond .eq 20, 3) := by decide +kernel
theorem dX7_lift_33 : decode cX7_lift 33 = .ok (.aload_n 0, 1) := by decide +kernel
theorem dX7_lift_34 : decode cX7_lift 34 = .ok (.iconst 0, 1) := by decide +kernel
theorem dX7_lift_35 : decode cX7_lift 35 = .ok (.iload_n 2, 1) := by decide +kernel
theorem dX7_lift_36 : decode cX7_lift 36 = .ok (.invokevirtual 114, 3) := by decide +kernel
theorem dX7_lift_39 : decode cX7_lift 39 = .ok (.ifCond .ne 11, 3) := by decide +kernel
theorem dX7_lift_42 : decode cX7_lift 42 = .ok (.iload_n 3, 1) := by decide +kernel
theorem dX7_lift_43 : decode cX7_lift 43 = .ok (.bipush 100, 2) := by decide +kernel
theorem dX7_lift_45 : decode cX7_lift 45 = .ok (.iload_n 2, 1) := by decide +kernel
theorem dX7_lift_46 : decode cX7_lift 46 = .ok (.iadd, 1) := by decide +kernel
theorem dX7_lift_47 : decode cX7_lift 47 = .ok (.if_icmp .ne 6, 3) := by decide +kernel
theorem dX7_lift_50 : decode cX7_lift 50 = .ok (.bipush (-3), 2) := by decide +kernel
theorem dX7_lift_52 : decode cX7_lift 52 = .ok (.ireturn, 1) := by decide +kernel
theorem dX7_lift_53 : decode cX7_lift 53 = .ok (.aload_n 0, 1) := by decide +kernel
theorem dX7_lift_54 : decode cX7_lift 54 = .ok (.invokevirtual 147, 3) := by decide +kernel
theorem dX7_lift_57 : decode cX7_lift 57 = .ok (.aload_n 0, 1) := by decide +kernel
theorem dX7_lift_58 : decode cX7_lift 58 = .ok (.getfield 16, 3) := by decide +kernel
theorem dX7_lift_61 : decode cX7_lift 61 = .ok (.iconst 4, 1) := by decide +kernel
theorem dX7_lift_62 : decode cX7_lift 62 = .ok (.dup2, 1) := by decide +kernel
theorem dX7_lift_63 : decode cX7_lift 63 = .ok (.iaload, 1) := by decide +kernel
theorem dX7_lift_64 : decode cX7_lift 64 = .ok (.iload_n 3, 1) := by decide +kernel
theorem dX7_lift_65 : decode cX7_lift 65 = .ok (.bipush 100, 2) := by decide +kernel
theorem dX7_lift_67 : decode cX7_lift 67 = .ok (.if_icmp .lt 14, 3) := by decide +kernel
theorem dX7_lift_70 : decode cX7_lift 70 = .ok (.iconst 1, 1) := by decide +kernel
theorem dX7_lift_71 : decode cX7_lift 71 = .ok (.iload_n 3, 1) := by decide +kernel
theorem dX7_lift_72 : decode cX7_lift 72 = .ok (.bipush 100, 2) := by decide +kernel
theorem dX7_lift_74 : decode cX7_lift 74 = .ok (.isub, 1) := by decide +kernel
theorem dX7_lift_75 : decode cX7_lift 75 = .ok (.ishl, 1) := by decide +kernel
theorem dX7_lift_76 : decode cX7_lift 76 = .ok (.iconst (-1), 1) := by decide +kernel
theorem dX7_lift_77 : decode cX7_lift 77 = .ok (.ixor, 1) := by decide +kernel
theorem dX7_lift_78 : decode cX7_lift 78 = .ok (.goto 4, 3) := by decide +kernel
theorem dX7_lift_81 : decode cX7_lift 81 = .ok (.iconst (-1), 1) := by decide +kernel
theorem dX7_lift_82 : decode cX7_lift 82 = .ok (.iand, 1) := by decide +kernel
theorem dX7_lift_83 : decode cX7_lift 83 = .ok (.iastore, 1) := by decide +kernel
theorem dX7_lift_84 : decode cX7_lift 84 = .ok (.aload_n 0, 1) := by decide +kernel
theorem dX7_lift_85 : decode cX7_lift 85 = .ok (.getfield 16, 3) := by decide +kernel
theorem dX7_lift_88 : decode cX7_lift 88 = .ok (.iload_n 1, 1) := by decide +kernel
theorem dX7_lift_89 : decode cX7_lift 89 = .ok (.iload_n 2, 1) := by decide +kernel
theorem dX7_lift_90 : decode cX7_lift 90 = .ok (.iastore, 1) := by decide +kernel
theorem dX7_lift_91 : decode cX7_lift 91 = .ok (.iload_n 3, 1) := by decide +kernel
theorem dX7_lift_92 : decode cX7_lift 92 = .ok (.ireturn, 1) := by decide +kernel
set_option maxRecDepth 20000 in
theorem ggX7_canWedge_X7_has : GoodIn wsX7_canWedge wsX7_has := goodIn_r _ [5] (by decide +kernel) (by decide +kernel)
set_option maxRecDepth 20000 in
theorem gX7_canWedge_X7_has : GoodIn wsX7_canWedge (va_wsS RX7 82 yX7_has wsX7_has) := goodIn_app (goodIn_of _ (by decide +kernel)) ggX7_canWedge_X7_has
set_option maxRecDepth 20000 in
theorem ggX7_canWedge_X7_marbleAt : GoodIn wsX7_canWedge wsX7_marbleAt := goodIn_r _ [9, 10, 11, 12, 13, 14, 4, 15, 16, 2, 3, 5, 17, 18, 19, 20, 21, 22, 23, 24, 25, 26, 27, 28, 29, 30, 31, 32, 33, 34, 35, 36, 37, 38, 39, 40] (by decide +kernel) (by decide +kernel)
set_option maxRecDepth 20000 in
theorem gX7_canWedge_X7_marbleAt : GoodIn wsX7_canWedge (wsV RX7 105 RX7 yX7_marbleAt wsX7_marbleAt) := goodIn_app (goodIn_of _ (by decide +kernel)) ggX7_canWedge_X7_marbleAt
theorem dX7_canWedge_0 : decode cX7_canWedge 0 = .ok (.aload_n 0, 1) := by decide +kernel
theorem dX7_canWedge_1 : decode cX7_canWedge 1 = .ok (.getfield 13, 3) := by decide +kernel
theorem dX7_canWedge_4 : decode cX7_canWedge 4 = .ok (.iconst 0, 1) := by decide +kernel
theorem dX7_canWedge_5 : decode cX7_canWedge 5 = .ok (.iaload, 1) := by decide +kernel
theorem dX7_canWedge_6 : decode cX7_canWedge 6 = .ok (.aload_n 0, 1) := by decide +kernel
theorem dX7_canWedge_7 : decode cX7_canWedge 7 = .ok (.getfield 13, 3) := by decide +kernel
theorem dX7_canWedge_10 : decode cX7_canWedge 10 = .ok (.iconst 1, 1) := by decide +kernel
theorem dX7_canWedge_11 : decode cX7_canWedge 11 = .ok (.iaload, 1) := by decide +kernel
theorem dX7_canWedge_12 : decode cX7_canWedge 12 = .ok (.ior, 1) := by decide +kernel
theorem dX7_canWedge_13 : decode cX7_canWedge 13 = .ok (.aload_n 0, 1) := by decide +kernel
theorem dX7_canWedge_14 : decode cX7_canWedge 14 = .ok (.getfield 13, 3) := by decide +kernel
theorem dX7_canWedge_17 : decode cX7_canWedge 17 = .ok (.iconst 2, 1) := by decide +kernel
theorem dX7_canWedge_18 : decode cX7_canWedge 18 = .ok (.iaload, 1) := by decide +kernel
theorem dX7_canWedge_19 : decode cX7_canWedge 19 = .ok (.ior, 1) := by decide +kernel
theorem dX7_canWedge_20 : decode cX7_canWedge 20 = .ok (.aload_n 0, 1) := by decide +kernel
theorem dX7_canWedge_21 : decode cX7_canWedge 21 = .ok (.getfield 13, 3) := by decide +kernel
theorem dX7_canWedge_24 : decode cX7_canWedge 24 = .ok (.iconst 3, 1) := by decide +kernel
theorem dX7_canWedge_25 : decode cX7_canWedge 25 = .ok (.iaload, 1) := by decide +kernel
theorem dX7_canWedge_26 : decode cX7_canWedge 26 = .ok (.ior, 1) := by decide +kernel
theorem dX7_canWedge_27 : decode cX7_canWedge 27 = .ok (.iload_n 2, 1) := by decide +kernel
theorem dX7_canWedge_28 : decode cX7_canWedge 28 = .ok (.invokestatic 82, 3) := by decide +kernel
theorem dX7_canWedge_31 : decode cX7_canWedge 31 = .ok (.ifCond .ne 18, 3) := by decide +kernel
theorem dX7_canWedge_34 : decode cX7_canWedge 34 = .ok (.aload_n 0, 1) := by decide +kernel
theorem dX7_canWedge_35 : decode cX7_canWedge 35 = .ok (.iload_n 1, 1) := by decide +kernel
theorem dX7_canWedge_36 : decode cX7_canWedge 36 = .ok (.iload_n 2, 1) := by decide +kernel
theorem dX7_canWedge_37 : decode cX7_canWedge 37 = .ok (.invokevirtual 105, 3) := by decide +kernel
theorem dX7_canWedge_40 : decode cX7_canWedge 40 = .ok (.bipush (-9), 2) := by decide +kernel
theorem dX7_canWedge_42 : decode cX7_canWedge 42 = .ok (.if_icmp .ne 7, 3) := by decide +kernel
theorem dX7_canWedge_45 : decode cX7_canWedge 45 = .ok (.iconst 1, 1) := by decide +kernel
theorem dX7_canWedge_46 : decode cX7_canWedge 46 = .ok (.goto 4, 3) := by decide +kernel
theorem dX7_canWedge_49 : decode cX7_canWedge 49 = .ok (.iconst 0, 1) := by decide +kernel
theorem dX7_canWedge_50 : decode cX7_canWedge 50 = .ok (.ireturn, 1) := by decide +kernel
set_option maxRecDepth 20000 in
theorem ggX7_wedge_X7_isCell : GoodIn wsX7_wedge wsX7_isCell := goodIn_r _ [5, 6, 7, 8, 4, 9] (by decide +kernel) (by decide +kernel)
set_option maxRecDepth 20000 in
theorem gX7_wedge_X7_isCell : GoodIn wsX7_wedge (va_wsS RX7 128 yX7_isCell wsX7_isCell) := goodIn_app (goodIn_of _ (by decide +kernel)) ggX7_wedge_X7_isCell
set_option maxRecDepth 20000 in
theorem ggX7_wedge_X7_has : GoodIn wsX7_wedge wsX7_has := goodIn_r _ [12] (by decide +kernel) (by decide +kernel)
set_option maxRecDepth 20000 in
theorem gX7_wedge_X7_has : GoodIn wsX7_wedge (va_wsS RX7 82 yX7_has wsX7_has) := goodIn_app (goodIn_of _ (by decide +kernel)) ggX7_wedge_X7_has
set_option maxRecDepth 20000 in
theorem ggX7_wedge_X7_canWedge : GoodIn wsX7_wedge wsX7_canWedge := goodIn_r _ [16, 17, 10, 11, 4, 12, 18, 19, 20, 21, 22, 1, 23, 24, 25, 26, 27, 38, 39, 40, 41, 42, 43, 44, 45, 46, 47, 48, 49, 50, 51, 52, 53, 54, 55, 56, 57, 58, 59, 60, 61] (by decide +kernel) (by decide +kernel)
set_option maxRecDepth 20000 in
theorem gX7_wedge_X7_canWedge : GoodIn wsX7_wedge (wsV RX7 150 RX7 yX7_canWedge wsX7_canWedge) := goodIn_app (goodIn_of _ (by decide +kernel)) ggX7_wedge_X7_canWedge
set_option maxRecDepth 20000 in
theorem ggX7_wedge_X7_ones : GoodIn wsX7_wedge wsX7_ones := goodIn_r _ [30] (by decide +kernel) (by decide +kernel)
set_option maxRecDepth 20000 in
theorem gX7_wedge_X7_ones : GoodIn wsX7_wedge (va_wsS RX7 63 yX7_ones wsX7_ones) := goodIn_app (goodIn_of _ (by decide +kernel)) ggX7_wedge_X7_ones
set_option maxRecDepth 20000 in
theorem ggX7_wedge_X7_keepAct : GoodIn wsX7_wedge wsX7_keepAct := goodIn_r _ [34, 35, 36, 1, 37, 38, 39, 40, 41, 42, 43, 44, 45, 46, 47, 48, 49, 50, 51, 52, 53, 54, 55, 56, 57, 58, 59, 60, 61] (by decide +kernel) (by decide +kernel)
set_option maxRecDepth 20000 in
theorem gX7_wedge_X7_keepAct : GoodIn wsX7_wedge (wsV RX7 147 RX7 yX7_keepAct wsX7_keepAct) := goodIn_app (goodIn_of _ (by decide +kernel)) ggX7_wedge_X7_keepAct
theorem dX7_wedge_0 : decode cX7_wedge 0 = .ok (.iload_n 1, 1) := by decide +kernel
theorem dX7_wedge_1 : decode cX7_wedge 1 = .ok (.invokestatic 128, 3) := by decide +kernel
theorem dX7_wedge_4 : decode cX7_wedge 4 = .ok (.ifCond .ne 5, 3) := by decide +kernel
theorem dX7_wedge_7 : decode cX7_wedge 7 = .ok (.iconst (-1), 1) := by decide +kernel
theorem dX7_wedge_8 : decode cX7_wedge 8 = .ok (.ireturn, 1) := by decide +kernel
theorem dX7_wedge_9 : decode cX7_wedge 9 = .ok (.aload_n 0, 1) := by decide +kernel
theorem dX7_wedge_10 : decode cX7_wedge 10 = .ok (.getfield 16, 3) := by decide +kernel
theorem dX7_wedge_13 : decode cX7_wedge 13 = .ok (.iconst 5, 1) := by decide +kernel
theorem dX7_wedge_14 : decode cX7_wedge 14 = .ok (.iaload, 1) := by decide +kernel
theorem dX7_wedge_15 : decode cX7_wedge 15 = .ok (.iload_n 1, 1) := by decide +kernel
theorem dX7_wedge_16 : decode cX7_wedge 16 = .ok (.invokestatic 82, 3) := by decide +kernel
theorem dX7_wedge_19 : decode cX7_wedge 19 = .ok (.istore_n 2, 1) := by decide +kernel
theorem dX7_wedge_20 : decode cX7_wedge 20 = .ok (.iload_n 2, 1) := by decide +kernel
theorem dX7_wedge_21 : decode cX7_wedge 21 = .ok (.ifCond .ne 15, 3) := by decide +kernel
theorem dX7_wedge_24 : decode cX7_wedge 24 = .ok (.aload_n 0, 1) := by decide +kernel
theorem dX7_wedge_25 : decode cX7_wedge 25 = .ok (.iconst 0, 1) := by decide +kernel
theorem dX7_wedge_26 : decode cX7_wedge 26 = .ok (.iload_n 1, 1) := by decide +kernel
theorem dX7_wedge_27 : decode cX7_wedge 27 = .ok (.invokevirtual 150, 3) := by decide +kernel
theorem dX7_wedge_30 : decode cX7_wedge 30 = .ok (.ifCond .ne 6, 3) := by decide +kernel
theorem dX7_wedge_33 : decode cX7_wedge 33 = .ok (.bipush (-3), 2) := by decide +kernel
theorem dX7_wedge_35 : decode cX7_wedge 35 = .ok (.ireturn, 1) := by decide +kernel
theorem dX7_wedge_36 : decode cX7_wedge 36 = .ok (.iload_n 2, 1) := by decide +kernel
theorem dX7_wedge_37 : decode cX7_wedge 37 = .ok (.ifCond .ne 19, 3) := by decide +kernel
theorem dX7_wedge_40 : decode cX7_wedge 40 = .ok (.aload_n 0, 1) := by decide +kernel
theorem dX7_wedge_41 : decode cX7_wedge 41 = .ok (.getfield 16, 3) := by decide +kernel
theorem dX7_wedge_44 : decode cX7_wedge 44 = .ok (.iconst 5, 1) := by decide +kernel
theorem dX7_wedge_45 : decode cX7_wedge 45 = .ok (.iaload, 1) := by decide +kernel
theorem dX7_wedge_46 : decode cX7_wedge 46 = .ok (.invokestatic 63, 3) := by decide +kernel
theorem dX7_wedge_49 : decode cX7_wedge 49 = .ok (.iconst 3, 1) := by decide +kernel
theorem dX7_wedge_50 : decode cX7_wedge 50 = .ok (.if_icmp .ne 6, 3) := by decide +kernel
theorem dX7_wedge_53 : decode cX7_wedge 53 = .ok (.bipush (-4), 2) := by decide +kernel
theorem dX7_wedge_55 : decode cX7_wedge 55 = .ok (.ireturn, 1) := by decide +kernel
theorem dX7_wedge_56 : decode cX7_wedge 56 = .ok (.aload_n 0, 1) := by decide +kernel
theorem dX7_wedge_57 : decode cX7_wedge 57 = .ok (.invokevirtual 147, 3) := by decide +kernel
theorem dX7_wedge_60 : decode cX7_wedge 60 = .ok (.aload_n 0, 1) := by decide +kernel
theorem dX7_wedge_61 : decode cX7_wedge 61 = .ok (.getfield 16, 3) := by decide +kernel
theorem dX7_wedge_64 : decode cX7_wedge 64 = .ok (.iconst 5, 1) := by decide +kernel
theorem dX7_wedge_65 : decode cX7_wedge 65 = .ok (.dup2, 1) := by decide +kernel
theorem dX7_wedge_66 : decode cX7_wedge 66 = .ok (.iaload, 1) := by decide +kernel
theorem dX7_wedge_67 : decode cX7_wedge 67 = .ok (.iconst 1, 1) := by decide +kernel
theorem dX7_wedge_68 : decode cX7_wedge 68 = .ok (.iload_n 1, 1) := by decide +kernel
theorem dX7_wedge_69 : decode cX7_wedge 69 = .ok (.ishl, 1) := by decide +kernel
theorem dX7_wedge_70 : decode cX7_wedge 70 = .ok (.ixor, 1) := by decide +kernel
theorem dX7_wedge_71 : decode cX7_wedge 71 = .ok (.iastore, 1) := by decide +kernel
theorem dX7_wedge_72 : decode cX7_wedge 72 = .ok (.iload_n 2, 1) := by decide +kernel
theorem dX7_wedge_73 : decode cX7_wedge 73 = .ok (.ifCond .eq 7, 3) := by decide +kernel
theorem dX7_wedge_76 : decode cX7_wedge 76 = .ok (.iconst 0, 1) := by decide +kernel
theorem dX7_wedge_77 : decode cX7_wedge 77 = .ok (.goto 4, 3) := by decide +kernel
theorem dX7_wedge_80 : decode cX7_wedge 80 = .ok (.iconst 1, 1) := by decide +kernel
theorem dX7_wedge_81 : decode cX7_wedge 81 = .ok (.ireturn, 1) := by decide +kernel
theorem dX7_undo_0 : decode cX7_undo 0 = .ok (.aload_n 0, 1) := by decide +kernel
theorem dX7_undo_1 : decode cX7_undo 1 = .ok (.getfield 95, 3) := by decide +kernel
theorem dX7_undo_4 : decode cX7_undo 4 = .ok (.ifCond .ne 6, 3) := by decide +kernel
theorem dX7_undo_7 : decode cX7_undo 7 = .ok (.bipush (-3), 2) := by decide +kernel
theorem dX7_undo_9 : decode cX7_undo 9 = .ok (.ireturn, 1) := by decide +kernel
theorem dX7_undo_10 : decode cX7_undo 10 = .ok (.aload_n 0, 1) := by decide +kernel
theorem dX7_undo_11 : decode cX7_undo 11 = .ok (.dup, 1) := by decide +kernel
theorem dX7_undo_12 : decode cX7_undo 12 = .ok (.getfield 95, 3) := by decide +kernel
theorem dX7_undo_15 : decode cX7_undo 15 = .ok (.iconst 1, 1) := by decide +kernel
theorem dX7_undo_16 : decode cX7_undo 16 = .ok (.isub, 1) := by decide +kernel
theorem dX7_undo_17 : decode cX7_undo 17 = .ok (.putfield 95, 3) := by decide +kernel
theorem dX7_undo_20 : decode cX7_undo 20 = .ok (.aload_n 0, 1) := by decide +kernel
theorem dX7_undo_21 : decode cX7_undo 21 = .ok (.aload_n 0, 1) := by decide +kernel
theorem dX7_undo_22 : decode cX7_undo 22 = .ok (.getfield 144, 3) := by decide +kernel
theorem dX7_undo_25 : decode cX7_undo 25 = .ok (.bipush 13, 2) := by decide +kernel
theorem dX7_undo_27 : decode cX7_undo 27 = .ok (.iadd, 1) := by decide +kernel
theorem dX7_undo_28 : decode cX7_undo 28 = .ok (.bipush 14, 2) := by decide +kernel
theorem dX7_undo_30 : decode cX7_undo 30 = .ok (.irem, 1) := by decide +kernel
theorem dX7_undo_31 : decode cX7_undo 31 = .ok (.putfield 144, 3) := by decide +kernel
theorem dX7_undo_34 : decode cX7_undo 34 = .ok (.iconst 0, 1) := by decide +kernel
theorem dX7_undo_35 : decode cX7_undo 35 = .ok (.istore_n 1, 1) := by decide +kernel
theorem dX7_undo_36 : decode cX7_undo 36 = .ok (.iload_n 1, 1) := by decide +kernel
theorem dX7_undo_37 : decode cX7_undo 37 = .ok (.bipush 7, 2) := by decide +kernel
theorem dX7_undo_39 : decode cX7_undo 39 = .ok (.if_icmp .ge 29, 3) := by decide +kernel
theorem dX7_undo_42 : decode cX7_undo 42 = .ok (.aload_n 0, 1) := by decide +kernel
theorem dX7_undo_43 : decode cX7_undo 43 = .ok (.getfield 16, 3) := by decide +kernel
theorem dX7_undo_46 : decode cX7_undo 46 = .ok (.iload_n 1, 1) := by decide +kernel
theorem dX7_undo_47 : decode cX7_undo 47 = .ok (.aload_n 0, 1) := by decide +kernel
theorem dX7_undo_48 : decode cX7_undo 48 = .ok (.getfield 35, 3) := by decide +kernel
theorem dX7_undo_51 : decode cX7_undo 51 = .ok (.bipush 7, 2) := by decide +kernel
theorem dX7_undo_53 : decode cX7_undo 53 = .ok (.aload_n 0, 1) := by decide +kernel
theorem dX7_undo_54 : decode cX7_undo 54 = .ok (.getfield 144, 3) := by decide +kernel
theorem dX7_undo_57 : decode cX7_undo 57 = .ok (.imul, 1) := by decide +kernel
theorem dX7_undo_58 : decode cX7_undo 58 = .ok (.iload_n 1, 1) := by decide +kernel
theorem dX7_undo_59 : decode cX7_undo 59 = .ok (.iadd, 1) := by decide +kernel
theorem dX7_undo_60 : decode cX7_undo 60 = .ok (.iaload, 1) := by decide +kernel
theorem dX7_undo_61 : decode cX7_undo 61 = .ok (.iastore, 1) := by decide +kernel
theorem dX7_undo_62 : decode cX7_undo 62 = .ok (.iinc 1 1, 3) := by decide +kernel
theorem dX7_undo_65 : decode cX7_undo 65 = .ok (.goto (-29), 3) := by decide +kernel
theorem dX7_undo_68 : decode cX7_undo 68 = .ok (.aload_n 0, 1) := by decide +kernel
theorem dX7_undo_69 : decode cX7_undo 69 = .ok (.getfield 95, 3) := by decide +kernel
theorem dX7_undo_72 : decode cX7_undo 72 = .ok (.ireturn, 1) := by decide +kernel
set_option maxRecDepth 20000 in
theorem ggX7_rolls_X7_isMarble : GoodIn wsX7_rolls wsX7_isMarble := goodIn_r _ [7, 8, 9, 10, 6, 11, 58, 59, 60, 61, 62, 63, 64, 65, 66, 67, 68, 69, 70, 71, 72, 73, 74, 75, 76, 77, 78, 79, 80, 81] (by decide +kernel) (by decide +kernel)
set_option maxRecDepth 20000 in
theorem gX7_rolls_X7_isMarble : GoodIn wsX7_rolls (wsV RX7 137 RX7 yX7_isMarble wsX7_isMarble) := goodIn_app (goodIn_of _ (by decide +kernel)) ggX7_rolls_X7_isMarble
set_option maxRecDepth 20000 in
theorem ggX7_rolls_X7_in : GoodIn wsX7_rolls wsX7_in := goodIn_r _ [11] (by decide +kernel) (by decide +kernel)
set_option maxRecDepth 20000 in
theorem gX7_rolls_X7_in : GoodIn wsX7_rolls (va_wsS RX7 56 yX7_in wsX7_in) := goodIn_app (goodIn_of _ (by decide +kernel)) ggX7_rolls_X7_in
set_option maxRecDepth 20000 in
theorem ggX7_rolls_X7_layTrial : GoodIn wsX7_rolls wsX7_layTrial := goodIn_r _ [15, 2, 58, 59, 60, 61, 62, 63, 64, 65, 66, 67, 68, 69, 70, 71, 72, 73, 74, 75, 76, 77, 78, 79, 80, 81] (by decide +kernel) (by decide +kernel)
set_option maxRecDepth 20000 in
theorem gX7_rolls_X7_layTrial : GoodIn wsX7_rolls (wsV RX7 131 RX7 yX7_layTrial wsX7_layTrial) := goodIn_app (goodIn_of _ (by decide +kernel)) ggX7_rolls_X7_layTrial
set_option maxRecDepth 20000 in
theorem ggX7_rolls_X7_tiltOn : GoodIn wsX7_rolls wsX7_tiltOn := goodIn_r _ [19, 20, 8, 21, 2, 22, 23, 24, 6, 25, 26, 27, 28, 29, 30, 31, 32, 33, 34, 35, 36, 37, 38, 39, 40, 41, 42, 43, 44, 45, 46, 47, 48, 49, 50, 51, 52, 53, 54, 55, 56, 57, 58, 59, 60, 61, 62, 63, 64, 65, 66, 67, 68, 69, 70, 71, 72, 73, 74, 75, 76, 77, 78, 79, 80, 81] (by decide +kernel) (by decide +kernel)
set_option maxRecDepth 20000 in
theorem gX7_rolls_X7_tiltOn : GoodIn wsX7_rolls (wsV RX7 134 RX7 yX7_tiltOn wsX7_tiltOn) := goodIn_app (goodIn_of _ (by decide +kernel)) ggX7_rolls_X7_tiltOn
theorem dX7_rolls_0 : decode cX7_rolls 0 = .ok (.aload_n 0, 1) := by decide +kernel
theorem dX7_rolls_1 : decode cX7_rolls 1 = .ok (.iload_n 1, 1) := by decide +kernel
theorem dX7_rolls_2 : decode cX7_rolls 2 = .ok (.invokevirtual 137, 3) := by decide +kernel
theorem dX7_rolls_5 : decode cX7_rolls 5 = .ok (.ifCond .ne 5, 3) := by decide +kernel
theorem dX7_rolls_8 : decode cX7_rolls 8 = .ok (.iconst (-1), 1) := by decide +kernel
theorem dX7_rolls_9 : decode cX7_rolls 9 = .ok (.ireturn, 1) := by decide +kernel
theorem dX7_rolls_10 : decode cX7_rolls 10 = .ok (.iload_n 2, 1) := by decide +kernel
theorem dX7_rolls_11 : decode cX7_rolls 11 = .ok (.i2l, 1) := by decide +kernel
theorem dX7_rolls_12 : decode cX7_rolls 12 = .ok (.lconst 0, 1) := by decide +kernel
theorem dX7_rolls_13 : decode cX7_rolls 13 = .ok (.ldc2_w 86, 3) := by decide +kernel
theorem dX7_rolls_16 : decode cX7_rolls 16 = .ok (.invokestatic 56, 3) := by decide +kernel
theorem dX7_rolls_19 : decode cX7_rolls 19 = .ok (.ifCond .ne 6, 3) := by decide +kernel
theorem dX7_rolls_22 : decode cX7_rolls 22 = .ok (.bipush (-2), 2) := by decide +kernel
theorem dX7_rolls_24 : decode cX7_rolls 24 = .ok (.ireturn, 1) := by decide +kernel
theorem dX7_rolls_25 : decode cX7_rolls 25 = .ok (.aload_n 0, 1) := by decide +kernel
theorem dX7_rolls_26 : decode cX7_rolls 26 = .ok (.invokevirtual 131, 3) := by decide +kernel
theorem dX7_rolls_29 : decode cX7_rolls 29 = .ok (.aload_n 0, 1) := by decide +kernel
theorem dX7_rolls_30 : decode cX7_rolls 30 = .ok (.iconst 1, 1) := by decide +kernel
theorem dX7_rolls_31 : decode cX7_rolls 31 = .ok (.iload_n 2, 1) := by decide +kernel
theorem dX7_rolls_32 : decode cX7_rolls 32 = .ok (.invokevirtual 134, 3) := by decide +kernel
theorem dX7_rolls_35 : decode cX7_rolls 35 = .ok (.pop, 1) := by decide +kernel
theorem dX7_rolls_36 : decode cX7_rolls 36 = .ok (.aload_n 0, 1) := by decide +kernel
theorem dX7_rolls_37 : decode cX7_rolls 37 = .ok (.getfield 16, 3) := by decide +kernel
theorem dX7_rolls_40 : decode cX7_rolls 40 = .ok (.bipush 7, 2) := by decide +kernel
theorem dX7_rolls_42 : decode cX7_rolls 42 = .ok (.iload_n 1, 1) := by decide +kernel
theorem dX7_rolls_43 : decode cX7_rolls 43 = .ok (.iadd, 1) := by decide +kernel
theorem dX7_rolls_44 : decode cX7_rolls 44 = .ok (.iaload, 1) := by decide +kernel
theorem dX7_rolls_45 : decode cX7_rolls 45 = .ok (.ireturn, 1) := by decide +kernel
set_option maxRecDepth 20000 in
theorem ggX7_safe_X7_layTrial : GoodIn wsX7_safe wsX7_layTrial := goodIn_r _ [5, 6, 50, 51, 52, 53, 54, 55, 56, 57, 58, 59, 60, 61, 62, 63, 64, 65, 66, 67, 68, 69, 70, 71, 72, 73] (by decide +kernel) (by decide +kernel)
set_option maxRecDepth 20000 in
theorem gX7_safe_X7_layTrial : GoodIn wsX7_safe (wsV RX7 131 RX7 yX7_layTrial wsX7_layTrial) := goodIn_app (goodIn_of _ (by decide +kernel)) ggX7_safe_X7_layTrial
set_option maxRecDepth 20000 in
theorem ggX7_safe_X7_tiltOn : GoodIn wsX7_safe wsX7_tiltOn := goodIn_r _ [10, 11, 12, 13, 6, 14, 15, 16, 4, 17, 18, 19, 20, 21, 22, 23, 24, 25, 26, 27, 28, 29, 30, 31, 32, 33, 34, 35, 36, 37, 38, 39, 40, 41, 42, 43, 44, 45, 46, 47, 48, 49, 50, 51, 52, 53, 54, 55, 56, 57, 58, 59, 60, 61, 62, 63, 64, 65, 66, 67, 68, 69, 70, 71, 72, 73] (by decide +kernel) (by decide +kernel)
set_option maxRecDepth 20000 in
theorem gX7_safe_X7_tiltOn : GoodIn wsX7_safe (wsV RX7 134 RX7 yX7_tiltOn wsX7_tiltOn) := goodIn_app (goodIn_of _ (by decide +kernel)) ggX7_safe_X7_tiltOn
theorem dX7_safe_0 : decode cX7_safe 0 = .ok (.iconst 0, 1) := by decide +kernel
theorem dX7_safe_1 : decode cX7_safe 1 = .ok (.istore_n 1, 1) := by decide +kernel
theorem dX7_safe_2 : decode cX7_safe 2 = .ok (.iconst 0, 1) := by decide +kernel
theorem dX7_safe_3 : decode cX7_safe 3 = .ok (.istore_n 2, 1) := by decide +kernel
theorem dX7_safe_4 : decode cX7_safe 4 = .ok (.iload_n 2, 1) := by decide +kernel
theorem dX7_safe_5 : decode cX7_safe 5 = .ok (.iconst 4, 1) := by decide +kernel
theorem dX7_safe_6 : decode cX7_safe 6 = .ok (.if_icmp .ge 32, 3) := by decide +kernel
theorem dX7_safe_9 : decode cX7_safe 9 = .ok (.aload_n 0, 1) := by decide +kernel
theorem dX7_safe_10 : decode cX7_safe 10 = .ok (.invokevirtual 131, 3) := by decide +kernel
theorem dX7_safe_13 : decode cX7_safe 13 = .ok (.iload_n 1, 1) := by decide +kernel
theorem dX7_safe_14 : decode cX7_safe 14 = .ok (.aload_n 0, 1) := by decide +kernel
theorem dX7_safe_15 : decode cX7_safe 15 = .ok (.iconst 1, 1) := by decide +kernel
theorem dX7_safe_16 : decode cX7_safe 16 = .ok (.iload_n 2, 1) := by decide +kernel
theorem dX7_safe_17 : decode cX7_safe 17 = .ok (.invokevirtual 134, 3) := by decide +kernel
theorem dX7_safe_20 : decode cX7_safe 20 = .ok (.ifCond .ne 9, 3) := by decide +kernel
theorem dX7_safe_23 : decode cX7_safe 23 = .ok (.iconst 1, 1) := by decide +kernel
theorem dX7_safe_24 : decode cX7_safe 24 = .ok (.iload_n 2, 1) := by decide +kernel
theorem dX7_safe_25 : decode cX7_safe 25 = .ok (.ishl, 1) := by decide +kernel
theorem dX7_safe_26 : decode cX7_safe 26 = .ok (.goto 4, 3) := by decide +kernel
theorem dX7_safe_29 : decode cX7_safe 29 = .ok (.iconst 0, 1) := by decide +kernel
theorem dX7_safe_30 : decode cX7_safe 30 = .ok (.ior, 1) := by decide +kernel
theorem dX7_safe_31 : decode cX7_safe 31 = .ok (.istore_n 1, 1) := by decide +kernel
theorem dX7_safe_32 : decode cX7_safe 32 = .ok (.iinc 2 1, 3) := by decide +kernel
theorem dX7_safe_35 : decode cX7_safe 35 = .ok (.goto (-31), 3) := by decide +kernel
theorem dX7_safe_38 : decode cX7_safe 38 = .ok (.iload_n 1, 1) := by decide +kernel
theorem dX7_safe_39 : decode cX7_safe 39 = .ok (.ireturn, 1) := by decide +kernel
theorem dX7_power_0 : decode cX7_power 0 = .ok (.iconst 1, 1) := by decide +kernel
theorem dX7_power_1 : decode cX7_power 1 = .ok (.istore_n 2, 1) := by decide +kernel
theorem dX7_power_2 : decode cX7_power 2 = .ok (.iconst 0, 1) := by decide +kernel
theorem dX7_power_3 : decode cX7_power 3 = .ok (.istore_n 3, 1) := by decide +kernel
theorem dX7_power_4 : decode cX7_power 4 = .ok (.iload_n 3, 1) := by decide +kernel
theorem dX7_power_5 : decode cX7_power 5 = .ok (.iload_n 1, 1) := by decide +kernel
theorem dX7_power_6 : decode cX7_power 6 = .ok (.if_icmp .ge 13, 3) := by decide +kernel
theorem dX7_power_9 : decode cX7_power 9 = .ok (.iload_n 2, 1) := by decide +kernel
theorem dX7_power_10 : decode cX7_power 10 = .ok (.iload_n 0, 1) := by decide +kernel
theorem dX7_power_11 : decode cX7_power 11 = .ok (.imul, 1) := by decide +kernel
theorem dX7_power_12 : decode cX7_power 12 = .ok (.istore_n 2, 1) := by decide +kernel
theorem dX7_power_13 : decode cX7_power 13 = .ok (.iinc 3 1, 3) := by decide +kernel
theorem dX7_power_16 : decode cX7_power 16 = .ok (.goto (-12), 3) := by decide +kernel
theorem dX7_power_19 : decode cX7_power 19 = .ok (.iload_n 2, 1) := by decide +kernel
theorem dX7_power_20 : decode cX7_power 20 = .ok (.ireturn, 1) := by decide +kernel
set_option maxRecDepth 20000 in
theorem ggX7_tiltRow_X7_layTrial : GoodIn wsX7_tiltRow wsX7_layTrial := goodIn_r _ [5, 6, 53, 54, 55, 56, 57, 58, 59, 60, 61, 62, 63, 64, 65, 66, 67, 68, 69, 70, 71, 72, 73, 74, 75, 76] (by decide +kernel) (by decide +kernel)
set_option maxRecDepth 20000 in
theorem gX7_tiltRow_X7_layTrial : GoodIn wsX7_tiltRow (wsV RX7 131 RX7 yX7_layTrial wsX7_layTrial) := goodIn_app (goodIn_of _ (by decide +kernel)) ggX7_tiltRow_X7_layTrial
set_option maxRecDepth 20000 in
theorem ggX7_tiltRow_X7_has : GoodIn wsX7_tiltRow wsX7_has := goodIn_r _ [9] (by decide +kernel) (by decide +kernel)
set_option maxRecDepth 20000 in
theorem gX7_tiltRow_X7_has : GoodIn wsX7_tiltRow (va_wsS RX7 82 yX7_has wsX7_has) := goodIn_app (goodIn_of _ (by decide +kernel)) ggX7_tiltRow_X7_has
set_option maxRecDepth 20000 in
theorem ggX7_tiltRow_X7_power : GoodIn wsX7_tiltRow wsX7_power := goodIn_r _ [12] (by decide +kernel) (by decide +kernel)
set_option maxRecDepth 20000 in
theorem gX7_tiltRow_X7_power : GoodIn wsX7_tiltRow (va_wsS RX7 153 yX7_power wsX7_power) := goodIn_app (goodIn_of _ (by decide +kernel)) ggX7_tiltRow_X7_power
set_option maxRecDepth 20000 in
theorem ggX7_tiltRow_X7_tiltOn : GoodIn wsX7_tiltRow wsX7_tiltOn := goodIn_r _ [16, 17, 18, 19, 6, 20, 21, 22, 4, 23, 24, 7, 8, 9, 25, 26, 27, 28, 29, 30, 31, 32, 33, 34, 35, 36, 37, 38, 39, 40, 41, 42, 43, 44, 45, 46, 47, 48, 49, 50, 51, 52, 53, 54, 55, 56, 57, 58, 59, 60, 61, 62, 63, 64, 65, 66, 67, 68, 69, 70, 71, 72, 73, 74, 75, 76] (by decide +kernel) (by decide +kernel)
set_option maxRecDepth 20000 in
theorem gX7_tiltRow_X7_tiltOn : GoodIn wsX7_tiltRow (wsV RX7 134 RX7 yX7_tiltOn wsX7_tiltOn) := goodIn_app (goodIn_of _ (by decide +kernel)) ggX7_tiltRow_X7_tiltOn
theorem dX7_tiltRow_0 : decode cX7_tiltRow 0 = .ok (.aload_n 0, 1) := by decide +kernel
theorem dX7_tiltRow_1 : decode cX7_tiltRow 1 = .ok (.invokevirtual 131, 3) := by decide +kernel
theorem dX7_tiltRow_4 : decode cX7_tiltRow 4 = .ok (.iconst 0, 1) := by decide +kernel
theorem dX7_tiltRow_5 : decode cX7_tiltRow 5 = .ok (.istore 4, 2) := by decide +kernel
theorem dX7_tiltRow_7 : decode cX7_tiltRow 7 = .ok (.iload 4, 2) := by decide +kernel
theorem dX7_tiltRow_9 : decode cX7_tiltRow 9 = .ok (.iload_n 1, 1) := by decide +kernel
theorem dX7_tiltRow_10 : decode cX7_tiltRow 10 = .ok (.if_icmp .ge 38, 3) := by decide +kernel
theorem dX7_tiltRow_13 : decode cX7_tiltRow 13 = .ok (.iload_n 3, 1) := by decide +kernel
theorem dX7_tiltRow_14 : decode cX7_tiltRow 14 = .ok (.iload 4, 2) := by decide +kernel
theorem dX7_tiltRow_16 : decode cX7_tiltRow 16 = .ok (.invokestatic 82, 3) := by decide +kernel
theorem dX7_tiltRow_19 : decode cX7_tiltRow 19 = .ok (.ifCond .ne 23, 3) := by decide +kernel
theorem dX7_tiltRow_22 : decode cX7_tiltRow 22 = .ok (.aload_n 0, 1) := by decide +kernel
theorem dX7_tiltRow_23 : decode cX7_tiltRow 23 = .ok (.iconst 1, 1) := by decide +kernel
theorem dX7_tiltRow_24 : decode cX7_tiltRow 24 = .ok (.iload_n 2, 1) := by decide +kernel
theorem dX7_tiltRow_25 : decode cX7_tiltRow 25 = .ok (.iconst 4, 1) := by decide +kernel
theorem dX7_tiltRow_26 : decode cX7_tiltRow 26 = .ok (.iload_n 1, 1) := by decide +kernel
theorem dX7_tiltRow_27 : decode cX7_tiltRow 27 = .ok (.iconst 1, 1) := by decide +kernel
theorem dX7_tiltRow_28 : decode cX7_tiltRow 28 = .ok (.isub, 1) := by decide +kernel
theorem dX7_tiltRow_29 : decode cX7_tiltRow 29 = .ok (.iload 4, 2) := by decide +kernel
theorem dX7_tiltRow_31 : decode cX7_tiltRow 31 = .ok (.isub, 1) := by decide +kernel
theorem dX7_tiltRow_32 : decode cX7_tiltRow 32 = .ok (.invokestatic 153, 3) := by decide +kernel
theorem dX7_tiltRow_35 : decode cX7_tiltRow 35 = .ok (.idiv, 1) := by decide +kernel
theorem dX7_tiltRow_36 : decode cX7_tiltRow 36 = .ok (.iconst 4, 1) := by decide +kernel
theorem dX7_tiltRow_37 : decode cX7_tiltRow 37 = .ok (.irem, 1) := by decide +kernel
theorem dX7_tiltRow_38 : decode cX7_tiltRow 38 = .ok (.invokevirtual 134, 3) := by decide +kernel
theorem dX7_tiltRow_41 : decode cX7_tiltRow 41 = .ok (.pop, 1) := by decide +kernel
theorem dX7_tiltRow_42 : decode cX7_tiltRow 42 = .ok (.iinc 4 1, 3) := by decide +kernel
theorem dX7_tiltRow_45 : decode cX7_tiltRow 45 = .ok (.goto (-38), 3) := by decide +kernel
theorem dX7_tiltRow_48 : decode cX7_tiltRow 48 = .ok (.return_, 1) := by decide +kernel
set_option maxRecDepth 20000 in
theorem ggX7_figuresOf_X7_power : GoodIn wsX7_figuresOf wsX7_power := goodIn_r _ [4] (by decide +kernel) (by decide +kernel)
set_option maxRecDepth 20000 in
theorem gX7_figuresOf_X7_power : GoodIn wsX7_figuresOf (va_wsS RX7 153 yX7_power wsX7_power) := goodIn_app (goodIn_of _ (by decide +kernel)) ggX7_figuresOf_X7_power
theorem dX7_figuresOf_0 : decode cX7_figuresOf 0 = .ok (.iconst 0, 1) := by decide +kernel
theorem dX7_figuresOf_1 : decode cX7_figuresOf 1 = .ok (.istore_n 2, 1) := by decide +kernel
theorem dX7_figuresOf_2 : decode cX7_figuresOf 2 = .ok (.iconst 0, 1) := by decide +kernel
theorem dX7_figuresOf_3 : decode cX7_figuresOf 3 = .ok (.istore_n 3, 1) := by decide +kernel
theorem dX7_figuresOf_4 : decode cX7_figuresOf 4 = .ok (.iload_n 3, 1) := by decide +kernel
theorem dX7_figuresOf_5 : decode cX7_figuresOf 5 = .ok (.iload_n 0, 1) := by decide +kernel
theorem dX7_figuresOf_6 : decode cX7_figuresOf 6 = .ok (.if_icmp .ge 30, 3) := by decide +kernel
theorem dX7_figuresOf_9 : decode cX7_figuresOf 9 = .ok (.bipush 10, 2) := by decide +kernel
theorem dX7_figuresOf_11 : decode cX7_figuresOf 11 = .ok (.iload_n 2, 1) := by decide +kernel
theorem dX7_figuresOf_12 : decode cX7_figuresOf 12 = .ok (.imul, 1) := by decide +kernel
theorem dX7_figuresOf_13 : decode cX7_figuresOf 13 = .ok (.iload_n 1, 1) := by decide +kernel
theorem dX7_figuresOf_14 : decode cX7_figuresOf 14 = .ok (.iconst 4, 1) := by decide +kernel
theorem dX7_figuresOf_15 : decode cX7_figuresOf 15 = .ok (.iload_n 0, 1) := by decide +kernel
theorem dX7_figuresOf_16 : decode cX7_figuresOf 16 = .ok (.iconst 1, 1) := by decide +kernel
theorem dX7_figuresOf_17 : decode cX7_figuresOf 17 = .ok (.isub, 1) := by decide +kernel
theorem dX7_figuresOf_18 : decode cX7_figuresOf 18 = .ok (.iload_n 3, 1) := by decide +kernel
theorem dX7_figuresOf_19 : decode cX7_figuresOf 19 = .ok (.isub, 1) := by decide +kernel
theorem dX7_figuresOf_20 : decode cX7_figuresOf 20 = .ok (.invokestatic 153, 3) := by decide +kernel
theorem dX7_figuresOf_23 : decode cX7_figuresOf 23 = .ok (.idiv, 1) := by decide +kernel
theorem dX7_figuresOf_24 : decode cX7_figuresOf 24 = .ok (.iconst 4, 1) := by decide +kernel
theorem dX7_figuresOf_25 : decode cX7_figuresOf 25 = .ok (.irem, 1) := by decide +kernel
theorem dX7_figuresOf_26 : decode cX7_figuresOf 26 = .ok (.iadd, 1) := by decide +kernel
theorem dX7_figuresOf_27 : decode cX7_figuresOf 27 = .ok (.iconst 1, 1) := by decide +kernel
theorem dX7_figuresOf_28 : decode cX7_figuresOf 28 = .ok (.iadd, 1) := by decide +kernel
theorem dX7_figuresOf_29 : decode cX7_figuresOf 29 = .ok (.istore_n 2, 1) := by decide +kernel
theorem dX7_figuresOf_30 : decode cX7_figuresOf 30 = .ok (.iinc 3 1, 3) := by decide +kernel
theorem dX7_figuresOf_33 : decode cX7_figuresOf 33 = .ok (.goto (-29), 3) := by decide +kernel
theorem dX7_figuresOf_36 : decode cX7_figuresOf 36 = .ok (.iload_n 2, 1) := by decide +kernel
theorem dX7_figuresOf_37 : decode cX7_figuresOf 37 = .ok (.ireturn, 1) := by decide +kernel
set_option maxRecDepth 20000 in
theorem ggX7_fewest_X7_isMarble : GoodIn wsX7_fewest wsX7_isMarble := goodIn_r _ [6, 7, 8, 9, 5, 10, 67, 68, 69, 70, 71, 72, 73, 74, 75, 76, 77, 78, 79, 80, 81, 82, 83, 84, 85, 86, 87, 88, 89, 90] (by decide +kernel) (by decide +kernel)
set_option maxRecDepth 20000 in
theorem gX7_fewest_X7_isMarble : GoodIn wsX7_fewest (wsV RX7 137 RX7 yX7_isMarble wsX7_isMarble) := goodIn_app (goodIn_of _ (by decide +kernel)) ggX7_fewest_X7_isMarble
set_option maxRecDepth 20000 in
theorem ggX7_fewest_X7_power : GoodIn wsX7_fewest wsX7_power := goodIn_r _ [13] (by decide +kernel) (by decide +kernel)
set_option maxRecDepth 20000 in
theorem gX7_fewest_X7_power : GoodIn wsX7_fewest (va_wsS RX7 153 yX7_power wsX7_power) := goodIn_app (goodIn_of _ (by decide +kernel)) ggX7_fewest_X7_power
set_option maxRecDepth 20000 in
theorem ggX7_fewest_X7_tiltRow : GoodIn wsX7_fewest wsX7_tiltRow := goodIn_r _ [17, 18, 19, 20, 5, 21, 1, 22, 23, 24, 11, 12, 13, 25, 26, 27, 28, 29, 7, 30, 31, 32, 33, 34, 35, 36, 37, 38, 39, 40, 41, 42, 43, 44, 45, 46, 47, 48, 49, 50, 51, 52, 53, 54, 55, 56, 57, 58, 59, 60, 61, 62, 63, 67, 68, 69, 70, 71, 72, 73, 74, 75, 76, 77, 78, 79, 80, 81, 82, 83, 84, 85, 86, 87, 88, 89, 90] (by decide +kernel) (by decide +kernel)
set_option maxRecDepth 20000 in
theorem gX7_fewest_X7_tiltRow : GoodIn wsX7_fewest (wsV RX7 156 RX7 yX7_tiltRow wsX7_tiltRow) := goodIn_app (goodIn_of _ (by decide +kernel)) ggX7_fewest_X7_tiltRow
set_option maxRecDepth 20000 in
theorem ggX7_fewest_X7_figuresOf : GoodIn wsX7_fewest wsX7_figuresOf := goodIn_r _ [66, 11, 12, 5, 13] (by decide +kernel) (by decide +kernel)
set_option maxRecDepth 20000 in
theorem gX7_fewest_X7_figuresOf : GoodIn wsX7_fewest (va_wsS RX7 160 yX7_figuresOf wsX7_figuresOf) := goodIn_app (goodIn_of _ (by decide +kernel)) ggX7_fewest_X7_figuresOf
theorem dX7_fewest_0 : decode cX7_fewest 0 = .ok (.aload_n 0, 1) := by decide +kernel
theorem dX7_fewest_1 : decode cX7_fewest 1 = .ok (.iload_n 1, 1) := by decide +kernel
theorem dX7_fewest_2 : decode cX7_fewest 2 = .ok (.invokevirtual 137, 3) := by decide +kernel
theorem dX7_fewest_5 : decode cX7_fewest 5 = .ok (.ifCond .ne 5, 3) := by decide +kernel
theorem dX7_fewest_8 : decode cX7_fewest 8 = .ok (.iconst (-1), 1) := by decide +kernel
theorem dX7_fewest_9 : decode cX7_fewest 9 = .ok (.ireturn, 1) := by decide +kernel
theorem dX7_fewest_10 : decode cX7_fewest 10 = .ok (.iconst 0, 1) := by decide +kernel
theorem dX7_fewest_11 : decode cX7_fewest 11 = .ok (.istore_n 3, 1) := by decide +kernel
theorem dX7_fewest_12 : decode cX7_fewest 12 = .ok (.iload_n 3, 1) := by decide +kernel
theorem dX7_fewest_13 : decode cX7_fewest 13 = .ok (.bipush 6, 2) := by decide +kernel
theorem dX7_fewest_15 : decode cX7_fewest 15 = .ok (.if_icmp .ge 65, 3) := by decide +kernel
theorem dX7_fewest_18 : decode cX7_fewest 18 = .ok (.iconst 0, 1) := by decide +kernel
theorem dX7_fewest_19 : decode cX7_fewest 19 = .ok (.istore 4, 2) := by decide +kernel
theorem dX7_fewest_21 : decode cX7_fewest 21 = .ok (.iload 4, 2) := by decide +kernel
theorem dX7_fewest_23 : decode cX7_fewest 23 = .ok (.iconst 4, 1) := by decide +kernel
theorem dX7_fewest_24 : decode cX7_fewest 24 = .ok (.iload_n 3, 1) := by decide +kernel
theorem dX7_fewest_25 : decode cX7_fewest 25 = .ok (.invokestatic 153, 3) := by decide +kernel
theorem dX7_fewest_28 : decode cX7_fewest 28 = .ok (.if_icmp .ge 46, 3) := by decide +kernel
theorem dX7_fewest_31 : decode cX7_fewest 31 = .ok (.aload_n 0, 1) := by decide +kernel
theorem dX7_fewest_32 : decode cX7_fewest 32 = .ok (.iload_n 3, 1) := by decide +kernel
theorem dX7_fewest_33 : decode cX7_fewest 33 = .ok (.iload 4, 2) := by decide +kernel
theorem dX7_fewest_35 : decode cX7_fewest 35 = .ok (.iconst 0, 1) := by decide +kernel
theorem dX7_fewest_36 : decode cX7_fewest 36 = .ok (.invokevirtual 156, 3) := by decide +kernel
theorem dX7_fewest_39 : decode cX7_fewest 39 = .ok (.aload_n 0, 1) := by decide +kernel
theorem dX7_fewest_40 : decode cX7_fewest 40 = .ok (.getfield 16, 3) := by decide +kernel
theorem dX7_fewest_43 : decode cX7_fewest 43 = .ok (.bipush 7, 2) := by decide +kernel
theorem dX7_fewest_45 : decode cX7_fewest 45 = .ok (.iload_n 1, 1) := by decide +kernel
theorem dX7_fewest_46 : decode cX7_fewest 46 = .ok (.iadd, 1) := by decide +kernel
theorem dX7_fewest_47 : decode cX7_fewest 47 = .ok (.iaload, 1) := by decide +kernel
theorem dX7_fewest_48 : decode cX7_fewest 48 = .ok (.bipush 100, 2) := by decide +kernel
theorem dX7_fewest_50 : decode cX7_fewest 50 = .ok (.if_icmp .lt 18, 3) := by decide +kernel
theorem dX7_fewest_53 : decode cX7_fewest 53 = .ok (.iload_n 2, 1) := by decide +kernel
theorem dX7_fewest_54 : decode cX7_fewest 54 = .ok (.ifCond .eq 12, 3) := by decide +kernel
theorem dX7_fewest_57 : decode cX7_fewest 57 = .ok (.iload_n 3, 1) := by decide +kernel
theorem dX7_fewest_58 : decode cX7_fewest 58 = .ok (.iload 4, 2) := by decide +kernel
theorem dX7_fewest_60 : decode cX7_fewest 60 = .ok (.invokestatic 160, 3) := by decide +kernel
theorem dX7_fewest_63 : decode cX7_fewest 63 = .ok (.goto 4, 3) := by decide +kernel
theorem dX7_fewest_66 : decode cX7_fewest 66 = .ok (.iload_n 3, 1) := by decide +kernel
theorem dX7_fewest_67 : decode cX7_fewest 67 = .ok (.ireturn, 1) := by decide +kernel
theorem dX7_fewest_68 : decode cX7_fewest 68 = .ok (.iinc 4 1, 3) := by decide +kernel
theorem dX7_fewest_71 : decode cX7_fewest 71 = .ok (.goto (-50), 3) := by decide +kernel
theorem dX7_fewest_74 : decode cX7_fewest 74 = .ok (.iinc 3 1, 3) := by decide +kernel
theorem dX7_fewest_77 : decode cX7_fewest 77 = .ok (.goto (-65), 3) := by decide +kernel
theorem dX7_fewest_80 : decode cX7_fewest 80 = .ok (.bipush (-9), 2) := by decide +kernel
theorem dX7_fewest_82 : decode cX7_fewest 82 = .ok (.ireturn, 1) := by decide +kernel
set_option maxRecDepth 20000 in
theorem ggX7_reach_X7_isMarble : GoodIn wsX7_reach wsX7_isMarble := goodIn_r _ [6, 7, 8, 9, 5, 10, 64, 65, 66, 67, 68, 69, 70, 71, 72, 73, 74, 75, 76, 77, 78, 79, 80, 81, 82, 83, 84, 85, 86, 87] (by decide +kernel) (by decide +kernel)
set_option maxRecDepth 20000 in
theorem gX7_reach_X7_isMarble : GoodIn wsX7_reach (wsV RX7 137 RX7 yX7_isMarble wsX7_isMarble) := goodIn_app (goodIn_of _ (by decide +kernel)) ggX7_reach_X7_isMarble
set_option maxRecDepth 20000 in
theorem ggX7_reach_X7_power : GoodIn wsX7_reach wsX7_power := goodIn_r _ [13] (by decide +kernel) (by decide +kernel)
set_option maxRecDepth 20000 in
theorem gX7_reach_X7_power : GoodIn wsX7_reach (va_wsS RX7 153 yX7_power wsX7_power) := goodIn_app (goodIn_of _ (by decide +kernel)) ggX7_reach_X7_power
set_option maxRecDepth 20000 in
theorem ggX7_reach_X7_tiltRow : GoodIn wsX7_reach wsX7_tiltRow := goodIn_r _ [17, 18, 19, 20, 5, 21, 1, 22, 23, 24, 11, 12, 13, 25, 26, 27, 28, 29, 7, 30, 31, 32, 33, 34, 35, 36, 37, 38, 39, 40, 41, 42, 43, 44, 45, 46, 47, 48, 49, 50, 51, 52, 53, 54, 55, 56, 57, 58, 59, 60, 61, 62, 63, 64, 65, 66, 67, 68, 69, 70, 71, 72, 73, 74, 75, 76, 77, 78, 79, 80, 81, 82, 83, 84, 85, 86, 87] (by decide +kernel) (by decide +kernel)
set_option maxRecDepth 20000 in
theorem gX7_reach_X7_tiltRow : GoodIn wsX7_reach (wsV RX7 156 RX7 yX7_tiltRow wsX7_tiltRow) := goodIn_app (goodIn_of _ (by decide +kernel)) ggX7_reach_X7_tiltRow
theorem dX7_reach_0 : decode cX7_reach 0 = .ok (.aload_n 0, 1) := by decide +kernel
theorem dX7_reach_1 : decode cX7_reach 1 = .ok (.iload_n 1, 1) := by decide +kernel
theorem dX7_reach_2 : decode cX7_reach 2 = .ok (.invokevirtual 137, 3) := by decide +kernel
theorem dX7_reach_5 : decode cX7_reach 5 = .ok (.ifCond .ne 5, 3) := by decide +kernel
theorem dX7_reach_8 : decode cX7_reach 8 = .ok (.iconst (-1), 1) := by decide +kernel
theorem dX7_reach_9 : decode cX7_reach 9 = .ok (.ireturn, 1) := by decide +kernel
theorem dX7_reach_10 : decode cX7_reach 10 = .ok (.iconst 0, 1) := by decide +kernel
theorem dX7_reach_11 : decode cX7_reach 11 = .ok (.istore_n 2, 1) := by decide +kernel
theorem dX7_reach_12 : decode cX7_reach 12 = .ok (.iconst 0, 1) := by decide +kernel
theorem dX7_reach_13 : decode cX7_reach 13 = .ok (.istore_n 3, 1) := by decide +kernel
theorem dX7_reach_14 : decode cX7_reach 14 = .ok (.iload_n 3, 1) := by decide +kernel
theorem dX7_reach_15 : decode cX7_reach 15 = .ok (.iconst 5, 1) := by decide +kernel
theorem dX7_reach_16 : decode cX7_reach 16 = .ok (.if_icmp .ge 68, 3) := by decide +kernel
theorem dX7_reach_19 : decode cX7_reach 19 = .ok (.iconst 0, 1) := by decide +kernel
theorem dX7_reach_20 : decode cX7_reach 20 = .ok (.istore 4, 2) := by decide +kernel
theorem dX7_reach_22 : decode cX7_reach 22 = .ok (.iload 4, 2) := by decide +kernel
theorem dX7_reach_24 : decode cX7_reach 24 = .ok (.iconst 4, 1) := by decide +kernel
theorem dX7_reach_25 : decode cX7_reach 25 = .ok (.iload_n 3, 1) := by decide +kernel
theorem dX7_reach_26 : decode cX7_reach 26 = .ok (.invokestatic 153, 3) := by decide +kernel
theorem dX7_reach_29 : decode cX7_reach 29 = .ok (.if_icmp .ge 49, 3) := by decide +kernel
theorem dX7_reach_32 : decode cX7_reach 32 = .ok (.aload_n 0, 1) := by decide +kernel
theorem dX7_reach_33 : decode cX7_reach 33 = .ok (.iload_n 3, 1) := by decide +kernel
theorem dX7_reach_34 : decode cX7_reach 34 = .ok (.iload 4, 2) := by decide +kernel
theorem dX7_reach_36 : decode cX7_reach 36 = .ok (.iconst 0, 1) := by decide +kernel
theorem dX7_reach_37 : decode cX7_reach 37 = .ok (.invokevirtual 156, 3) := by decide +kernel
theorem dX7_reach_40 : decode cX7_reach 40 = .ok (.iload_n 2, 1) := by decide +kernel
theorem dX7_reach_41 : decode cX7_reach 41 = .ok (.aload_n 0, 1) := by decide +kernel
theorem dX7_reach_42 : decode cX7_reach 42 = .ok (.getfield 16, 3) := by decide +kernel
theorem dX7_reach_45 : decode cX7_reach 45 = .ok (.bipush 7, 2) := by decide +kernel
theorem dX7_reach_47 : decode cX7_reach 47 = .ok (.iload_n 1, 1) := by decide +kernel
theorem dX7_reach_48 : decode cX7_reach 48 = .ok (.iadd, 1) := by decide +kernel
theorem dX7_reach_49 : decode cX7_reach 49 = .ok (.iaload, 1) := by decide +kernel
theorem dX7_reach_50 : decode cX7_reach 50 = .ok (.bipush 100, 2) := by decide +kernel
theorem dX7_reach_52 : decode cX7_reach 52 = .ok (.if_icmp .ge 17, 3) := by decide +kernel
theorem dX7_reach_55 : decode cX7_reach 55 = .ok (.iconst 1, 1) := by decide +kernel
theorem dX7_reach_56 : decode cX7_reach 56 = .ok (.aload_n 0, 1) := by decide +kernel
theorem dX7_reach_57 : decode cX7_reach 57 = .ok (.getfield 16, 3) := by decide +kernel
theorem dX7_reach_60 : decode cX7_reach 60 = .ok (.bipush 7, 2) := by decide +kernel
theorem dX7_reach_62 : decode cX7_reach 62 = .ok (.iload_n 1, 1) := by decide +kernel
theorem dX7_reach_63 : decode cX7_reach 63 = .ok (.iadd, 1) := by decide +kernel
theorem dX7_reach_64 : decode cX7_reach 64 = .ok (.iaload, 1) := by decide +kernel
theorem dX7_reach_65 : decode cX7_reach 65 = .ok (.ishl, 1) := by decide +kernel
theorem dX7_reach_66 : decode cX7_reach 66 = .ok (.goto 4, 3) := by decide +kernel
theorem dX7_reach_69 : decode cX7_reach 69 = .ok (.iconst 0, 1) := by decide +kernel
theorem dX7_reach_70 : decode cX7_reach 70 = .ok (.ior, 1) := by decide +kernel
theorem dX7_reach_71 : decode cX7_reach 71 = .ok (.istore_n 2, 1) := by decide +kernel
theorem dX7_reach_72 : decode cX7_reach 72 = .ok (.iinc 4 1, 3) := by decide +kernel
theorem dX7_reach_75 : decode cX7_reach 75 = .ok (.goto (-53), 3) := by decide +kernel
theorem dX7_reach_78 : decode cX7_reach 78 = .ok (.iinc 3 1, 3) := by decide +kernel
theorem dX7_reach_81 : decode cX7_reach 81 = .ok (.goto (-67), 3) := by decide +kernel
theorem dX7_reach_84 : decode cX7_reach 84 = .ok (.iload_n 2, 1) := by decide +kernel
theorem dX7_reach_85 : decode cX7_reach 85 = .ok (.ireturn, 1) := by decide +kernel
set_option maxRecDepth 20000 in
theorem ggX7_bestOf_X7_power : GoodIn wsX7_bestOf wsX7_power := goodIn_r _ [5] (by decide +kernel) (by decide +kernel)
set_option maxRecDepth 20000 in
theorem gX7_bestOf_X7_power : GoodIn wsX7_bestOf (va_wsS RX7 153 yX7_power wsX7_power) := goodIn_app (goodIn_of _ (by decide +kernel)) ggX7_bestOf_X7_power
set_option maxRecDepth 20000 in
theorem ggX7_bestOf_X7_tiltRow : GoodIn wsX7_bestOf wsX7_tiltRow := goodIn_r _ [9, 10, 11, 12, 4, 13, 14, 15, 16, 17, 2, 3, 5, 18, 19, 20, 21, 22, 23, 24, 25, 26, 27, 28, 29, 30, 31, 32, 33, 34, 35, 36, 37, 38, 39, 40, 41, 42, 43, 44, 45, 46, 47, 48, 49, 50, 51, 52, 53, 54, 55, 56, 57, 61, 62, 63, 64, 65, 66, 67, 68, 69, 70, 71, 72, 73, 74, 75, 76, 77, 78, 79, 80, 81, 82, 83, 84] (by decide +kernel) (by decide +kernel)
set_option maxRecDepth 20000 in
theorem gX7_bestOf_X7_tiltRow : GoodIn wsX7_bestOf (wsV RX7 156 RX7 yX7_tiltRow wsX7_tiltRow) := goodIn_app (goodIn_of _ (by decide +kernel)) ggX7_bestOf_X7_tiltRow
set_option maxRecDepth 20000 in
theorem ggX7_bestOf_X7_fallen : GoodIn wsX7_bestOf wsX7_fallen := goodIn_r _ [28, 23, 29, 14, 15, 16, 4, 17, 61, 62, 63, 64, 65, 66, 67, 68, 69, 70, 71, 72, 73, 74, 75, 76, 77, 78, 79, 80, 81, 82, 83, 84] (by decide +kernel) (by decide +kernel)
set_option maxRecDepth 20000 in
theorem gX7_bestOf_X7_fallen : GoodIn wsX7_bestOf (wsV RX7 121 RX7 yX7_fallen wsX7_fallen) := goodIn_app (goodIn_of _ (by decide +kernel)) ggX7_bestOf_X7_fallen
set_option maxRecDepth 20000 in
theorem ggX7_bestOf_X7_figuresOf : GoodIn wsX7_bestOf wsX7_figuresOf := goodIn_r _ [60, 2, 3, 4, 5] (by decide +kernel) (by decide +kernel)
set_option maxRecDepth 20000 in
theorem gX7_bestOf_X7_figuresOf : GoodIn wsX7_bestOf (va_wsS RX7 160 yX7_figuresOf wsX7_figuresOf) := goodIn_app (goodIn_of _ (by decide +kernel)) ggX7_bestOf_X7_figuresOf
theorem dX7_bestOf_0 : decode cX7_bestOf 0 = .ok (.bipush (-9), 2) := by decide +kernel
theorem dX7_bestOf_2 : decode cX7_bestOf 2 = .ok (.istore_n 2, 1) := by decide +kernel
theorem dX7_bestOf_3 : decode cX7_bestOf 3 = .ok (.iconst 0, 1) := by decide +kernel
theorem dX7_bestOf_4 : decode cX7_bestOf 4 = .ok (.istore_n 3, 1) := by decide +kernel
theorem dX7_bestOf_5 : decode cX7_bestOf 5 = .ok (.iload_n 3, 1) := by decide +kernel
theorem dX7_bestOf_6 : decode cX7_bestOf 6 = .ok (.iconst 4, 1) := by decide +kernel
theorem dX7_bestOf_7 : decode cX7_bestOf 7 = .ok (.iload_n 1, 1) := by decide +kernel
theorem dX7_bestOf_8 : decode cX7_bestOf 8 = .ok (.invokestatic 153, 3) := by decide +kernel
theorem dX7_bestOf_11 : decode cX7_bestOf 11 = .ok (.if_icmp .ge 58, 3) := by decide +kernel
theorem dX7_bestOf_14 : decode cX7_bestOf 14 = .ok (.aload_n 0, 1) := by decide +kernel
theorem dX7_bestOf_15 : decode cX7_bestOf 15 = .ok (.iload_n 1, 1) := by decide +kernel
theorem dX7_bestOf_16 : decode cX7_bestOf 16 = .ok (.iload_n 3, 1) := by decide +kernel
theorem dX7_bestOf_17 : decode cX7_bestOf 17 = .ok (.iconst 0, 1) := by decide +kernel
theorem dX7_bestOf_18 : decode cX7_bestOf 18 = .ok (.invokevirtual 156, 3) := by decide +kernel
theorem dX7_bestOf_21 : decode cX7_bestOf 21 = .ok (.aload_n 0, 1) := by decide +kernel
theorem dX7_bestOf_22 : decode cX7_bestOf 22 = .ok (.iconst 1, 1) := by decide +kernel
theorem dX7_bestOf_23 : decode cX7_bestOf 23 = .ok (.invokevirtual 121, 3) := by decide +kernel
theorem dX7_bestOf_26 : decode cX7_bestOf 26 = .ok (.istore 4, 2) := by decide +kernel
theorem dX7_bestOf_28 : decode cX7_bestOf 28 = .ok (.aload_n 0, 1) := by decide +kernel
theorem dX7_bestOf_29 : decode cX7_bestOf 29 = .ok (.iload 4, 2) := by decide +kernel
theorem dX7_bestOf_31 : decode cX7_bestOf 31 = .ok (.iload_n 2, 1) := by decide +kernel
theorem dX7_bestOf_32 : decode cX7_bestOf 32 = .ok (.if_icmp .le 11, 3) := by decide +kernel
theorem dX7_bestOf_35 : decode cX7_bestOf 35 = .ok (.iload_n 1, 1) := by decide +kernel
theorem dX7_bestOf_36 : decode cX7_bestOf 36 = .ok (.iload_n 3, 1) := by decide +kernel
theorem dX7_bestOf_37 : decode cX7_bestOf 37 = .ok (.invokestatic 160, 3) := by decide +kernel
theorem dX7_bestOf_40 : decode cX7_bestOf 40 = .ok (.goto 7, 3) := by decide +kernel
theorem dX7_bestOf_43 : decode cX7_bestOf 43 = .ok (.aload_n 0, 1) := by decide +kernel
theorem dX7_bestOf_44 : decode cX7_bestOf 44 = .ok (.getfield 163, 3) := by decide +kernel
theorem dX7_bestOf_47 : decode cX7_bestOf 47 = .ok (.putfield 163, 3) := by decide +kernel
theorem dX7_bestOf_50 : decode cX7_bestOf 50 = .ok (.iload 4, 2) := by decide +kernel
theorem dX7_bestOf_52 : decode cX7_bestOf 52 = .ok (.iload_n 2, 1) := by decide +kernel
theorem dX7_bestOf_53 : decode cX7_bestOf 53 = .ok (.if_icmp .le 8, 3) := by decide +kernel
theorem dX7_bestOf_56 : decode cX7_bestOf 56 = .ok (.iload 4, 2) := by decide +kernel
theorem dX7_bestOf_58 : decode cX7_bestOf 58 = .ok (.goto 4, 3) := by decide +kernel
theorem dX7_bestOf_61 : decode cX7_bestOf 61 = .ok (.iload_n 2, 1) := by decide +kernel
theorem dX7_bestOf_62 : decode cX7_bestOf 62 = .ok (.istore_n 2, 1) := by decide +kernel
theorem dX7_bestOf_63 : decode cX7_bestOf 63 = .ok (.iinc 3 1, 3) := by decide +kernel
theorem dX7_bestOf_66 : decode cX7_bestOf 66 = .ok (.goto (-61), 3) := by decide +kernel
theorem dX7_bestOf_69 : decode cX7_bestOf 69 = .ok (.iload_n 2, 1) := by decide +kernel
theorem dX7_bestOf_70 : decode cX7_bestOf 70 = .ok (.ireturn, 1) := by decide +kernel
set_option maxRecDepth 20000 in
theorem ggX7_best_X7_in : GoodIn wsX7_best wsX7_in := goodIn_r _ [6] (by decide +kernel) (by decide +kernel)
set_option maxRecDepth 20000 in
theorem gX7_best_X7_in : GoodIn wsX7_best (va_wsS RX7 56 yX7_in wsX7_in) := goodIn_app (goodIn_of _ (by decide +kernel)) ggX7_best_X7_in
set_option maxRecDepth 20000 in
theorem ggX7_best_X7_bestOf : GoodIn wsX7_best wsX7_bestOf := goodIn_r _ [10, 2, 11, 12, 5, 13, 14, 15, 16, 17, 18, 19, 20, 21, 22, 23, 24, 25, 26, 27, 28, 29, 30, 31, 32, 33, 34, 35, 36, 37, 38, 39, 40, 41, 42, 43, 44, 45, 46, 47, 48, 49, 50, 51, 52, 53, 54, 55, 56, 57, 58, 59, 60, 61, 62, 63, 64, 65, 66, 67, 68, 69, 70, 71, 72, 73, 74, 75, 76, 77, 78, 79, 80, 81, 82, 83, 84, 85, 86, 87, 88, 89, 90, 91, 92] (by decide +kernel) (by decide +kernel)
set_option maxRecDepth 20000 in
theorem gX7_best_X7_bestOf : GoodIn wsX7_best (wsV RX7 168 RX7 yX7_bestOf wsX7_bestOf) := goodIn_app (goodIn_of _ (by decide +kernel)) ggX7_best_X7_bestOf
theorem dX7_best_0 : decode cX7_best 0 = .ok (.iload_n 1, 1) := by decide +kernel
theorem dX7_best_1 : decode cX7_best 1 = .ok (.i2l, 1) := by decide +kernel
theorem dX7_best_2 : decode cX7_best 2 = .ok (.lconst 1, 1) := by decide +kernel
theorem dX7_best_3 : decode cX7_best 3 = .ok (.ldc2_w 166, 3) := by decide +kernel
theorem dX7_best_6 : decode cX7_best 6 = .ok (.invokestatic 56, 3) := by decide +kernel
theorem dX7_best_9 : decode cX7_best 9 = .ok (.ifCond .ne 6, 3) := by decide +kernel
theorem dX7_best_12 : decode cX7_best 12 = .ok (.bipush (-2), 2) := by decide +kernel
theorem dX7_best_14 : decode cX7_best 14 = .ok (.ireturn, 1) := by decide +kernel
theorem dX7_best_15 : decode cX7_best 15 = .ok (.aload_n 0, 1) := by decide +kernel
theorem dX7_best_16 : decode cX7_best 16 = .ok (.iload_n 1, 1) := by decide +kernel
theorem dX7_best_17 : decode cX7_best 17 = .ok (.invokevirtual 168, 3) := by decide +kernel
theorem dX7_best_20 : decode cX7_best 20 = .ok (.istore_n 3, 1) := by decide +kernel
theorem dX7_best_21 : decode cX7_best 21 = .ok (.iload_n 2, 1) := by decide +kernel
theorem dX7_best_22 : decode cX7_best 22 = .ok (.ifCond .eq 10, 3) := by decide +kernel
theorem dX7_best_25 : decode cX7_best 25 = .ok (.aload_n 0, 1) := by decide +kernel
theorem dX7_best_26 : decode cX7_best 26 = .ok (.getfield 163, 3) := by decide +kernel
theorem dX7_best_29 : decode cX7_best 29 = .ok (.goto 4, 3) := by decide +kernel
theorem dX7_best_32 : decode cX7_best 32 = .ok (.iload_n 3, 1) := by decide +kernel
theorem dX7_best_33 : decode cX7_best 33 = .ok (.ireturn, 1) := by decide +kernel
set_option maxRecDepth 20000 in
theorem ggX7_saves_X7_isMarble : GoodIn wsX7_saves wsX7_isMarble := goodIn_r _ [7, 8, 9, 10, 6, 11, 65, 66, 67, 68, 69, 70, 71, 72, 73, 74, 75, 76, 77, 78, 79, 80, 81, 82, 83, 84, 85, 86, 87, 88] (by decide +kernel) (by decide +kernel)
set_option maxRecDepth 20000 in
theorem gX7_saves_X7_isMarble : GoodIn wsX7_saves (wsV RX7 137 RX7 yX7_isMarble wsX7_isMarble) := goodIn_app (goodIn_of _ (by decide +kernel)) ggX7_saves_X7_isMarble
set_option maxRecDepth 20000 in
theorem ggX7_saves_X7_in : GoodIn wsX7_saves wsX7_in := goodIn_r _ [11] (by decide +kernel) (by decide +kernel)
set_option maxRecDepth 20000 in
theorem gX7_saves_X7_in : GoodIn wsX7_saves (va_wsS RX7 56 yX7_in wsX7_in) := goodIn_app (goodIn_of _ (by decide +kernel)) ggX7_saves_X7_in
set_option maxRecDepth 20000 in
theorem ggX7_saves_X7_layTrial : GoodIn wsX7_saves wsX7_layTrial := goodIn_r _ [15, 2, 65, 66, 67, 68, 69, 70, 71, 72, 73, 74, 75, 76, 77, 78, 79, 80, 81, 82, 83, 84, 85, 86, 87, 88] (by decide +kernel) (by decide +kernel)
set_option maxRecDepth 20000 in
theorem gX7_saves_X7_layTrial : GoodIn wsX7_saves (wsV RX7 131 RX7 yX7_layTrial wsX7_layTrial) := goodIn_app (goodIn_of _ (by decide +kernel)) ggX7_saves_X7_layTrial
set_option maxRecDepth 20000 in
theorem ggX7_saves_X7_tiltOn : GoodIn wsX7_saves wsX7_tiltOn := goodIn_r _ [19, 20, 8, 21, 2, 22, 23, 24, 6, 25, 26, 27, 28, 29, 30, 31, 32, 33, 34, 35, 36, 37, 38, 39, 40, 41, 42, 43, 44, 45, 46, 47, 48, 49, 50, 51, 52, 53, 54, 55, 56, 57, 65, 66, 67, 68, 69, 70, 71, 72, 73, 74, 75, 76, 77, 78, 79, 80, 81, 82, 83, 84, 85, 86, 87, 88] (by decide +kernel) (by decide +kernel)
set_option maxRecDepth 20000 in
theorem gX7_saves_X7_tiltOn : GoodIn wsX7_saves (wsV RX7 134 RX7 yX7_tiltOn wsX7_tiltOn) := goodIn_app (goodIn_of _ (by decide +kernel)) ggX7_saves_X7_tiltOn
set_option maxRecDepth 20000 in
theorem ggX7_saves_X7_ones : GoodIn wsX7_saves wsX7_ones := goodIn_r _ [60] (by decide +kernel) (by decide +kernel)
set_option maxRecDepth 20000 in
theorem gX7_saves_X7_ones : GoodIn wsX7_saves (va_wsS RX7 63 yX7_ones wsX7_ones) := goodIn_app (goodIn_of _ (by decide +kernel)) ggX7_saves_X7_ones
set_option maxRecDepth 20000 in
theorem ggX7_saves_X7_has : GoodIn wsX7_saves wsX7_has := goodIn_r _ [29] (by decide +kernel) (by decide +kernel)
set_option maxRecDepth 20000 in
theorem gX7_saves_X7_has : GoodIn wsX7_saves (va_wsS RX7 82 yX7_has wsX7_has) := goodIn_app (goodIn_of _ (by decide +kernel)) ggX7_saves_X7_has
set_option maxRecDepth 20000 in
theorem ggX7_saves_X7_canWedge : GoodIn wsX7_saves wsX7_canWedge := goodIn_r _ [64, 38, 27, 28, 6, 29, 50, 51, 52, 53, 8, 2, 30, 31, 32, 33, 26, 65, 66, 67, 68, 69, 70, 71, 72, 73, 74, 75, 76, 77, 78, 79, 80, 81, 82, 83, 84, 85, 86, 87, 88] (by decide +kernel) (by decide +kernel)
set_option maxRecDepth 20000 in
theorem gX7_saves_X7_canWedge : GoodIn wsX7_saves (wsV RX7 150 RX7 yX7_canWedge wsX7_canWedge) := goodIn_app (goodIn_of _ (by decide +kernel)) ggX7_saves_X7_canWedge
theorem dX7_saves_0 : decode cX7_saves 0 = .ok (.aload_n 0, 1) := by decide +kernel
theorem dX7_saves_1 : decode cX7_saves 1 = .ok (.iload_n 1, 1) := by decide +kernel
theorem dX7_saves_2 : decode cX7_saves 2 = .ok (.invokevirtual 137, 3) := by decide +kernel
theorem dX7_saves_5 : decode cX7_saves 5 = .ok (.ifCond .ne 5, 3) := by decide +kernel
theorem dX7_saves_8 : decode cX7_saves 8 = .ok (.iconst (-1), 1) := by decide +kernel
theorem dX7_saves_9 : decode cX7_saves 9 = .ok (.ireturn, 1) := by decide +kernel
theorem dX7_saves_10 : decode cX7_saves 10 = .ok (.iload_n 2, 1) := by decide +kernel
theorem dX7_saves_11 : decode cX7_saves 11 = .ok (.i2l, 1) := by decide +kernel
theorem dX7_saves_12 : decode cX7_saves 12 = .ok (.lconst 0, 1) := by decide +kernel
theorem dX7_saves_13 : decode cX7_saves 13 = .ok (.ldc2_w 86, 3) := by decide +kernel
theorem dX7_saves_16 : decode cX7_saves 16 = .ok (.invokestatic 56, 3) := by decide +kernel
theorem dX7_saves_19 : decode cX7_saves 19 = .ok (.ifCond .ne 6, 3) := by decide +kernel
theorem dX7_saves_22 : decode cX7_saves 22 = .ok (.bipush (-2), 2) := by decide +kernel
theorem dX7_saves_24 : decode cX7_saves 24 = .ok (.ireturn, 1) := by decide +kernel
theorem dX7_saves_25 : decode cX7_saves 25 = .ok (.aload_n 0, 1) := by decide +kernel
theorem dX7_saves_26 : decode cX7_saves 26 = .ok (.getfield 16, 3) := by decide +kernel
theorem dX7_saves_29 : decode cX7_saves 29 = .ok (.iload_n 1, 1) := by decide +kernel
theorem dX7_saves_30 : decode cX7_saves 30 = .ok (.iaload, 1) := by decide +kernel
theorem dX7_saves_31 : decode cX7_saves 31 = .ok (.bipush 100, 2) := by decide +kernel
theorem dX7_saves_33 : decode cX7_saves 33 = .ok (.if_icmp .lt 6, 3) := by decide +kernel
theorem dX7_saves_36 : decode cX7_saves 36 = .ok (.bipush (-3), 2) := by decide +kernel
theorem dX7_saves_38 : decode cX7_saves 38 = .ok (.ireturn, 1) := by decide +kernel
theorem dX7_saves_39 : decode cX7_saves 39 = .ok (.aload_n 0, 1) := by decide +kernel
theorem dX7_saves_40 : decode cX7_saves 40 = .ok (.invokevirtual 131, 3) := by decide +kernel
theorem dX7_saves_43 : decode cX7_saves 43 = .ok (.aload_n 0, 1) := by decide +kernel
theorem dX7_saves_44 : decode cX7_saves 44 = .ok (.iconst 1, 1) := by decide +kernel
theorem dX7_saves_45 : decode cX7_saves 45 = .ok (.iload_n 2, 1) := by decide +kernel
theorem dX7_saves_46 : decode cX7_saves 46 = .ok (.invokevirtual 134, 3) := by decide +kernel
theorem dX7_saves_49 : decode cX7_saves 49 = .ok (.pop, 1) := by decide +kernel
theorem dX7_saves_50 : decode cX7_saves 50 = .ok (.aload_n 0, 1) := by decide +kernel
theorem dX7_saves_51 : decode cX7_saves 51 = .ok (.getfield 16, 3) := by decide +kernel
theorem dX7_saves_54 : decode cX7_saves 54 = .ok (.bipush 7, 2) := by decide +kernel
theorem dX7_saves_56 : decode cX7_saves 56 = .ok (.iload_n 1, 1) := by decide +kernel
theorem dX7_saves_57 : decode cX7_saves 57 = .ok (.iadd, 1) := by decide +kernel
theorem dX7_saves_58 : decode cX7_saves 58 = .ok (.iaload, 1) := by decide +kernel
theorem dX7_saves_59 : decode cX7_saves 59 = .ok (.bipush 100, 2) := by decide +kernel
theorem dX7_saves_61 : decode cX7_saves 61 = .ok (.if_icmp .ge 6, 3) := by decide +kernel
theorem dX7_saves_64 : decode cX7_saves 64 = .ok (.bipush 25, 2) := by decide +kernel
theorem dX7_saves_66 : decode cX7_saves 66 = .ok (.ireturn, 1) := by decide +kernel
theorem dX7_saves_67 : decode cX7_saves 67 = .ok (.iconst 0, 1) := by decide +kernel
theorem dX7_saves_68 : decode cX7_saves 68 = .ok (.istore_n 3, 1) := by decide +kernel
theorem dX7_saves_69 : decode cX7_saves 69 = .ok (.iload_n 3, 1) := by decide +kernel
theorem dX7_saves_70 : decode cX7_saves 70 = .ok (.bipush 25, 2) := by decide +kernel
theorem dX7_saves_72 : decode cX7_saves 72 = .ok (.if_icmp .ge 84, 3) := by decide +kernel
theorem dX7_saves_75 : decode cX7_saves 75 = .ok (.aload_n 0, 1) := by decide +kernel
theorem dX7_saves_76 : decode cX7_saves 76 = .ok (.getfield 16, 3) := by decide +kernel
theorem dX7_saves_79 : decode cX7_saves 79 = .ok (.iconst 5, 1) := by decide +kernel
theorem dX7_saves_80 : decode cX7_saves 80 = .ok (.iaload, 1) := by decide +kernel
theorem dX7_saves_81 : decode cX7_saves 81 = .ok (.invokestatic 63, 3) := by decide +kernel
theorem dX7_saves_84 : decode cX7_saves 84 = .ok (.iconst 3, 1) := by decide +kernel
theorem dX7_saves_85 : decode cX7_saves 85 = .ok (.if_icmp .ge 71, 3) := by decide +kernel
theorem dX7_saves_88 : decode cX7_saves 88 = .ok (.aload_n 0, 1) := by decide +kernel
theorem dX7_saves_89 : decode cX7_saves 89 = .ok (.getfield 16, 3) := by decide +kernel
theorem dX7_saves_92 : decode cX7_saves 92 = .ok (.iconst 5, 1) := by decide +kernel
theorem dX7_saves_93 : decode cX7_saves 93 = .ok (.iaload, 1) := by decide +kernel
theorem dX7_saves_94 : decode cX7_saves 94 = .ok (.iload_n 3, 1) := by decide +kernel
theorem dX7_saves_95 : decode cX7_saves 95 = .ok (.invokestatic 82, 3) := by decide +kernel
theorem dX7_saves_98 : decode cX7_saves 98 = .ok (.ifCond .ne 52, 3) := by decide +kernel
theorem dX7_saves_101 : decode cX7_saves 101 = .ok (.aload_n 0, 1) := by decide +kernel
theorem dX7_saves_102 : decode cX7_saves 102 = .ok (.iconst 0, 1) := by decide +kernel
theorem dX7_saves_103 : decode cX7_saves 103 = .ok (.iload_n 3, 1) := by decide +kernel
theorem dX7_saves_104 : decode cX7_saves 104 = .ok (.invokevirtual 150, 3) := by decide +kernel
theorem dX7_saves_107 : decode cX7_saves 107 = .ok (.ifCond .eq 43, 3) := by decide +kernel
theorem dX7_saves_110 : decode cX7_saves 110 = .ok (.aload_n 0, 1) := by decide +kernel
theorem dX7_saves_111 : decode cX7_saves 111 = .ok (.invokevirtual 131, 3) := by decide +kernel
theorem dX7_saves_114 : decode cX7_saves 114 = .ok (.aload_n 0, 1) := by decide +kernel
theorem dX7_saves_115 : decode cX7_saves 115 = .ok (.getfield 16, 3) := by decide +kernel
theorem dX7_saves_118 : decode cX7_saves 118 = .ok (.bipush 12, 2) := by decide +kernel
theorem dX7_saves_120 : decode cX7_saves 120 = .ok (.dup2, 1) := by decide +kernel
theorem dX7_saves_121 : decode cX7_saves 121 = .ok (.iaload, 1) := by decide +kernel
theorem dX7_saves_122 : decode cX7_saves 122 = .ok (.iconst 1, 1) := by decide +kernel
theorem dX7_saves_123 : decode cX7_saves 123 = .ok (.iload_n 3, 1) := by decide +kernel
theorem dX7_saves_124 : decode cX7_saves 124 = .ok (.ishl, 1) := by decide +kernel
theorem dX7_saves_125 : decode cX7_saves 125 = .ok (.ior, 1) := by decide +kernel
theorem dX7_saves_126 : decode cX7_saves 126 = .ok (.iastore, 1) := by decide +kernel
theorem dX7_saves_127 : decode cX7_saves 127 = .ok (.aload_n 0, 1) := by decide +kernel
theorem dX7_saves_128 : decode cX7_saves 128 = .ok (.iconst 1, 1) := by decide +kernel
theorem dX7_saves_129 : decode cX7_saves 129 = .ok (.iload_n 2, 1) := by decide +kernel
theorem dX7_saves_130 : decode cX7_saves 130 = .ok (.invokevirtual 134, 3) := by decide +kernel
theorem dX7_saves_133 : decode cX7_saves 133 = .ok (.pop, 1) := by decide +kernel
theorem dX7_saves_134 : decode cX7_saves 134 = .ok (.aload_n 0, 1) := by decide +kernel
theorem dX7_saves_135 : decode cX7_saves 135 = .ok (.getfield 16, 3) := by decide +kernel
theorem dX7_saves_138 : decode cX7_saves 138 = .ok (.bipush 7, 2) := by decide +kernel
theorem dX7_saves_140 : decode cX7_saves 140 = .ok (.iload_n 1, 1) := by decide +kernel
theorem dX7_saves_141 : decode cX7_saves 141 = .ok (.iadd, 1) := by decide +kernel
theorem dX7_saves_142 : decode cX7_saves 142 = .ok (.iaload, 1) := by decide +kernel
theorem dX7_saves_143 : decode cX7_saves 143 = .ok (.bipush 100, 2) := by decide +kernel
theorem dX7_saves_145 : decode cX7_saves 145 = .ok (.if_icmp .ge 5, 3) := by decide +kernel
theorem dX7_saves_148 : decode cX7_saves 148 = .ok (.iload_n 3, 1) := by decide +kernel
theorem dX7_saves_149 : decode cX7_saves 149 = .ok (.ireturn, 1) := by decide +kernel
theorem dX7_saves_150 : decode cX7_saves 150 = .ok (.iinc 3 1, 3) := by decide +kernel
theorem dX7_saves_153 : decode cX7_saves 153 = .ok (.goto (-84), 3) := by decide +kernel
theorem dX7_saves_156 : decode cX7_saves 156 = .ok (.bipush (-9), 2) := by decide +kernel
theorem dX7_saves_158 : decode cX7_saves 158 = .ok (.ireturn, 1) := by decide +kernel
set_option maxRecDepth 20000 in
theorem ggX7_wedgeTrial_X7_isCell : GoodIn wsX7_wedgeTrial wsX7_isCell := goodIn_r _ [5, 6, 7, 8, 4, 9] (by decide +kernel) (by decide +kernel)
set_option maxRecDepth 20000 in
theorem gX7_wedgeTrial_X7_isCell : GoodIn wsX7_wedgeTrial (va_wsS RX7 128 yX7_isCell wsX7_isCell) := goodIn_app (goodIn_of _ (by decide +kernel)) ggX7_wedgeTrial_X7_isCell
set_option maxRecDepth 20000 in
theorem ggX7_wedgeTrial_X7_has : GoodIn wsX7_wedgeTrial wsX7_has := goodIn_r _ [12] (by decide +kernel) (by decide +kernel)
set_option maxRecDepth 20000 in
theorem gX7_wedgeTrial_X7_has : GoodIn wsX7_wedgeTrial (va_wsS RX7 82 yX7_has wsX7_has) := goodIn_app (goodIn_of _ (by decide +kernel)) ggX7_wedgeTrial_X7_has
set_option maxRecDepth 20000 in
theorem ggX7_wedgeTrial_X7_canWedge : GoodIn wsX7_wedgeTrial wsX7_canWedge := goodIn_r _ [16, 17, 10, 11, 4, 12, 18, 19, 20, 21, 22, 1, 23, 24, 25, 26, 27, 31, 32, 33, 34, 35, 36, 37, 38, 39, 40, 41, 42, 43, 44, 45, 46, 47, 48, 49, 50, 51, 52, 53, 54] (by decide +kernel) (by decide +kernel)
set_option maxRecDepth 20000 in
theorem gX7_wedgeTrial_X7_canWedge : GoodIn wsX7_wedgeTrial (wsV RX7 150 RX7 yX7_canWedge wsX7_canWedge) := goodIn_app (goodIn_of _ (by decide +kernel)) ggX7_wedgeTrial_X7_canWedge
set_option maxRecDepth 20000 in
theorem ggX7_wedgeTrial_X7_ones : GoodIn wsX7_wedgeTrial wsX7_ones := goodIn_r _ [30] (by decide +kernel) (by decide +kernel)
set_option maxRecDepth 20000 in
theorem gX7_wedgeTrial_X7_ones : GoodIn wsX7_wedgeTrial (va_wsS RX7 63 yX7_ones wsX7_ones) := goodIn_app (goodIn_of _ (by decide +kernel)) ggX7_wedgeTrial_X7_ones
theorem dX7_wedgeTrial_0 : decode cX7_wedgeTrial 0 = .ok (.bipush 7, 2) := by decide +kernel
theorem dX7_wedgeTrial_2 : decode cX7_wedgeTrial 2 = .ok (.istore_n 2, 1) := by decide +kernel
theorem dX7_wedgeTrial_3 : decode cX7_wedgeTrial 3 = .ok (.iload_n 1, 1) := by decide +kernel
theorem dX7_wedgeTrial_4 : decode cX7_wedgeTrial 4 = .ok (.invokestatic 128, 3) := by decide +kernel
theorem dX7_wedgeTrial_7 : decode cX7_wedgeTrial 7 = .ok (.ifCond .eq 46, 3) := by decide +kernel
theorem dX7_wedgeTrial_10 : decode cX7_wedgeTrial 10 = .ok (.aload_n 0, 1) := by decide +kernel
theorem dX7_wedgeTrial_11 : decode cX7_wedgeTrial 11 = .ok (.getfield 16, 3) := by decide +kernel
theorem dX7_wedgeTrial_14 : decode cX7_wedgeTrial 14 = .ok (.iload_n 2, 1) := by decide +kernel
theorem dX7_wedgeTrial_15 : decode cX7_wedgeTrial 15 = .ok (.iconst 5, 1) := by decide +kernel
theorem dX7_wedgeTrial_16 : decode cX7_wedgeTrial 16 = .ok (.iadd, 1) := by decide +kernel
theorem dX7_wedgeTrial_17 : decode cX7_wedgeTrial 17 = .ok (.iaload, 1) := by decide +kernel
theorem dX7_wedgeTrial_18 : decode cX7_wedgeTrial 18 = .ok (.iload_n 1, 1) := by decide +kernel
theorem dX7_wedgeTrial_19 : decode cX7_wedgeTrial 19 = .ok (.invokestatic 82, 3) := by decide +kernel
theorem dX7_wedgeTrial_22 : decode cX7_wedgeTrial 22 = .ok (.ifCond .ne 27, 3) := by decide +kernel
theorem dX7_wedgeTrial_25 : decode cX7_wedgeTrial 25 = .ok (.aload_n 0, 1) := by decide +kernel
theorem dX7_wedgeTrial_26 : decode cX7_wedgeTrial 26 = .ok (.iconst 1, 1) := by decide +kernel
theorem dX7_wedgeTrial_27 : decode cX7_wedgeTrial 27 = .ok (.iload_n 1, 1) := by decide +kernel
theorem dX7_wedgeTrial_28 : decode cX7_wedgeTrial 28 = .ok (.invokevirtual 150, 3) := by decide +kernel
theorem dX7_wedgeTrial_31 : decode cX7_wedgeTrial 31 = .ok (.ifCond .eq 22, 3) := by decide +kernel
theorem dX7_wedgeTrial_34 : decode cX7_wedgeTrial 34 = .ok (.aload_n 0, 1) := by decide +kernel
theorem dX7_wedgeTrial_35 : decode cX7_wedgeTrial 35 = .ok (.getfield 16, 3) := by decide +kernel
theorem dX7_wedgeTrial_38 : decode cX7_wedgeTrial 38 = .ok (.iload_n 2, 1) := by decide +kernel
theorem dX7_wedgeTrial_39 : decode cX7_wedgeTrial 39 = .ok (.iconst 5, 1) := by decide +kernel
theorem dX7_wedgeTrial_40 : decode cX7_wedgeTrial 40 = .ok (.iadd, 1) := by decide +kernel
theorem dX7_wedgeTrial_41 : decode cX7_wedgeTrial 41 = .ok (.iaload, 1) := by decide +kernel
theorem dX7_wedgeTrial_42 : decode cX7_wedgeTrial 42 = .ok (.invokestatic 63, 3) := by decide +kernel
theorem dX7_wedgeTrial_45 : decode cX7_wedgeTrial 45 = .ok (.iconst 3, 1) := by decide +kernel
theorem dX7_wedgeTrial_46 : decode cX7_wedgeTrial 46 = .ok (.if_icmp .ge 7, 3) := by decide +kernel
theorem dX7_wedgeTrial_49 : decode cX7_wedgeTrial 49 = .ok (.iconst 1, 1) := by decide +kernel
theorem dX7_wedgeTrial_50 : decode cX7_wedgeTrial 50 = .ok (.goto 4, 3) := by decide +kernel
theorem dX7_wedgeTrial_53 : decode cX7_wedgeTrial 53 = .ok (.iconst 0, 1) := by decide +kernel
theorem dX7_wedgeTrial_54 : decode cX7_wedgeTrial 54 = .ok (.istore_n 3, 1) := by decide +kernel
theorem dX7_wedgeTrial_55 : decode cX7_wedgeTrial 55 = .ok (.aload_n 0, 1) := by decide +kernel
theorem dX7_wedgeTrial_56 : decode cX7_wedgeTrial 56 = .ok (.getfield 16, 3) := by decide +kernel
theorem dX7_wedgeTrial_59 : decode cX7_wedgeTrial 59 = .ok (.iload_n 2, 1) := by decide +kernel
theorem dX7_wedgeTrial_60 : decode cX7_wedgeTrial 60 = .ok (.iconst 5, 1) := by decide +kernel
theorem dX7_wedgeTrial_61 : decode cX7_wedgeTrial 61 = .ok (.iadd, 1) := by decide +kernel
theorem dX7_wedgeTrial_62 : decode cX7_wedgeTrial 62 = .ok (.dup2, 1) := by decide +kernel
theorem dX7_wedgeTrial_63 : decode cX7_wedgeTrial 63 = .ok (.iaload, 1) := by decide +kernel
theorem dX7_wedgeTrial_64 : decode cX7_wedgeTrial 64 = .ok (.iload_n 3, 1) := by decide +kernel
theorem dX7_wedgeTrial_65 : decode cX7_wedgeTrial 65 = .ok (.ifCond .eq 9, 3) := by decide +kernel
theorem dX7_wedgeTrial_68 : decode cX7_wedgeTrial 68 = .ok (.iconst 1, 1) := by decide +kernel
theorem dX7_wedgeTrial_69 : decode cX7_wedgeTrial 69 = .ok (.iload_n 1, 1) := by decide +kernel
theorem dX7_wedgeTrial_70 : decode cX7_wedgeTrial 70 = .ok (.ishl, 1) := by decide +kernel
theorem dX7_wedgeTrial_71 : decode cX7_wedgeTrial 71 = .ok (.goto 4, 3) := by decide +kernel
theorem dX7_wedgeTrial_74 : decode cX7_wedgeTrial 74 = .ok (.iconst 0, 1) := by decide +kernel
theorem dX7_wedgeTrial_75 : decode cX7_wedgeTrial 75 = .ok (.ixor, 1) := by decide +kernel
theorem dX7_wedgeTrial_76 : decode cX7_wedgeTrial 76 = .ok (.iastore, 1) := by decide +kernel
theorem dX7_wedgeTrial_77 : decode cX7_wedgeTrial 77 = .ok (.iload_n 3, 1) := by decide +kernel
theorem dX7_wedgeTrial_78 : decode cX7_wedgeTrial 78 = .ok (.ireturn, 1) := by decide +kernel
set_option maxRecDepth 20000 in
theorem ggX7_tryThing_X7_tiltOn : GoodIn wsX7_tryThing wsX7_tiltOn := goodIn_r _ [6, 7, 8, 9, 1, 10, 11, 12, 5, 13, 14, 15, 16, 17, 18, 19, 20, 21, 22, 23, 24, 25, 26, 27, 28, 29, 30, 31, 32, 33, 34, 35, 36, 37, 38, 39, 40, 41, 42, 43, 44, 45, 68, 69, 70, 71, 72, 73, 74, 75, 76, 77, 78, 79, 80, 81, 82, 83, 84, 85, 86, 87, 88, 89, 90, 91] (by decide +kernel) (by decide +kernel)
set_option maxRecDepth 20000 in
theorem gX7_tryThing_X7_tiltOn : GoodIn wsX7_tryThing (wsV RX7 134 RX7 yX7_tiltOn wsX7_tiltOn) := goodIn_app (goodIn_of _ (by decide +kernel)) ggX7_tryThing_X7_tiltOn
set_option maxRecDepth 20000 in
theorem ggX7_tryThing_X7_wedgeTrial : GoodIn wsX7_tryThing wsX7_wedgeTrial := goodIn_r _ [49, 1, 50, 51, 5, 52, 53, 54, 55, 56, 15, 16, 17, 57, 58, 59, 60, 26, 38, 39, 40, 41, 8, 18, 19, 20, 21, 14, 61, 62, 63, 68, 69, 70, 71, 72, 73, 74, 75, 76, 77, 78, 79, 80, 81, 82, 83, 84, 85, 86, 87, 88, 89, 90, 91] (by decide +kernel) (by decide +kernel)
set_option maxRecDepth 20000 in
theorem gX7_tryThing_X7_wedgeTrial : GoodIn wsX7_tryThing (wsV RX7 171 RX7 yX7_wedgeTrial wsX7_wedgeTrial) := goodIn_app (goodIn_of _ (by decide +kernel)) ggX7_tryThing_X7_wedgeTrial
set_option maxRecDepth 20000 in
theorem ggX7_tryThing_X7_isMarble : GoodIn wsX7_tryThing wsX7_isMarble := goodIn_r _ [67, 8, 54, 55, 5, 56, 68, 69, 70, 71, 72, 73, 74, 75, 76, 77, 78, 79, 80, 81, 82, 83, 84, 85, 86, 87, 88, 89, 90, 91] (by decide +kernel) (by decide +kernel)
set_option maxRecDepth 20000 in
theorem gX7_tryThing_X7_isMarble : GoodIn wsX7_tryThing (wsV RX7 137 RX7 yX7_isMarble wsX7_isMarble) := goodIn_app (goodIn_of _ (by decide +kernel)) ggX7_tryThing_X7_isMarble
theorem dX7_tryThing_0 : decode cX7_tryThing 0 = .ok (.iload_n 1, 1) := by decide +kernel
theorem dX7_tryThing_1 : decode cX7_tryThing 1 = .ok (.tableswitch 120 0 2 #[27, 51, 57], 27) := by decide +kernel
theorem dX7_tryThing_28 : decode cX7_tryThing 28 = .ok (.iload_n 2, 1) := by decide +kernel
theorem dX7_tryThing_29 : decode cX7_tryThing 29 = .ok (.iconst 4, 1) := by decide +kernel
theorem dX7_tryThing_30 : decode cX7_tryThing 30 = .ok (.if_icmp .ge 7, 3) := by decide +kernel
theorem dX7_tryThing_33 : decode cX7_tryThing 33 = .ok (.iconst 1, 1) := by decide +kernel
theorem dX7_tryThing_34 : decode cX7_tryThing 34 = .ok (.goto 4, 3) := by decide +kernel
theorem dX7_tryThing_37 : decode cX7_tryThing 37 = .ok (.iconst 0, 1) := by decide +kernel
theorem dX7_tryThing_38 : decode cX7_tryThing 38 = .ok (.istore_n 3, 1) := by decide +kernel
theorem dX7_tryThing_39 : decode cX7_tryThing 39 = .ok (.iload_n 3, 1) := by decide +kernel
theorem dX7_tryThing_40 : decode cX7_tryThing 40 = .ok (.ifCond .eq 10, 3) := by decide +kernel
theorem dX7_tryThing_43 : decode cX7_tryThing 43 = .ok (.aload_n 0, 1) := by decide +kernel
theorem dX7_tryThing_44 : decode cX7_tryThing 44 = .ok (.iconst 1, 1) := by decide +kernel
theorem dX7_tryThing_45 : decode cX7_tryThing 45 = .ok (.iload_n 2, 1) := by decide +kernel
theorem dX7_tryThing_46 : decode cX7_tryThing 46 = .ok (.invokevirtual 134, 3) := by decide +kernel
theorem dX7_tryThing_49 : decode cX7_tryThing 49 = .ok (.pop, 1) := by decide +kernel
theorem dX7_tryThing_50 : decode cX7_tryThing 50 = .ok (.iload_n 3, 1) := by decide +kernel
theorem dX7_tryThing_51 : decode cX7_tryThing 51 = .ok (.ireturn, 1) := by decide +kernel
theorem dX7_tryThing_52 : decode cX7_tryThing 52 = .ok (.aload_n 0, 1) := by decide +kernel
theorem dX7_tryThing_53 : decode cX7_tryThing 53 = .ok (.iload_n 2, 1) := by decide +kernel
theorem dX7_tryThing_54 : decode cX7_tryThing 54 = .ok (.invokevirtual 171, 3) := by decide +kernel
theorem dX7_tryThing_57 : decode cX7_tryThing 57 = .ok (.ireturn, 1) := by decide +kernel
theorem dX7_tryThing_58 : decode cX7_tryThing 58 = .ok (.aload_n 0, 1) := by decide +kernel
theorem dX7_tryThing_59 : decode cX7_tryThing 59 = .ok (.iload_n 2, 1) := by decide +kernel
theorem dX7_tryThing_60 : decode cX7_tryThing 60 = .ok (.bipush 10, 2) := by decide +kernel
theorem dX7_tryThing_62 : decode cX7_tryThing 62 = .ok (.idiv, 1) := by decide +kernel
theorem dX7_tryThing_63 : decode cX7_tryThing 63 = .ok (.invokevirtual 137, 3) := by decide +kernel
theorem dX7_tryThing_66 : decode cX7_tryThing 66 = .ok (.ifCond .eq 53, 3) := by decide +kernel
theorem dX7_tryThing_69 : decode cX7_tryThing 69 = .ok (.iload_n 2, 1) := by decide +kernel
theorem dX7_tryThing_70 : decode cX7_tryThing 70 = .ok (.bipush 10, 2) := by decide +kernel
theorem dX7_tryThing_72 : decode cX7_tryThing 72 = .ok (.irem, 1) := by decide +kernel
theorem dX7_tryThing_73 : decode cX7_tryThing 73 = .ok (.iconst 2, 1) := by decide +kernel
theorem dX7_tryThing_74 : decode cX7_tryThing 74 = .ok (.if_icmp .ge 45, 3) := by decide +kernel
theorem dX7_tryThing_77 : decode cX7_tryThing 77 = .ok (.aload_n 0, 1) := by decide +kernel
theorem dX7_tryThing_78 : decode cX7_tryThing 78 = .ok (.getfield 16, 3) := by decide +kernel
theorem dX7_tryThing_81 : decode cX7_tryThing 81 = .ok (.bipush 7, 2) := by decide +kernel
theorem dX7_tryThing_83 : decode cX7_tryThing 83 = .ok (.iload_n 2, 1) := by decide +kernel
theorem dX7_tryThing_84 : decode cX7_tryThing 84 = .ok (.bipush 10, 2) := by decide +kernel
theorem dX7_tryThing_86 : decode cX7_tryThing 86 = .ok (.idiv, 1) := by decide +kernel
theorem dX7_tryThing_87 : decode cX7_tryThing 87 = .ok (.iadd, 1) := by decide +kernel
theorem dX7_tryThing_88 : decode cX7_tryThing 88 = .ok (.iaload, 1) := by decide +kernel
theorem dX7_tryThing_89 : decode cX7_tryThing 89 = .ok (.bipush 100, 2) := by decide +kernel
theorem dX7_tryThing_91 : decode cX7_tryThing 91 = .ok (.if_icmp .lt 7, 3) := by decide +kernel
theorem dX7_tryThing_94 : decode cX7_tryThing 94 = .ok (.iconst 1, 1) := by decide +kernel
theorem dX7_tryThing_95 : decode cX7_tryThing 95 = .ok (.goto 4, 3) := by decide +kernel
theorem dX7_tryThing_98 : decode cX7_tryThing 98 = .ok (.iconst 0, 1) := by decide +kernel
theorem dX7_tryThing_99 : decode cX7_tryThing 99 = .ok (.iload_n 2, 1) := by decide +kernel
theorem dX7_tryThing_100 : decode cX7_tryThing 100 = .ok (.bipush 10, 2) := by decide +kernel
theorem dX7_tryThing_102 : decode cX7_tryThing 102 = .ok (.irem, 1) := by decide +kernel
theorem dX7_tryThing_103 : decode cX7_tryThing 103 = .ok (.iconst 1, 1) := by decide +kernel
theorem dX7_tryThing_104 : decode cX7_tryThing 104 = .ok (.if_icmp .ne 7, 3) := by decide +kernel
theorem dX7_tryThing_107 : decode cX7_tryThing 107 = .ok (.iconst 1, 1) := by decide +kernel
theorem dX7_tryThing_108 : decode cX7_tryThing 108 = .ok (.goto 4, 3) := by decide +kernel
theorem dX7_tryThing_111 : decode cX7_tryThing 111 = .ok (.iconst 0, 1) := by decide +kernel
theorem dX7_tryThing_112 : decode cX7_tryThing 112 = .ok (.if_icmp .ne 7, 3) := by decide +kernel
theorem dX7_tryThing_115 : decode cX7_tryThing 115 = .ok (.iconst 1, 1) := by decide +kernel
theorem dX7_tryThing_116 : decode cX7_tryThing 116 = .ok (.goto 4, 3) := by decide +kernel
theorem dX7_tryThing_119 : decode cX7_tryThing 119 = .ok (.iconst 0, 1) := by decide +kernel
theorem dX7_tryThing_120 : decode cX7_tryThing 120 = .ok (.ireturn, 1) := by decide +kernel
theorem dX7_tryThing_121 : decode cX7_tryThing 121 = .ok (.iconst 0, 1) := by decide +kernel
theorem dX7_tryThing_122 : decode cX7_tryThing 122 = .ok (.ireturn, 1) := by decide +kernel
theorem dX7_thousandTo_0 : decode cX7_thousandTo 0 = .ok (.lconst 1, 1) := by decide +kernel
theorem dX7_thousandTo_1 : decode cX7_thousandTo 1 = .ok (.lstore_n 1, 1) := by decide +kernel
theorem dX7_thousandTo_2 : decode cX7_thousandTo 2 = .ok (.iconst 0, 1) := by decide +kernel
theorem dX7_thousandTo_3 : decode cX7_thousandTo 3 = .ok (.istore_n 3, 1) := by decide +kernel
theorem dX7_thousandTo_4 : decode cX7_thousandTo 4 = .ok (.iload_n 3, 1) := by decide +kernel
theorem dX7_thousandTo_5 : decode cX7_thousandTo 5 = .ok (.iload_n 0, 1) := by decide +kernel
theorem dX7_thousandTo_6 : decode cX7_thousandTo 6 = .ok (.if_icmp .ge 15, 3) := by decide +kernel
theorem dX7_thousandTo_9 : decode cX7_thousandTo 9 = .ok (.lload_n 1, 1) := by decide +kernel
theorem dX7_thousandTo_10 : decode cX7_thousandTo 10 = .ok (.ldc2_w 174, 3) := by decide +kernel
theorem dX7_thousandTo_13 : decode cX7_thousandTo 13 = .ok (.lmul, 1) := by decide +kernel
theorem dX7_thousandTo_14 : decode cX7_thousandTo 14 = .ok (.lstore_n 1, 1) := by decide +kernel
theorem dX7_thousandTo_15 : decode cX7_thousandTo 15 = .ok (.iinc 3 1, 3) := by decide +kernel
theorem dX7_thousandTo_18 : decode cX7_thousandTo 18 = .ok (.goto (-14), 3) := by decide +kernel
theorem dX7_thousandTo_21 : decode cX7_thousandTo 21 = .ok (.lload_n 1, 1) := by decide +kernel
theorem dX7_thousandTo_22 : decode cX7_thousandTo 22 = .ok (.lreturn, 1) := by decide +kernel
set_option maxRecDepth 20000 in
theorem ggX7_judge_X7_in : GoodIn wsX7_judge wsX7_in := goodIn_r _ [6] (by decide +kernel) (by decide +kernel)
set_option maxRecDepth 20000 in
theorem gX7_judge_X7_in : GoodIn wsX7_judge (va_wsS RX7 56 yX7_in wsX7_in) := goodIn_app (goodIn_of _ (by decide +kernel)) ggX7_judge_X7_in
set_option maxRecDepth 20000 in
theorem ggX7_judge_X7_thousandTo : GoodIn wsX7_judge wsX7_thousandTo := goodIn_r _ [9, 2] (by decide +kernel) (by decide +kernel)
set_option maxRecDepth 20000 in
theorem gX7_judge_X7_thousandTo : GoodIn wsX7_judge (va_wsS RX7 176 yX7_thousandTo wsX7_thousandTo) := goodIn_app (goodIn_of _ (by decide +kernel)) ggX7_judge_X7_thousandTo
set_option maxRecDepth 20000 in
theorem ggX7_judge_X7_layTrial : GoodIn wsX7_judge wsX7_layTrial := goodIn_r _ [13, 14, 81, 82, 83, 84, 85, 86, 87, 88, 89, 90, 91, 92, 93, 94, 95, 96, 97, 98, 99, 100, 101, 102, 103, 104] (by decide +kernel) (by decide +kernel)
set_option maxRecDepth 20000 in
theorem gX7_judge_X7_layTrial : GoodIn wsX7_judge (wsV RX7 131 RX7 yX7_layTrial wsX7_layTrial) := goodIn_app (goodIn_of _ (by decide +kernel)) ggX7_judge_X7_layTrial
set_option maxRecDepth 20000 in
theorem ggX7_judge_X7_tryThing : GoodIn wsX7_judge wsX7_tryThing := goodIn_r _ [18, 14, 19, 20, 21, 5, 22, 23, 24, 25, 26, 27, 28, 29, 30, 31, 32, 33, 34, 35, 36, 37, 38, 39, 40, 41, 42, 43, 44, 45, 46, 47, 48, 49, 50, 51, 52, 53, 54, 55, 56, 57, 58, 59, 60, 61, 62, 63, 64, 65, 66, 67, 68, 69, 3, 4, 6, 70, 71, 72, 73, 74, 75, 76, 77, 78, 79, 80, 81, 82, 83, 84, 85, 86, 87, 88, 89, 90, 91, 92, 93, 94, 95, 96, 97, 98, 99, 100, 101, 102, 103, 104] (by decide +kernel) (by decide +kernel)
set_option maxRecDepth 20000 in
theorem gX7_judge_X7_tryThing : GoodIn wsX7_judge (wsV RX7 180 RX7 yX7_tryThing wsX7_tryThing) := goodIn_app (goodIn_of _ (by decide +kernel)) ggX7_judge_X7_tryThing
theorem dX7_judge_0 : decode cX7_judge 0 = .ok (.iload_n 1, 1) := by decide +kernel
theorem dX7_judge_1 : decode cX7_judge 1 = .ok (.i2l, 1) := by decide +kernel
theorem dX7_judge_2 : decode cX7_judge 2 = .ok (.lconst 1, 1) := by decide +kernel
theorem dX7_judge_3 : decode cX7_judge 3 = .ok (.ldc2_w 166, 3) := by decide +kernel
theorem dX7_judge_6 : decode cX7_judge 6 = .ok (.invokestatic 56, 3) := by decide +kernel
theorem dX7_judge_9 : decode cX7_judge 9 = .ok (.ifCond .eq 17, 3) := by decide +kernel
theorem dX7_judge_12 : decode cX7_judge 12 = .ok (.lload_n 2, 1) := by decide +kernel
theorem dX7_judge_13 : decode cX7_judge 13 = .ok (.lconst 0, 1) := by decide +kernel
theorem dX7_judge_14 : decode cX7_judge 14 = .ok (.iload_n 1, 1) := by decide +kernel
theorem dX7_judge_15 : decode cX7_judge 15 = .ok (.invokestatic 176, 3) := by decide +kernel
theorem dX7_judge_18 : decode cX7_judge 18 = .ok (.lconst 1, 1) := by decide +kernel
theorem dX7_judge_19 : decode cX7_judge 19 = .ok (.lsub, 1) := by decide +kernel
theorem dX7_judge_20 : decode cX7_judge 20 = .ok (.invokestatic 56, 3) := by decide +kernel
theorem dX7_judge_23 : decode cX7_judge 23 = .ok (.ifCond .ne 6, 3) := by decide +kernel
theorem dX7_judge_26 : decode cX7_judge 26 = .ok (.bipush (-2), 2) := by decide +kernel
theorem dX7_judge_28 : decode cX7_judge 28 = .ok (.ireturn, 1) := by decide +kernel
theorem dX7_judge_29 : decode cX7_judge 29 = .ok (.aload_n 0, 1) := by decide +kernel
theorem dX7_judge_30 : decode cX7_judge 30 = .ok (.invokevirtual 131, 3) := by decide +kernel
theorem dX7_judge_33 : decode cX7_judge 33 = .ok (.iconst 0, 1) := by decide +kernel
theorem dX7_judge_34 : decode cX7_judge 34 = .ok (.istore 4, 2) := by decide +kernel
theorem dX7_judge_36 : decode cX7_judge 36 = .ok (.iload 4, 2) := by decide +kernel
theorem dX7_judge_38 : decode cX7_judge 38 = .ok (.iload_n 1, 1) := by decide +kernel
theorem dX7_judge_39 : decode cX7_judge 39 = .ok (.if_icmp .ge 47, 3) := by decide +kernel
theorem dX7_judge_42 : decode cX7_judge 42 = .ok (.lload_n 2, 1) := by decide +kernel
theorem dX7_judge_43 : decode cX7_judge 43 = .ok (.iload_n 1, 1) := by decide +kernel
theorem dX7_judge_44 : decode cX7_judge 44 = .ok (.iconst 1, 1) := by decide +kernel
theorem dX7_judge_45 : decode cX7_judge 45 = .ok (.isub, 1) := by decide +kernel
theorem dX7_judge_46 : decode cX7_judge 46 = .ok (.iload 4, 2) := by decide +kernel
theorem dX7_judge_48 : decode cX7_judge 48 = .ok (.isub, 1) := by decide +kernel
theorem dX7_judge_49 : decode cX7_judge 49 = .ok (.invokestatic 176, 3) := by decide +kernel
theorem dX7_judge_52 : decode cX7_judge 52 = .ok (.ldiv, 1) := by decide +kernel
theorem dX7_judge_53 : decode cX7_judge 53 = .ok (.ldc2_w 174, 3) := by decide +kernel
theorem dX7_judge_56 : decode cX7_judge 56 = .ok (.lrem, 1) := by decide +kernel
theorem dX7_judge_57 : decode cX7_judge 57 = .ok (.l2i, 1) := by decide +kernel
theorem dX7_judge_58 : decode cX7_judge 58 = .ok (.istore 5, 2) := by decide +kernel
theorem dX7_judge_60 : decode cX7_judge 60 = .ok (.aload_n 0, 1) := by decide +kernel
theorem dX7_judge_61 : decode cX7_judge 61 = .ok (.iload 5, 2) := by decide +kernel
theorem dX7_judge_63 : decode cX7_judge 63 = .ok (.bipush 100, 2) := by decide +kernel
theorem dX7_judge_65 : decode cX7_judge 65 = .ok (.idiv, 1) := by decide +kernel
theorem dX7_judge_66 : decode cX7_judge 66 = .ok (.iload 5, 2) := by decide +kernel
theorem dX7_judge_68 : decode cX7_judge 68 = .ok (.bipush 100, 2) := by decide +kernel
theorem dX7_judge_70 : decode cX7_judge 70 = .ok (.irem, 1) := by decide +kernel
theorem dX7_judge_71 : decode cX7_judge 71 = .ok (.invokevirtual 180, 3) := by decide +kernel
theorem dX7_judge_74 : decode cX7_judge 74 = .ok (.ifCond .ne 6, 3) := by decide +kernel
theorem dX7_judge_77 : decode cX7_judge 77 = .ok (.iload 4, 2) := by decide +kernel
theorem dX7_judge_79 : decode cX7_judge 79 = .ok (.ireturn, 1) := by decide +kernel
theorem dX7_judge_80 : decode cX7_judge 80 = .ok (.iinc 4 1, 3) := by decide +kernel
theorem dX7_judge_83 : decode cX7_judge 83 = .ok (.goto (-47), 3) := by decide +kernel
theorem dX7_judge_86 : decode cX7_judge 86 = .ok (.bipush (-9), 2) := by decide +kernel
theorem dX7_judge_88 : decode cX7_judge 88 = .ok (.ireturn, 1) := by decide +kernel
set_option maxRecDepth 20000 in
theorem ggX7_see_X7_isCell : GoodIn wsX7_see wsX7_isCell := goodIn_r _ [10, 11, 12, 13, 9, 14] (by decide +kernel) (by decide +kernel)
set_option maxRecDepth 20000 in
theorem gX7_see_X7_isCell : GoodIn wsX7_see (va_wsS RX7 128 yX7_isCell wsX7_isCell) := goodIn_app (goodIn_of _ (by decide +kernel)) ggX7_see_X7_isCell
set_option maxRecDepth 20000 in
theorem ggX7_see_X7_in : GoodIn wsX7_see wsX7_in := goodIn_r _ [14] (by decide +kernel) (by decide +kernel)
set_option maxRecDepth 20000 in
theorem gX7_see_X7_in : GoodIn wsX7_see (va_wsS RX7 56 yX7_in wsX7_in) := goodIn_app (goodIn_of _ (by decide +kernel)) ggX7_see_X7_in
theorem dX7_see_0 : decode cX7_see 0 = .ok (.iload_n 1, 1) := by decide +kernel
theorem dX7_see_1 : decode cX7_see 1 = .ok (.invokestatic 128, 3) := by decide +kernel
theorem dX7_see_4 : decode cX7_see 4 = .ok (.ifCond .ne 5, 3) := by decide +kernel
theorem dX7_see_7 : decode cX7_see 7 = .ok (.iconst (-1), 1) := by decide +kernel
theorem dX7_see_8 : decode cX7_see 8 = .ok (.ireturn, 1) := by decide +kernel
theorem dX7_see_9 : decode cX7_see 9 = .ok (.iload_n 2, 1) := by decide +kernel
theorem dX7_see_10 : decode cX7_see 10 = .ok (.i2l, 1) := by decide +kernel
theorem dX7_see_11 : decode cX7_see 11 = .ok (.lconst 0, 1) := by decide +kernel
theorem dX7_see_12 : decode cX7_see 12 = .ok (.ldc2_w 86, 3) := by decide +kernel
theorem dX7_see_15 : decode cX7_see 15 = .ok (.invokestatic 56, 3) := by decide +kernel
theorem dX7_see_18 : decode cX7_see 18 = .ok (.ifCond .eq 15, 3) := by decide +kernel
theorem dX7_see_21 : decode cX7_see 21 = .ok (.iload_n 3, 1) := by decide +kernel
theorem dX7_see_22 : decode cX7_see 22 = .ok (.i2l, 1) := by decide +kernel
theorem dX7_see_23 : decode cX7_see 23 = .ok (.lconst 0, 1) := by decide +kernel
theorem dX7_see_24 : decode cX7_see 24 = .ok (.ldc2_w 183, 3) := by decide +kernel
theorem dX7_see_27 : decode cX7_see 27 = .ok (.invokestatic 56, 3) := by decide +kernel
theorem dX7_see_30 : decode cX7_see 30 = .ok (.ifCond .ne 6, 3) := by decide +kernel
theorem dX7_see_33 : decode cX7_see 33 = .ok (.bipush (-2), 2) := by decide +kernel
theorem dX7_see_35 : decode cX7_see 35 = .ok (.ireturn, 1) := by decide +kernel
theorem dX7_see_36 : decode cX7_see 36 = .ok (.aload_n 0, 1) := by decide +kernel
theorem dX7_see_37 : decode cX7_see 37 = .ok (.getfield 185, 3) := by decide +kernel
theorem dX7_see_40 : decode cX7_see 40 = .ok (.bipush 6, 2) := by decide +kernel
theorem dX7_see_42 : decode cX7_see 42 = .ok (.if_icmp .ne 6, 3) := by decide +kernel
theorem dX7_see_45 : decode cX7_see 45 = .ok (.bipush (-4), 2) := by decide +kernel
theorem dX7_see_47 : decode cX7_see 47 = .ok (.ireturn, 1) := by decide +kernel
theorem dX7_see_48 : decode cX7_see 48 = .ok (.aload_n 0, 1) := by decide +kernel
theorem dX7_see_49 : decode cX7_see 49 = .ok (.getfield 38, 3) := by decide +kernel
theorem dX7_see_52 : decode cX7_see 52 = .ok (.aload_n 0, 1) := by decide +kernel
theorem dX7_see_53 : decode cX7_see 53 = .ok (.getfield 185, 3) := by decide +kernel
theorem dX7_see_56 : decode cX7_see 56 = .ok (.iload_n 1, 1) := by decide +kernel
theorem dX7_see_57 : decode cX7_see 57 = .ok (.iastore, 1) := by decide +kernel
theorem dX7_see_58 : decode cX7_see 58 = .ok (.aload_n 0, 1) := by decide +kernel
theorem dX7_see_59 : decode cX7_see 59 = .ok (.getfield 41, 3) := by decide +kernel
theorem dX7_see_62 : decode cX7_see 62 = .ok (.aload_n 0, 1) := by decide +kernel
theorem dX7_see_63 : decode cX7_see 63 = .ok (.getfield 185, 3) := by decide +kernel
theorem dX7_see_66 : decode cX7_see 66 = .ok (.iload_n 2, 1) := by decide +kernel
theorem dX7_see_67 : decode cX7_see 67 = .ok (.iastore, 1) := by decide +kernel
theorem dX7_see_68 : decode cX7_see 68 = .ok (.aload_n 0, 1) := by decide +kernel
theorem dX7_see_69 : decode cX7_see 69 = .ok (.getfield 44, 3) := by decide +kernel
theorem dX7_see_72 : decode cX7_see 72 = .ok (.aload_n 0, 1) := by decide +kernel
theorem dX7_see_73 : decode cX7_see 73 = .ok (.getfield 185, 3) := by decide +kernel
theorem dX7_see_76 : decode cX7_see 76 = .ok (.iload_n 3, 1) := by decide +kernel
theorem dX7_see_77 : decode cX7_see 77 = .ok (.iastore, 1) := by decide +kernel
theorem dX7_see_78 : decode cX7_see 78 = .ok (.aload_n 0, 1) := by decide +kernel
theorem dX7_see_79 : decode cX7_see 79 = .ok (.dup, 1) := by decide +kernel
theorem dX7_see_80 : decode cX7_see 80 = .ok (.getfield 185, 3) := by decide +kernel
theorem dX7_see_83 : decode cX7_see 83 = .ok (.iconst 1, 1) := by decide +kernel
theorem dX7_see_84 : decode cX7_see 84 = .ok (.iadd, 1) := by decide +kernel
theorem dX7_see_85 : decode cX7_see 85 = .ok (.putfield 185, 3) := by decide +kernel
theorem dX7_see_88 : decode cX7_see 88 = .ok (.aload_n 0, 1) := by decide +kernel
theorem dX7_see_89 : decode cX7_see 89 = .ok (.getfield 185, 3) := by decide +kernel
theorem dX7_see_92 : decode cX7_see 92 = .ok (.ireturn, 1) := by decide +kernel
theorem dX7_unsee_0 : decode cX7_unsee 0 = .ok (.aload_n 0, 1) := by decide +kernel
theorem dX7_unsee_1 : decode cX7_unsee 1 = .ok (.getfield 185, 3) := by decide +kernel
theorem dX7_unsee_4 : decode cX7_unsee 4 = .ok (.istore_n 1, 1) := by decide +kernel
theorem dX7_unsee_5 : decode cX7_unsee 5 = .ok (.aload_n 0, 1) := by decide +kernel
theorem dX7_unsee_6 : decode cX7_unsee 6 = .ok (.iconst 0, 1) := by decide +kernel
theorem dX7_unsee_7 : decode cX7_unsee 7 = .ok (.putfield 185, 3) := by decide +kernel
theorem dX7_unsee_10 : decode cX7_unsee 10 = .ok (.iload_n 1, 1) := by decide +kernel
theorem dX7_unsee_11 : decode cX7_unsee 11 = .ok (.ireturn, 1) := by decide +kernel
set_option maxRecDepth 20000 in
theorem ggX7_alone_X7_onward : GoodIn wsX7_alone wsX7_onward := goodIn_r _ [5] (by decide +kernel) (by decide +kernel)
set_option maxRecDepth 20000 in
theorem gX7_alone_X7_onward : GoodIn wsX7_alone (va_wsS RX7 98 yX7_onward wsX7_onward) := goodIn_app (goodIn_of _ (by decide +kernel)) ggX7_alone_X7_onward
