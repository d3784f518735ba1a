set_option maxRecDepth 20000 in
theorem ggX4_init_X4_near : GoodIn wsX4_init wsX4_near := goodIn_r _ [29] (by decide +kernel) (by decide +kernel)
set_option maxRecDepth 20000 in
theorem gX4_init_X4_near : GoodIn wsX4_init (va_wsS RX4 56 yX4_near wsX4_near) := goodIn_app (goodIn_of _ (by decide +kernel)) ggX4_init_X4_near
set_option maxRecDepth 20000 in
theorem ggX4_init_X4_init_ : GoodIn wsX4_init wsX4_init_ := goodIn_r _ [33, 5, 7, 8, 23, 34, 35, 36, 37, 38, 39, 40, 41, 42, 43, 44, 45, 46, 47, 48, 49, 50, 51, 52, 53, 54, 55, 56, 57] (by decide +kernel) (by decide +kernel)
set_option maxRecDepth 20000 in
theorem gX4_init_X4_init_ : GoodIn wsX4_init (wsV RX4 76 RX4 yX4_init_ wsX4_init_) := goodIn_app (goodIn_of _ (by decide +kernel)) ggX4_init_X4_init_
theorem dX4_init_0 : decode cX4_init 0 = .ok (.aload_n 0, 1) := by decide +kernel
theorem dX4_init_1 : decode cX4_init 1 = .ok (.invokespecial 1, 3) := by decide +kernel
theorem dX4_init_4 : decode cX4_init 4 = .ok (.aload_n 0, 1) := by decide +kernel
theorem dX4_init_5 : decode cX4_init 5 = .ok (.sipush 1024, 3) := by decide +kernel
theorem dX4_init_8 : decode cX4_init 8 = .ok (.newarray .boolean, 2) := by decide +kernel
theorem dX4_init_10 : decode cX4_init 10 = .ok (.putfield 7, 3) := by decide +kernel
theorem dX4_init_13 : decode cX4_init 13 = .ok (.aload_n 0, 1) := by decide +kernel
theorem dX4_init_14 : decode cX4_init 14 = .ok (.sipush 1024, 3) := by decide +kernel
theorem dX4_init_17 : decode cX4_init 17 = .ok (.newarray .int, 2) := by decide +kernel
theorem dX4_init_19 : decode cX4_init 19 = .ok (.putfield 13, 3) := by decide +kernel
theorem dX4_init_22 : decode cX4_init 22 = .ok (.aload_n 0, 1) := by decide +kernel
theorem dX4_init_23 : decode cX4_init 23 = .ok (.bipush 8, 2) := by decide +kernel
theorem dX4_init_25 : decode cX4_init 25 = .ok (.newarray .int, 2) := by decide +kernel
theorem dX4_init_27 : decode cX4_init 27 = .ok (.putfield 17, 3) := by decide +kernel
theorem dX4_init_30 : decode cX4_init 30 = .ok (.aload_n 0, 1) := by decide +kernel
theorem dX4_init_31 : decode cX4_init 31 = .ok (.bipush 8, 2) := by decide +kernel
theorem dX4_init_33 : decode cX4_init 33 = .ok (.newarray .int, 2) := by decide +kernel
theorem dX4_init_35 : decode cX4_init 35 = .ok (.putfield 20, 3) := by decide +kernel
theorem dX4_init_38 : decode cX4_init 38 = .ok (.aload_n 0, 1) := by decide +kernel
theorem dX4_init_39 : decode cX4_init 39 = .ok (.bipush 8, 2) := by decide +kernel
theorem dX4_init_41 : decode cX4_init 41 = .ok (.newarray .int, 2) := by decide +kernel
theorem dX4_init_43 : decode cX4_init 43 = .ok (.putfield 23, 3) := by decide +kernel
theorem dX4_init_46 : decode cX4_init 46 = .ok (.aload_n 0, 1) := by decide +kernel
theorem dX4_init_47 : decode cX4_init 47 = .ok (.sipush 800, 3) := by decide +kernel
theorem dX4_init_50 : decode cX4_init 50 = .ok (.newarray .int, 2) := by decide +kernel
theorem dX4_init_52 : decode cX4_init 52 = .ok (.putfield 26, 3) := by decide +kernel
theorem dX4_init_55 : decode cX4_init 55 = .ok (.aload_n 0, 1) := by decide +kernel
theorem dX4_init_56 : decode cX4_init 56 = .ok (.bipush 8, 2) := by decide +kernel
theorem dX4_init_58 : decode cX4_init 58 = .ok (.newarray .int, 2) := by decide +kernel
theorem dX4_init_60 : decode cX4_init 60 = .ok (.putfield 29, 3) := by decide +kernel
theorem dX4_init_63 : decode cX4_init 63 = .ok (.aload_n 0, 1) := by decide +kernel
theorem dX4_init_64 : decode cX4_init 64 = .ok (.bipush 64, 2) := by decide +kernel
theorem dX4_init_66 : decode cX4_init 66 = .ok (.newarray .int, 2) := by decide +kernel
theorem dX4_init_68 : decode cX4_init 68 = .ok (.putfield 32, 3) := by decide +kernel
theorem dX4_init_71 : decode cX4_init 71 = .ok (.aload_n 0, 1) := by decide +kernel
theorem dX4_init_72 : decode cX4_init 72 = .ok (.bipush 8, 2) := by decide +kernel
theorem dX4_init_74 : decode cX4_init 74 = .ok (.newarray .int, 2) := by decide +kernel
theorem dX4_init_76 : decode cX4_init 76 = .ok (.putfield 35, 3) := by decide +kernel
theorem dX4_init_79 : decode cX4_init 79 = .ok (.aload_n 0, 1) := by decide +kernel
theorem dX4_init_80 : decode cX4_init 80 = .ok (.bipush 8, 2) := by decide +kernel
theorem dX4_init_82 : decode cX4_init 82 = .ok (.newarray .int, 2) := by decide +kernel
theorem dX4_init_84 : decode cX4_init 84 = .ok (.putfield 38, 3) := by decide +kernel
theorem dX4_init_87 : decode cX4_init 87 = .ok (.aload_n 0, 1) := by decide +kernel
theorem dX4_init_88 : decode cX4_init 88 = .ok (.sipush 128, 3) := by decide +kernel
theorem dX4_init_91 : decode cX4_init 91 = .ok (.newarray .int, 2) := by decide +kernel
theorem dX4_init_93 : decode cX4_init 93 = .ok (.putfield 41, 3) := by decide +kernel
theorem dX4_init_96 : decode cX4_init 96 = .ok (.aload_n 0, 1) := by decide +kernel
theorem dX4_init_97 : decode cX4_init 97 = .ok (.bipush 8, 2) := by decide +kernel
theorem dX4_init_99 : decode cX4_init 99 = .ok (.newarray .int, 2) := by decide +kernel
theorem dX4_init_101 : decode cX4_init 101 = .ok (.putfield 44, 3) := by decide +kernel
theorem dX4_init_104 : decode cX4_init 104 = .ok (.aload_n 0, 1) := by decide +kernel
theorem dX4_init_105 : decode cX4_init 105 = .ok (.bipush 8, 2) := by decide +kernel
theorem dX4_init_107 : decode cX4_init 107 = .ok (.newarray .int, 2) := by decide +kernel
theorem dX4_init_109 : decode cX4_init 109 = .ok (.putfield 47, 3) := by decide +kernel
theorem dX4_init_112 : decode cX4_init 112 = .ok (.aload_n 0, 1) := by decide +kernel
theorem dX4_init_113 : decode cX4_init 113 = .ok (.bipush 8, 2) := by decide +kernel
theorem dX4_init_115 : decode cX4_init 115 = .ok (.newarray .int, 2) := by decide +kernel
theorem dX4_init_117 : decode cX4_init 117 = .ok (.putfield 50, 3) := by decide +kernel
theorem dX4_init_120 : decode cX4_init 120 = .ok (.aload_n 0, 1) := by decide +kernel
theorem dX4_init_121 : decode cX4_init 121 = .ok (.sipush 1024, 3) := by decide +kernel
theorem dX4_init_124 : decode cX4_init 124 = .ok (.newarray .int, 2) := by decide +kernel
theorem dX4_init_126 : decode cX4_init 126 = .ok (.putfield 53, 3) := by decide +kernel
theorem dX4_init_129 : decode cX4_init 129 = .ok (.aload_n 0, 1) := by decide +kernel
theorem dX4_init_130 : decode cX4_init 130 = .ok (.iload_n 1, 1) := by decide +kernel
theorem dX4_init_131 : decode cX4_init 131 = .ok (.iconst 1, 1) := by decide +kernel
theorem dX4_init_132 : decode cX4_init 132 = .ok (.bipush 32, 2) := by decide +kernel
theorem dX4_init_134 : decode cX4_init 134 = .ok (.invokestatic 56, 3) := by decide +kernel
theorem dX4_init_137 : decode cX4_init 137 = .ok (.putfield 60, 3) := by decide +kernel
theorem dX4_init_140 : decode cX4_init 140 = .ok (.aload_n 0, 1) := by decide +kernel
theorem dX4_init_141 : decode cX4_init 141 = .ok (.iload_n 2, 1) := by decide +kernel
theorem dX4_init_142 : decode cX4_init 142 = .ok (.iconst 1, 1) := by decide +kernel
theorem dX4_init_143 : decode cX4_init 143 = .ok (.bipush 32, 2) := by decide +kernel
theorem dX4_init_145 : decode cX4_init 145 = .ok (.invokestatic 56, 3) := by decide +kernel
theorem dX4_init_148 : decode cX4_init 148 = .ok (.putfield 64, 3) := by decide +kernel
theorem dX4_init_151 : decode cX4_init 151 = .ok (.aload_n 0, 1) := by decide +kernel
theorem dX4_init_152 : decode cX4_init 152 = .ok (.iload_n 3, 1) := by decide +kernel
theorem dX4_init_153 : decode cX4_init 153 = .ok (.iconst 1, 1) := by decide +kernel
theorem dX4_init_154 : decode cX4_init 154 = .ok (.bipush 8, 2) := by decide +kernel
theorem dX4_init_156 : decode cX4_init 156 = .ok (.invokestatic 56, 3) := by decide +kernel
theorem dX4_init_159 : decode cX4_init 159 = .ok (.putfield 67, 3) := by decide +kernel
theorem dX4_init_162 : decode cX4_init 162 = .ok (.aload_n 0, 1) := by decide +kernel
theorem dX4_init_163 : decode cX4_init 163 = .ok (.iload 4, 2) := by decide +kernel
theorem dX4_init_165 : decode cX4_init 165 = .ok (.iconst 1, 1) := by decide +kernel
theorem dX4_init_166 : decode cX4_init 166 = .ok (.bipush 100, 2) := by decide +kernel
theorem dX4_init_168 : decode cX4_init 168 = .ok (.invokestatic 56, 3) := by decide +kernel
theorem dX4_init_171 : decode cX4_init 171 = .ok (.putfield 70, 3) := by decide +kernel
theorem dX4_init_174 : decode cX4_init 174 = .ok (.aload_n 0, 1) := by decide +kernel
theorem dX4_init_175 : decode cX4_init 175 = .ok (.iload 5, 2) := by decide +kernel
theorem dX4_init_177 : decode cX4_init 177 = .ok (.iconst 1, 1) := by decide +kernel
theorem dX4_init_178 : decode cX4_init 178 = .ok (.bipush 16, 2) := by decide +kernel
theorem dX4_init_180 : decode cX4_init 180 = .ok (.invokestatic 56, 3) := by decide +kernel
theorem dX4_init_183 : decode cX4_init 183 = .ok (.putfield 73, 3) := by decide +kernel
theorem dX4_init_186 : decode cX4_init 186 = .ok (.aload_n 0, 1) := by decide +kernel
theorem dX4_init_187 : decode cX4_init 187 = .ok (.invokevirtual 76, 3) := by decide +kernel
theorem dX4_init_190 : decode cX4_init 190 = .ok (.return_, 1) := by decide +kernel
theorem dX4_near_0 : decode cX4_near 0 = .ok (.iload_n 0, 1) := by decide +kernel
theorem dX4_near_1 : decode cX4_near 1 = .ok (.iload_n 1, 1) := by decide +kernel
theorem dX4_near_2 : decode cX4_near 2 = .ok (.if_icmp .ge 7, 3) := by decide +kernel
theorem dX4_near_5 : decode cX4_near 5 = .ok (.iload_n 1, 1) := by decide +kernel
theorem dX4_near_6 : decode cX4_near 6 = .ok (.goto 13, 3) := by decide +kernel
theorem dX4_near_9 : decode cX4_near 9 = .ok (.iload_n 0, 1) := by decide +kernel
theorem dX4_near_10 : decode cX4_near 10 = .ok (.iload_n 2, 1) := by decide +kernel
theorem dX4_near_11 : decode cX4_near 11 = .ok (.if_icmp .le 7, 3) := by decide +kernel
theorem dX4_near_14 : decode cX4_near 14 = .ok (.iload_n 2, 1) := by decide +kernel
theorem dX4_near_15 : decode cX4_near 15 = .ok (.goto 4, 3) := by decide +kernel
theorem dX4_near_18 : decode cX4_near 18 = .ok (.iload_n 0, 1) := by decide +kernel
theorem dX4_near_19 : decode cX4_near 19 = .ok (.ireturn, 1) := by decide +kernel
theorem dX4_in_0 : decode cX4_in 0 = .ok (.iload_n 0, 1) := by decide +kernel
theorem dX4_in_1 : decode cX4_in 1 = .ok (.iload_n 1, 1) := by decide +kernel
theorem dX4_in_2 : decode cX4_in 2 = .ok (.if_icmp .lt 12, 3) := by decide +kernel
theorem dX4_in_5 : decode cX4_in 5 = .ok (.iload_n 0, 1) := by decide +kernel
theorem dX4_in_6 : decode cX4_in 6 = .ok (.iload_n 2, 1) := by decide +kernel
theorem dX4_in_7 : decode cX4_in 7 = .ok (.if_icmp .gt 7, 3) := by decide +kernel
theorem dX4_in_10 : decode cX4_in 10 = .ok (.iconst 1, 1) := by decide +kernel
theorem dX4_in_11 : decode cX4_in 11 = .ok (.goto 4, 3) := by decide +kernel
theorem dX4_in_14 : decode cX4_in 14 = .ok (.iconst 0, 1) := by decide +kernel
theorem dX4_in_15 : decode cX4_in 15 = .ok (.ireturn, 1) := by decide +kernel
theorem dX4_init__0 : decode cX4_init_ 0 = .ok (.iconst 0, 1) := by decide +kernel
theorem dX4_init__1 : decode cX4_init_ 1 = .ok (.istore_n 1, 1) := by decide +kernel
theorem dX4_init__2 : decode cX4_init_ 2 = .ok (.iload_n 1, 1) := by decide +kernel
theorem dX4_init__3 : decode cX4_init_ 3 = .ok (.sipush 1024, 3) := by decide +kernel
theorem dX4_init__6 : decode cX4_init_ 6 = .ok (.if_icmp .ge 23, 3) := by decide +kernel
theorem dX4_init__9 : decode cX4_init_ 9 = .ok (.aload_n 0, 1) := by decide +kernel
theorem dX4_init__10 : decode cX4_init_ 10 = .ok (.getfield 7, 3) := by decide +kernel
theorem dX4_init__13 : decode cX4_init_ 13 = .ok (.iload_n 1, 1) := by decide +kernel
theorem dX4_init__14 : decode cX4_init_ 14 = .ok (.iconst 0, 1) := by decide +kernel
theorem dX4_init__15 : decode cX4_init_ 15 = .ok (.bastore, 1) := by decide +kernel
theorem dX4_init__16 : decode cX4_init_ 16 = .ok (.aload_n 0, 1) := by decide +kernel
theorem dX4_init__17 : decode cX4_init_ 17 = .ok (.getfield 13, 3) := by decide +kernel
theorem dX4_init__20 : decode cX4_init_ 20 = .ok (.iload_n 1, 1) := by decide +kernel
theorem dX4_init__21 : decode cX4_init_ 21 = .ok (.iconst 0, 1) := by decide +kernel
theorem dX4_init__22 : decode cX4_init_ 22 = .ok (.iastore, 1) := by decide +kernel
theorem dX4_init__23 : decode cX4_init_ 23 = .ok (.iinc 1 1, 3) := by decide +kernel
theorem dX4_init__26 : decode cX4_init_ 26 = .ok (.goto (-24), 3) := by decide +kernel
theorem dX4_init__29 : decode cX4_init_ 29 = .ok (.iconst 0, 1) := by decide +kernel
theorem dX4_init__30 : decode cX4_init_ 30 = .ok (.istore_n 1, 1) := by decide +kernel
theorem dX4_init__31 : decode cX4_init_ 31 = .ok (.iload_n 1, 1) := by decide +kernel
theorem dX4_init__32 : decode cX4_init_ 32 = .ok (.bipush 8, 2) := by decide +kernel
theorem dX4_init__34 : decode cX4_init_ 34 = .ok (.if_icmp .ge 16, 3) := by decide +kernel
theorem dX4_init__37 : decode cX4_init_ 37 = .ok (.aload_n 0, 1) := by decide +kernel
theorem dX4_init__38 : decode cX4_init_ 38 = .ok (.getfield 17, 3) := by decide +kernel
theorem dX4_init__41 : decode cX4_init_ 41 = .ok (.iload_n 1, 1) := by decide +kernel
theorem dX4_init__42 : decode cX4_init_ 42 = .ok (.iconst 0, 1) := by decide +kernel
theorem dX4_init__43 : decode cX4_init_ 43 = .ok (.iastore, 1) := by decide +kernel
theorem dX4_init__44 : decode cX4_init_ 44 = .ok (.iinc 1 1, 3) := by decide +kernel
theorem dX4_init__47 : decode cX4_init_ 47 = .ok (.goto (-16), 3) := by decide +kernel
theorem dX4_init__50 : decode cX4_init_ 50 = .ok (.aload_n 0, 1) := by decide +kernel
theorem dX4_init__51 : decode cX4_init_ 51 = .ok (.aload_n 0, 1) := by decide +kernel
theorem dX4_init__52 : decode cX4_init_ 52 = .ok (.getfield 67, 3) := by decide +kernel
theorem dX4_init__55 : decode cX4_init_ 55 = .ok (.iconst 1, 1) := by decide +kernel
theorem dX4_init__56 : decode cX4_init_ 56 = .ok (.isub, 1) := by decide +kernel
theorem dX4_init__57 : decode cX4_init_ 57 = .ok (.putfield 79, 3) := by decide +kernel
theorem dX4_init__60 : decode cX4_init_ 60 = .ok (.aload_n 0, 1) := by decide +kernel
theorem dX4_init__61 : decode cX4_init_ 61 = .ok (.iconst 0, 1) := by decide +kernel
theorem dX4_init__62 : decode cX4_init_ 62 = .ok (.putfield 82, 3) := by decide +kernel
theorem dX4_init__65 : decode cX4_init_ 65 = .ok (.return_, 1) := by decide +kernel
set_option maxRecDepth 20000 in
theorem ggX4_isInside_X4_in : GoodIn wsX4_isInside wsX4_in := goodIn_r _ [6] (by decide +kernel) (by decide +kernel)
set_option maxRecDepth 20000 in
theorem gX4_isInside_X4_in : GoodIn wsX4_isInside (va_wsS RX4 85 yX4_in wsX4_in) := goodIn_app (goodIn_of _ (by decide +kernel)) ggX4_isInside_X4_in
theorem dX4_isInside_0 : decode cX4_isInside 0 = .ok (.iload_n 1, 1) := by decide +kernel
theorem dX4_isInside_1 : decode cX4_isInside 1 = .ok (.iconst 0, 1) := by decide +kernel
theorem dX4_isInside_2 : decode cX4_isInside 2 = .ok (.aload_n 0, 1) := by decide +kernel
theorem dX4_isInside_3 : decode cX4_isInside 3 = .ok (.getfield 60, 3) := by decide +kernel
theorem dX4_isInside_6 : decode cX4_isInside 6 = .ok (.iconst 1, 1) := by decide +kernel
theorem dX4_isInside_7 : decode cX4_isInside 7 = .ok (.isub, 1) := by decide +kernel
theorem dX4_isInside_8 : decode cX4_isInside 8 = .ok (.invokestatic 85, 3) := by decide +kernel
theorem dX4_isInside_11 : decode cX4_isInside 11 = .ok (.ifCond .eq 21, 3) := by decide +kernel
theorem dX4_isInside_14 : decode cX4_isInside 14 = .ok (.iload_n 2, 1) := by decide +kernel
theorem dX4_isInside_15 : decode cX4_isInside 15 = .ok (.iconst 0, 1) := by decide +kernel
theorem dX4_isInside_16 : decode cX4_isInside 16 = .ok (.aload_n 0, 1) := by decide +kernel
theorem dX4_isInside_17 : decode cX4_isInside 17 = .ok (.getfield 64, 3) := by decide +kernel
theorem dX4_isInside_20 : decode cX4_isInside 20 = .ok (.iconst 1, 1) := by decide +kernel
theorem dX4_isInside_21 : decode cX4_isInside 21 = .ok (.isub, 1) := by decide +kernel
theorem dX4_isInside_22 : decode cX4_isInside 22 = .ok (.invokestatic 85, 3) := by decide +kernel
theorem dX4_isInside_25 : decode cX4_isInside 25 = .ok (.ifCond .eq 7, 3) := by decide +kernel
theorem dX4_isInside_28 : decode cX4_isInside 28 = .ok (.iconst 1, 1) := by decide +kernel
theorem dX4_isInside_29 : decode cX4_isInside 29 = .ok (.goto 4, 3) := by decide +kernel
theorem dX4_isInside_32 : decode cX4_isInside 32 = .ok (.iconst 0, 1) := by decide +kernel
theorem dX4_isInside_33 : decode cX4_isInside 33 = .ok (.ireturn, 1) := by decide +kernel
theorem dX4_square_0 : decode cX4_square 0 = .ok (.bipush 32, 2) := by decide +kernel
theorem dX4_square_2 : decode cX4_square 2 = .ok (.iload_n 1, 1) := by decide +kernel
theorem dX4_square_3 : decode cX4_square 3 = .ok (.imul, 1) := by decide +kernel
theorem dX4_square_4 : decode cX4_square 4 = .ok (.iload_n 0, 1) := by decide +kernel
theorem dX4_square_5 : decode cX4_square 5 = .ok (.iadd, 1) := by decide +kernel
theorem dX4_square_6 : decode cX4_square 6 = .ok (.ireturn, 1) := by decide +kernel
theorem dX4_robotAt_0 : decode cX4_robotAt 0 = .ok (.iconst 0, 1) := by decide +kernel
theorem dX4_robotAt_1 : decode cX4_robotAt 1 = .ok (.istore_n 3, 1) := by decide +kernel
theorem dX4_robotAt_2 : decode cX4_robotAt 2 = .ok (.iload_n 3, 1) := by decide +kernel
theorem dX4_robotAt_3 : decode cX4_robotAt 3 = .ok (.aload_n 0, 1) := by decide +kernel
theorem dX4_robotAt_4 : decode cX4_robotAt 4 = .ok (.getfield 67, 3) := by decide +kernel
theorem dX4_robotAt_7 : decode cX4_robotAt 7 = .ok (.if_icmp .ge 40, 3) := by decide +kernel
theorem dX4_robotAt_10 : decode cX4_robotAt 10 = .ok (.aload_n 0, 1) := by decide +kernel
theorem dX4_robotAt_11 : decode cX4_robotAt 11 = .ok (.getfield 17, 3) := by decide +kernel
theorem dX4_robotAt_14 : decode cX4_robotAt 14 = .ok (.iload_n 3, 1) := by decide +kernel
theorem dX4_robotAt_15 : decode cX4_robotAt 15 = .ok (.iaload, 1) := by decide +kernel
theorem dX4_robotAt_16 : decode cX4_robotAt 16 = .ok (.ifCond .le 25, 3) := by decide +kernel
theorem dX4_robotAt_19 : decode cX4_robotAt 19 = .ok (.aload_n 0, 1) := by decide +kernel
theorem dX4_robotAt_20 : decode cX4_robotAt 20 = .ok (.getfield 20, 3) := by decide +kernel
theorem dX4_robotAt_23 : decode cX4_robotAt 23 = .ok (.iload_n 3, 1) := by decide +kernel
theorem dX4_robotAt_24 : decode cX4_robotAt 24 = .ok (.iaload, 1) := by decide +kernel
theorem dX4_robotAt_25 : decode cX4_robotAt 25 = .ok (.iload_n 1, 1) := by decide +kernel
theorem dX4_robotAt_26 : decode cX4_robotAt 26 = .ok (.if_icmp .ne 15, 3) := by decide +kernel
theorem dX4_robotAt_29 : decode cX4_robotAt 29 = .ok (.aload_n 0, 1) := by decide +kernel
theorem dX4_robotAt_30 : decode cX4_robotAt 30 = .ok (.getfield 23, 3) := by decide +kernel
theorem dX4_robotAt_33 : decode cX4_robotAt 33 = .ok (.iload_n 3, 1) := by decide +kernel
theorem dX4_robotAt_34 : decode cX4_robotAt 34 = .ok (.iaload, 1) := by decide +kernel
theorem dX4_robotAt_35 : decode cX4_robotAt 35 = .ok (.iload_n 2, 1) := by decide +kernel
theorem dX4_robotAt_36 : decode cX4_robotAt 36 = .ok (.if_icmp .ne 5, 3) := by decide +kernel
theorem dX4_robotAt_39 : decode cX4_robotAt 39 = .ok (.iload_n 3, 1) := by decide +kernel
theorem dX4_robotAt_40 : decode cX4_robotAt 40 = .ok (.ireturn, 1) := by decide +kernel
theorem dX4_robotAt_41 : decode cX4_robotAt 41 = .ok (.iinc 3 1, 3) := by decide +kernel
theorem dX4_robotAt_44 : decode cX4_robotAt 44 = .ok (.goto (-42), 3) := by decide +kernel
theorem dX4_robotAt_47 : decode cX4_robotAt 47 = .ok (.iconst (-1), 1) := by decide +kernel
theorem dX4_robotAt_48 : decode cX4_robotAt 48 = .ok (.ireturn, 1) := by decide +kernel
set_option maxRecDepth 20000 in
theorem ggX4_setWall_X4_isInside : GoodIn wsX4_setWall wsX4_isInside := goodIn_r _ [7, 8, 9, 10, 11, 6, 12, 24, 25, 26, 27, 28, 29, 30, 31, 32, 33, 34, 35, 36, 37, 38, 39, 40, 41, 42, 43, 44, 45] (by decide +kernel) (by decide +kernel)
set_option maxRecDepth 20000 in
theorem gX4_setWall_X4_isInside : GoodIn wsX4_setWall (wsV RX4 89 RX4 yX4_isInside wsX4_isInside) := goodIn_app (goodIn_of _ (by decide +kernel)) ggX4_setWall_X4_isInside
set_option maxRecDepth 20000 in
theorem ggX4_setWall_X4_robotAt : GoodIn wsX4_setWall wsX4_robotAt := goodIn_r _ [16, 17, 18, 19, 20, 24, 25, 26, 27, 28, 29, 30, 31, 32, 33, 34, 35, 36, 37, 38, 39, 40, 41, 42, 43, 44, 45] (by decide +kernel) (by decide +kernel)
set_option maxRecDepth 20000 in
theorem gX4_setWall_X4_robotAt : GoodIn wsX4_setWall (wsV RX4 93 RX4 yX4_robotAt wsX4_robotAt) := goodIn_app (goodIn_of _ (by decide +kernel)) ggX4_setWall_X4_robotAt
set_option maxRecDepth 20000 in
theorem ggX4_setWall_X4_square : GoodIn wsX4_setWall wsX4_square := goodIn_r _ [23] (by decide +kernel) (by decide +kernel)
set_option maxRecDepth 20000 in
theorem gX4_setWall_X4_square : GoodIn wsX4_setWall (va_wsS RX4 97 yX4_square wsX4_square) := goodIn_app (goodIn_of _ (by decide +kernel)) ggX4_setWall_X4_square
theorem dX4_setWall_0 : decode cX4_setWall 0 = .ok (.aload_n 0, 1) := by decide +kernel
theorem dX4_setWall_1 : decode cX4_setWall 1 = .ok (.iload_n 1, 1) := by decide +kernel
theorem dX4_setWall_2 : decode cX4_setWall 2 = .ok (.iload_n 2, 1) := by decide +kernel
theorem dX4_setWall_3 : decode cX4_setWall 3 = .ok (.invokevirtual 89, 3) := by decide +kernel
theorem dX4_setWall_6 : decode cX4_setWall 6 = .ok (.ifCond .eq 12, 3) := by decide +kernel
theorem dX4_setWall_9 : decode cX4_setWall 9 = .ok (.aload_n 0, 1) := by decide +kernel
theorem dX4_setWall_10 : decode cX4_setWall 10 = .ok (.iload_n 1, 1) := by decide +kernel
theorem dX4_setWall_11 : decode cX4_setWall 11 = .ok (.iload_n 2, 1) := by decide +kernel
theorem dX4_setWall_12 : decode cX4_setWall 12 = .ok (.invokevirtual 93, 3) := by decide +kernel
theorem dX4_setWall_15 : decode cX4_setWall 15 = .ok (.ifCond .lt 5, 3) := by decide +kernel
theorem dX4_setWall_18 : decode cX4_setWall 18 = .ok (.iconst 0, 1) := by decide +kernel
theorem dX4_setWall_19 : decode cX4_setWall 19 = .ok (.ireturn, 1) := by decide +kernel
theorem dX4_setWall_20 : decode cX4_setWall 20 = .ok (.aload_n 0, 1) := by decide +kernel
theorem dX4_setWall_21 : decode cX4_setWall 21 = .ok (.getfield 7, 3) := by decide +kernel
theorem dX4_setWall_24 : decode cX4_setWall 24 = .ok (.iload_n 1, 1) := by decide +kernel
theorem dX4_setWall_25 : decode cX4_setWall 25 = .ok (.iload_n 2, 1) := by decide +kernel
theorem dX4_setWall_26 : decode cX4_setWall 26 = .ok (.invokestatic 97, 3) := by decide +kernel
theorem dX4_setWall_29 : decode cX4_setWall 29 = .ok (.iload_n 3, 1) := by decide +kernel
theorem dX4_setWall_30 : decode cX4_setWall 30 = .ok (.bastore, 1) := by decide +kernel
theorem dX4_setWall_31 : decode cX4_setWall 31 = .ok (.aload_n 0, 1) := by decide +kernel
theorem dX4_setWall_32 : decode cX4_setWall 32 = .ok (.getfield 13, 3) := by decide +kernel
theorem dX4_setWall_35 : decode cX4_setWall 35 = .ok (.iload_n 1, 1) := by decide +kernel
theorem dX4_setWall_36 : decode cX4_setWall 36 = .ok (.iload_n 2, 1) := by decide +kernel
theorem dX4_setWall_37 : decode cX4_setWall 37 = .ok (.invokestatic 97, 3) := by decide +kernel
theorem dX4_setWall_40 : decode cX4_setWall 40 = .ok (.iload_n 3, 1) := by decide +kernel
theorem dX4_setWall_41 : decode cX4_setWall 41 = .ok (.ifCond .eq 7, 3) := by decide +kernel
theorem dX4_setWall_44 : decode cX4_setWall 44 = .ok (.iconst 0, 1) := by decide +kernel
theorem dX4_setWall_45 : decode cX4_setWall 45 = .ok (.goto 13, 3) := by decide +kernel
theorem dX4_setWall_48 : decode cX4_setWall 48 = .ok (.aload_n 0, 1) := by decide +kernel
theorem dX4_setWall_49 : decode cX4_setWall 49 = .ok (.getfield 13, 3) := by decide +kernel
theorem dX4_setWall_52 : decode cX4_setWall 52 = .ok (.iload_n 1, 1) := by decide +kernel
theorem dX4_setWall_53 : decode cX4_setWall 53 = .ok (.iload_n 2, 1) := by decide +kernel
theorem dX4_setWall_54 : decode cX4_setWall 54 = .ok (.invokestatic 97, 3) := by decide +kernel
theorem dX4_setWall_57 : decode cX4_setWall 57 = .ok (.iaload, 1) := by decide +kernel
theorem dX4_setWall_58 : decode cX4_setWall 58 = .ok (.iastore, 1) := by decide +kernel
theorem dX4_setWall_59 : decode cX4_setWall 59 = .ok (.iconst 1, 1) := by decide +kernel
theorem dX4_setWall_60 : decode cX4_setWall 60 = .ok (.ireturn, 1) := by decide +kernel
set_option maxRecDepth 20000 in
theorem ggX4_putItem_X4_isInside : GoodIn wsX4_putItem wsX4_isInside := goodIn_r _ [7, 8, 9, 10, 11, 6, 12, 16, 17, 18, 19, 20, 21, 22, 23, 24, 25, 26, 27, 28, 29, 30, 31, 32, 33, 34, 35, 36, 37] (by decide +kernel) (by decide +kernel)
set_option maxRecDepth 20000 in
theorem gX4_putItem_X4_isInside : GoodIn wsX4_putItem (wsV RX4 89 RX4 yX4_isInside wsX4_isInside) := goodIn_app (goodIn_of _ (by decide +kernel)) ggX4_putItem_X4_isInside
set_option maxRecDepth 20000 in
theorem ggX4_putItem_X4_square : GoodIn wsX4_putItem wsX4_square := goodIn_r _ [15] (by decide +kernel) (by decide +kernel)
set_option maxRecDepth 20000 in
theorem gX4_putItem_X4_square : GoodIn wsX4_putItem (va_wsS RX4 97 yX4_square wsX4_square) := goodIn_app (goodIn_of _ (by decide +kernel)) ggX4_putItem_X4_square
theorem dX4_putItem_0 : decode cX4_putItem 0 = .ok (.aload_n 0, 1) := by decide +kernel
theorem dX4_putItem_1 : decode cX4_putItem 1 = .ok (.iload_n 1, 1) := by decide +kernel
theorem dX4_putItem_2 : decode cX4_putItem 2 = .ok (.iload_n 2, 1) := by decide +kernel
theorem dX4_putItem_3 : decode cX4_putItem 3 = .ok (.invokevirtual 89, 3) := by decide +kernel
theorem dX4_putItem_6 : decode cX4_putItem 6 = .ok (.ifCond .eq 31, 3) := by decide +kernel
theorem dX4_putItem_9 : decode cX4_putItem 9 = .ok (.aload_n 0, 1) := by decide +kernel
theorem dX4_putItem_10 : decode cX4_putItem 10 = .ok (.getfield 7, 3) := by decide +kernel
theorem dX4_putItem_13 : decode cX4_putItem 13 = .ok (.iload_n 1, 1) := by decide +kernel
theorem dX4_putItem_14 : decode cX4_putItem 14 = .ok (.iload_n 2, 1) := by decide +kernel
theorem dX4_putItem_15 : decode cX4_putItem 15 = .ok (.invokestatic 97, 3) := by decide +kernel
theorem dX4_putItem_18 : decode cX4_putItem 18 = .ok (.baload, 1) := by decide +kernel
theorem dX4_putItem_19 : decode cX4_putItem 19 = .ok (.ifCond .ne 18, 3) := by decide +kernel
theorem dX4_putItem_22 : decode cX4_putItem 22 = .ok (.aload_n 0, 1) := by decide +kernel
theorem dX4_putItem_23 : decode cX4_putItem 23 = .ok (.getfield 13, 3) := by decide +kernel
theorem dX4_putItem_26 : decode cX4_putItem 26 = .ok (.iload_n 1, 1) := by decide +kernel
theorem dX4_putItem_27 : decode cX4_putItem 27 = .ok (.iload_n 2, 1) := by decide +kernel
theorem dX4_putItem_28 : decode cX4_putItem 28 = .ok (.invokestatic 97, 3) := by decide +kernel
theorem dX4_putItem_31 : decode cX4_putItem 31 = .ok (.iaload, 1) := by decide +kernel
theorem dX4_putItem_32 : decode cX4_putItem 32 = .ok (.bipush 99, 2) := by decide +kernel
theorem dX4_putItem_34 : decode cX4_putItem 34 = .ok (.if_icmp .ne 5, 3) := by decide +kernel
theorem dX4_putItem_37 : decode cX4_putItem 37 = .ok (.iconst 0, 1) := by decide +kernel
theorem dX4_putItem_38 : decode cX4_putItem 38 = .ok (.ireturn, 1) := by decide +kernel
theorem dX4_putItem_39 : decode cX4_putItem 39 = .ok (.aload_n 0, 1) := by decide +kernel
theorem dX4_putItem_40 : decode cX4_putItem 40 = .ok (.getfield 13, 3) := by decide +kernel
theorem dX4_putItem_43 : decode cX4_putItem 43 = .ok (.iload_n 1, 1) := by decide +kernel
theorem dX4_putItem_44 : decode cX4_putItem 44 = .ok (.iload_n 2, 1) := by decide +kernel
theorem dX4_putItem_45 : decode cX4_putItem 45 = .ok (.invokestatic 97, 3) := by decide +kernel
theorem dX4_putItem_48 : decode cX4_putItem 48 = .ok (.dup2, 1) := by decide +kernel
theorem dX4_putItem_49 : decode cX4_putItem 49 = .ok (.iaload, 1) := by decide +kernel
theorem dX4_putItem_50 : decode cX4_putItem 50 = .ok (.iconst 1, 1) := by decide +kernel
theorem dX4_putItem_51 : decode cX4_putItem 51 = .ok (.iadd, 1) := by decide +kernel
theorem dX4_putItem_52 : decode cX4_putItem 52 = .ok (.iastore, 1) := by decide +kernel
theorem dX4_putItem_53 : decode cX4_putItem 53 = .ok (.iconst 1, 1) := by decide +kernel
theorem dX4_putItem_54 : decode cX4_putItem 54 = .ok (.ireturn, 1) := by decide +kernel
set_option maxRecDepth 20000 in
theorem ggX4_spawn_X4_isInside : GoodIn wsX4_spawn wsX4_isInside := goodIn_r _ [17, 18, 19, 20, 21, 16, 22, 30, 31, 32, 33, 34, 35, 36, 37, 38, 39, 40, 41, 42, 43, 44, 45, 46, 47, 48, 49, 50, 51] (by decide +kernel) (by decide +kernel)
set_option maxRecDepth 20000 in
theorem gX4_spawn_X4_isInside : GoodIn wsX4_spawn (wsV RX4 89 RX4 yX4_isInside wsX4_isInside) := goodIn_app (goodIn_of _ (by decide +kernel)) ggX4_spawn_X4_isInside
set_option maxRecDepth 20000 in
theorem ggX4_spawn_X4_square : GoodIn wsX4_spawn wsX4_square := goodIn_r _ [25] (by decide +kernel) (by decide +kernel)
set_option maxRecDepth 20000 in
theorem gX4_spawn_X4_square : GoodIn wsX4_spawn (va_wsS RX4 97 yX4_square wsX4_square) := goodIn_app (goodIn_of _ (by decide +kernel)) ggX4_spawn_X4_square
set_option maxRecDepth 20000 in
theorem ggX4_spawn_X4_robotAt : GoodIn wsX4_spawn wsX4_robotAt := goodIn_r _ [29, 2, 3, 4, 5, 30, 31, 32, 33, 34, 35, 36, 37, 38, 39, 40, 41, 42, 43, 44, 45, 46, 47, 48, 49, 50, 51] (by decide +kernel) (by decide +kernel)
set_option maxRecDepth 20000 in
theorem gX4_spawn_X4_robotAt : GoodIn wsX4_spawn (wsV RX4 93 RX4 yX4_robotAt wsX4_robotAt) := goodIn_app (goodIn_of _ (by decide +kernel)) ggX4_spawn_X4_robotAt
theorem dX4_spawn_0 : decode cX4_spawn 0 = .ok (.aload_n 0, 1) := by decide +kernel
theorem dX4_spawn_1 : decode cX4_spawn 1 = .ok (.iload_n 1, 1) := by decide +kernel
theorem dX4_spawn_2 : decode cX4_spawn 2 = .ok (.iload_n 2, 1) := by decide +kernel
theorem dX4_spawn_3 : decode cX4_spawn 3 = .ok (.invokevirtual 89, 3) := by decide +kernel
theorem dX4_spawn_6 : decode cX4_spawn 6 = .ok (.ifCond .eq 16, 3) := by decide +kernel
theorem dX4_spawn_9 : decode cX4_spawn 9 = .ok (.aload_n 0, 1) := by decide +kernel
theorem dX4_spawn_10 : decode cX4_spawn 10 = .ok (.getfield 7, 3) := by decide +kernel
theorem dX4_spawn_13 : decode cX4_spawn 13 = .ok (.iload_n 1, 1) := by decide +kernel
theorem dX4_spawn_14 : decode cX4_spawn 14 = .ok (.iload_n 2, 1) := by decide +kernel
theorem dX4_spawn_15 : decode cX4_spawn 15 = .ok (.invokestatic 97, 3) := by decide +kernel
theorem dX4_spawn_18 : decode cX4_spawn 18 = .ok (.baload, 1) := by decide +kernel
theorem dX4_spawn_19 : decode cX4_spawn 19 = .ok (.ifCond .eq 6, 3) := by decide +kernel
theorem dX4_spawn_22 : decode cX4_spawn 22 = .ok (.bipush (-2), 2) := by decide +kernel
theorem dX4_spawn_24 : decode cX4_spawn 24 = .ok (.ireturn, 1) := by decide +kernel
theorem dX4_spawn_25 : decode cX4_spawn 25 = .ok (.aload_n 0, 1) := by decide +kernel
theorem dX4_spawn_26 : decode cX4_spawn 26 = .ok (.iload_n 1, 1) := by decide +kernel
theorem dX4_spawn_27 : decode cX4_spawn 27 = .ok (.iload_n 2, 1) := by decide +kernel
theorem dX4_spawn_28 : decode cX4_spawn 28 = .ok (.invokevirtual 93, 3) := by decide +kernel
theorem dX4_spawn_31 : decode cX4_spawn 31 = .ok (.ifCond .lt 6, 3) := by decide +kernel
theorem dX4_spawn_34 : decode cX4_spawn 34 = .ok (.bipush (-4), 2) := by decide +kernel
theorem dX4_spawn_36 : decode cX4_spawn 36 = .ok (.ireturn, 1) := by decide +kernel
theorem dX4_spawn_37 : decode cX4_spawn 37 = .ok (.iconst 0, 1) := by decide +kernel
theorem dX4_spawn_38 : decode cX4_spawn 38 = .ok (.istore_n 3, 1) := by decide +kernel
theorem dX4_spawn_39 : decode cX4_spawn 39 = .ok (.iload_n 3, 1) := by decide +kernel
theorem dX4_spawn_40 : decode cX4_spawn 40 = .ok (.aload_n 0, 1) := by decide +kernel
theorem dX4_spawn_41 : decode cX4_spawn 41 = .ok (.getfield 67, 3) := by decide +kernel
theorem dX4_spawn_44 : decode cX4_spawn 44 = .ok (.if_icmp .ge 112, 3) := by decide +kernel
theorem dX4_spawn_47 : decode cX4_spawn 47 = .ok (.aload_n 0, 1) := by decide +kernel
theorem dX4_spawn_48 : decode cX4_spawn 48 = .ok (.getfield 17, 3) := by decide +kernel
theorem dX4_spawn_51 : decode cX4_spawn 51 = .ok (.iload_n 3, 1) := by decide +kernel
theorem dX4_spawn_52 : decode cX4_spawn 52 = .ok (.iaload, 1) := by decide +kernel
theorem dX4_spawn_53 : decode cX4_spawn 53 = .ok (.ifCond .ne 97, 3) := by decide +kernel
theorem dX4_spawn_56 : decode cX4_spawn 56 = .ok (.aload_n 0, 1) := by decide +kernel
theorem dX4_spawn_57 : decode cX4_spawn 57 = .ok (.getfield 17, 3) := by decide +kernel
theorem dX4_spawn_60 : decode cX4_spawn 60 = .ok (.iload_n 3, 1) := by decide +kernel
theorem dX4_spawn_61 : decode cX4_spawn 61 = .ok (.iconst 1, 1) := by decide +kernel
theorem dX4_spawn_62 : decode cX4_spawn 62 = .ok (.iastore, 1) := by decide +kernel
theorem dX4_spawn_63 : decode cX4_spawn 63 = .ok (.aload_n 0, 1) := by decide +kernel
theorem dX4_spawn_64 : decode cX4_spawn 64 = .ok (.getfield 20, 3) := by decide +kernel
theorem dX4_spawn_67 : decode cX4_spawn 67 = .ok (.iload_n 3, 1) := by decide +kernel
theorem dX4_spawn_68 : decode cX4_spawn 68 = .ok (.iload_n 1, 1) := by decide +kernel
theorem dX4_spawn_69 : decode cX4_spawn 69 = .ok (.iastore, 1) := by decide +kernel
theorem dX4_spawn_70 : decode cX4_spawn 70 = .ok (.aload_n 0, 1) := by decide +kernel
theorem dX4_spawn_71 : decode cX4_spawn 71 = .ok (.getfield 23, 3) := by decide +kernel
theorem dX4_spawn_74 : decode cX4_spawn 74 = .ok (.iload_n 3, 1) := by decide +kernel
theorem dX4_spawn_75 : decode cX4_spawn 75 = .ok (.iload_n 2, 1) := by decide +kernel
theorem dX4_spawn_76 : decode cX4_spawn 76 = .ok (.iastore, 1) := by decide +kernel
theorem dX4_spawn_77 : decode cX4_spawn 77 = .ok (.aload_n 0, 1) := by decide +kernel
theorem dX4_spawn_78 : decode cX4_spawn 78 = .ok (.getfield 29, 3) := by decide +kernel
theorem dX4_spawn_81 : decode cX4_spawn 81 = .ok (.iload_n 3, 1) := by decide +kernel
theorem dX4_spawn_82 : decode cX4_spawn 82 = .ok (.iconst 0, 1) := by decide +kernel
theorem dX4_spawn_83 : decode cX4_spawn 83 = .ok (.iastore, 1) := by decide +kernel
theorem dX4_spawn_84 : decode cX4_spawn 84 = .ok (.aload_n 0, 1) := by decide +kernel
theorem dX4_spawn_85 : decode cX4_spawn 85 = .ok (.getfield 35, 3) := by decide +kernel
theorem dX4_spawn_88 : decode cX4_spawn 88 = .ok (.iload_n 3, 1) := by decide +kernel
theorem dX4_spawn_89 : decode cX4_spawn 89 = .ok (.iconst 0, 1) := by decide +kernel
theorem dX4_spawn_90 : decode cX4_spawn 90 = .ok (.iastore, 1) := by decide +kernel
theorem dX4_spawn_91 : decode cX4_spawn 91 = .ok (.aload_n 0, 1) := by decide +kernel
theorem dX4_spawn_92 : decode cX4_spawn 92 = .ok (.getfield 38, 3) := by decide +kernel
theorem dX4_spawn_95 : decode cX4_spawn 95 = .ok (.iload_n 3, 1) := by decide +kernel
theorem dX4_spawn_96 : decode cX4_spawn 96 = .ok (.iconst 0, 1) := by decide +kernel
theorem dX4_spawn_97 : decode cX4_spawn 97 = .ok (.iastore, 1) := by decide +kernel
theorem dX4_spawn_98 : decode cX4_spawn 98 = .ok (.aload_n 0, 1) := by decide +kernel
theorem dX4_spawn_99 : decode cX4_spawn 99 = .ok (.getfield 44, 3) := by decide +kernel
theorem dX4_spawn_102 : decode cX4_spawn 102 = .ok (.iload_n 3, 1) := by decide +kernel
theorem dX4_spawn_103 : decode cX4_spawn 103 = .ok (.iconst 0, 1) := by decide +kernel
theorem dX4_spawn_104 : decode cX4_spawn 104 = .ok (.iastore, 1) := by decide +kernel
theorem dX4_spawn_105 : decode cX4_spawn 105 = .ok (.aload_n 0, 1) := by decide +kernel
theorem dX4_spawn_106 : decode cX4_spawn 106 = .ok (.getfield 47, 3) := by decide +kernel
theorem dX4_spawn_109 : decode cX4_spawn 109 = .ok (.iload_n 3, 1) := by decide +kernel
theorem dX4_spawn_110 : decode cX4_spawn 110 = .ok (.iconst 0, 1) := by decide +kernel
theorem dX4_spawn_111 : decode cX4_spawn 111 = .ok (.iastore, 1) := by decide +kernel
theorem dX4_spawn_112 : decode cX4_spawn 112 = .ok (.aload_n 0, 1) := by decide +kernel
theorem dX4_spawn_113 : decode cX4_spawn 113 = .ok (.getfield 50, 3) := by decide +kernel
theorem dX4_spawn_116 : decode cX4_spawn 116 = .ok (.iload_n 3, 1) := by decide +kernel
theorem dX4_spawn_117 : decode cX4_spawn 117 = .ok (.iconst 0, 1) := by decide +kernel
theorem dX4_spawn_118 : decode cX4_spawn 118 = .ok (.iastore, 1) := by decide +kernel
theorem dX4_spawn_119 : decode cX4_spawn 119 = .ok (.iconst 0, 1) := by decide +kernel
theorem dX4_spawn_120 : decode cX4_spawn 120 = .ok (.istore 4, 2) := by decide +kernel
theorem dX4_spawn_122 : decode cX4_spawn 122 = .ok (.iload 4, 2) := by decide +kernel
theorem dX4_spawn_124 : decode cX4_spawn 124 = .ok (.bipush 8, 2) := by decide +kernel
theorem dX4_spawn_126 : decode cX4_spawn 126 = .ok (.if_icmp .ge 22, 3) := by decide +kernel
theorem dX4_spawn_129 : decode cX4_spawn 129 = .ok (.aload_n 0, 1) := by decide +kernel
theorem dX4_spawn_130 : decode cX4_spawn 130 = .ok (.getfield 32, 3) := by decide +kernel
theorem dX4_spawn_133 : decode cX4_spawn 133 = .ok (.bipush 8, 2) := by decide +kernel
theorem dX4_spawn_135 : decode cX4_spawn 135 = .ok (.iload_n 3, 1) := by decide +kernel
theorem dX4_spawn_136 : decode cX4_spawn 136 = .ok (.imul, 1) := by decide +kernel
theorem dX4_spawn_137 : decode cX4_spawn 137 = .ok (.iload 4, 2) := by decide +kernel
theorem dX4_spawn_139 : decode cX4_spawn 139 = .ok (.iadd, 1) := by decide +kernel
theorem dX4_spawn_140 : decode cX4_spawn 140 = .ok (.iconst 0, 1) := by decide +kernel
theorem dX4_spawn_141 : decode cX4_spawn 141 = .ok (.iastore, 1) := by decide +kernel
theorem dX4_spawn_142 : decode cX4_spawn 142 = .ok (.iinc 4 1, 3) := by decide +kernel
theorem dX4_spawn_145 : decode cX4_spawn 145 = .ok (.goto (-23), 3) := by decide +kernel
theorem dX4_spawn_148 : decode cX4_spawn 148 = .ok (.iload_n 3, 1) := by decide +kernel
theorem dX4_spawn_149 : decode cX4_spawn 149 = .ok (.ireturn, 1) := by decide +kernel
theorem dX4_spawn_150 : decode cX4_spawn 150 = .ok (.iinc 3 1, 3) := by decide +kernel
theorem dX4_spawn_153 : decode cX4_spawn 153 = .ok (.goto (-114), 3) := by decide +kernel
theorem dX4_spawn_156 : decode cX4_spawn 156 = .ok (.bipush (-3), 2) := by decide +kernel
theorem dX4_spawn_158 : decode cX4_spawn 158 = .ok (.ireturn, 1) := by decide +kernel
set_option maxRecDepth 20000 in
theorem ggX4_isRobot_X4_in : GoodIn wsX4_isRobot wsX4_in := goodIn_r _ [6] (by decide +kernel) (by decide +kernel)
set_option maxRecDepth 20000 in
theorem gX4_isRobot_X4_in : GoodIn wsX4_isRobot (va_wsS RX4 85 yX4_in wsX4_in) := goodIn_app (goodIn_of _ (by decide +kernel)) ggX4_isRobot_X4_in
theorem dX4_isRobot_0 : decode cX4_isRobot 0 = .ok (.iload_n 1, 1) := by decide +kernel
theorem dX4_isRobot_1 : decode cX4_isRobot 1 = .ok (.iconst 0, 1) := by decide +kernel
theorem dX4_isRobot_2 : decode cX4_isRobot 2 = .ok (.aload_n 0, 1) := by decide +kernel
theorem dX4_isRobot_3 : decode cX4_isRobot 3 = .ok (.getfield 67, 3) := by decide +kernel
theorem dX4_isRobot_6 : decode cX4_isRobot 6 = .ok (.iconst 1, 1) := by decide +kernel
theorem dX4_isRobot_7 : decode cX4_isRobot 7 = .ok (.isub, 1) := by decide +kernel
theorem dX4_isRobot_8 : decode cX4_isRobot 8 = .ok (.invokestatic 85, 3) := by decide +kernel
theorem dX4_isRobot_11 : decode cX4_isRobot 11 = .ok (.ifCond .eq 16, 3) := by decide +kernel
theorem dX4_isRobot_14 : decode cX4_isRobot 14 = .ok (.aload_n 0, 1) := by decide +kernel
theorem dX4_isRobot_15 : decode cX4_isRobot 15 = .ok (.getfield 17, 3) := by decide +kernel
theorem dX4_isRobot_18 : decode cX4_isRobot 18 = .ok (.iload_n 1, 1) := by decide +kernel
theorem dX4_isRobot_19 : decode cX4_isRobot 19 = .ok (.iaload, 1) := by decide +kernel
theorem dX4_isRobot_20 : decode cX4_isRobot 20 = .ok (.ifCond .le 7, 3) := by decide +kernel
theorem dX4_isRobot_23 : decode cX4_isRobot 23 = .ok (.iconst 1, 1) := by decide +kernel
theorem dX4_isRobot_24 : decode cX4_isRobot 24 = .ok (.goto 4, 3) := by decide +kernel
theorem dX4_isRobot_27 : decode cX4_isRobot 27 = .ok (.iconst 0, 1) := by decide +kernel
theorem dX4_isRobot_28 : decode cX4_isRobot 28 = .ok (.ireturn, 1) := by decide +kernel
set_option maxRecDepth 20000 in
theorem ggX4_load_X4_isRobot : GoodIn wsX4_load wsX4_isRobot := goodIn_r _ [9, 10, 1, 11, 12, 8, 13, 14, 15, 16, 17, 18, 19, 20, 21, 22, 23, 24, 25, 26, 27, 28, 29, 30, 31, 32, 33, 34, 35] (by decide +kernel) (by decide +kernel)
set_option maxRecDepth 20000 in
theorem gX4_load_X4_isRobot : GoodIn wsX4_load (wsV RX4 100 RX4 yX4_isRobot wsX4_isRobot) := goodIn_app (goodIn_of _ (by decide +kernel)) ggX4_load_X4_isRobot
theorem dX4_load_0 : decode cX4_load 0 = .ok (.aload_n 0, 1) := by decide +kernel
theorem dX4_load_1 : decode cX4_load 1 = .ok (.iload_n 1, 1) := by decide +kernel
theorem dX4_load_2 : decode cX4_load 2 = .ok (.invokevirtual 100, 3) := by decide +kernel
theorem dX4_load_5 : decode cX4_load 5 = .ok (.ifCond .eq 26, 3) := by decide +kernel
theorem dX4_load_8 : decode cX4_load 8 = .ok (.aload_n 0, 1) := by decide +kernel
theorem dX4_load_9 : decode cX4_load 9 = .ok (.getfield 17, 3) := by decide +kernel
theorem dX4_load_12 : decode cX4_load 12 = .ok (.iload_n 1, 1) := by decide +kernel
theorem dX4_load_13 : decode cX4_load 13 = .ok (.iaload, 1) := by decide +kernel
theorem dX4_load_14 : decode cX4_load 14 = .ok (.iconst 1, 1) := by decide +kernel
theorem dX4_load_15 : decode cX4_load 15 = .ok (.if_icmp .ne 16, 3) := by decide +kernel
theorem dX4_load_18 : decode cX4_load 18 = .ok (.aload_n 0, 1) := by decide +kernel
theorem dX4_load_19 : decode cX4_load 19 = .ok (.getfield 29, 3) := by decide +kernel
theorem dX4_load_22 : decode cX4_load 22 = .ok (.iload_n 1, 1) := by decide +kernel
theorem dX4_load_23 : decode cX4_load 23 = .ok (.iaload, 1) := by decide +kernel
theorem dX4_load_24 : decode cX4_load 24 = .ok (.aload_n 0, 1) := by decide +kernel
theorem dX4_load_25 : decode cX4_load 25 = .ok (.getfield 70, 3) := by decide +kernel
theorem dX4_load_28 : decode cX4_load 28 = .ok (.if_icmp .ne 5, 3) := by decide +kernel
theorem dX4_load_31 : decode cX4_load 31 = .ok (.iconst 0, 1) := by decide +kernel
theorem dX4_load_32 : decode cX4_load 32 = .ok (.ireturn, 1) := by decide +kernel
theorem dX4_load_33 : decode cX4_load 33 = .ok (.aload_n 0, 1) := by decide +kernel
theorem dX4_load_34 : decode cX4_load 34 = .ok (.getfield 26, 3) := by decide +kernel
theorem dX4_load_37 : decode cX4_load 37 = .ok (.bipush 100, 2) := by decide +kernel
theorem dX4_load_39 : decode cX4_load 39 = .ok (.iload_n 1, 1) := by decide +kernel
theorem dX4_load_40 : decode cX4_load 40 = .ok (.imul, 1) := by decide +kernel
theorem dX4_load_41 : decode cX4_load 41 = .ok (.aload_n 0, 1) := by decide +kernel
theorem dX4_load_42 : decode cX4_load 42 = .ok (.getfield 29, 3) := by decide +kernel
theorem dX4_load_45 : decode cX4_load 45 = .ok (.iload_n 1, 1) := by decide +kernel
theorem dX4_load_46 : decode cX4_load 46 = .ok (.iaload, 1) := by decide +kernel
theorem dX4_load_47 : decode cX4_load 47 = .ok (.iadd, 1) := by decide +kernel
theorem dX4_load_48 : decode cX4_load 48 = .ok (.iload_n 2, 1) := by decide +kernel
theorem dX4_load_49 : decode cX4_load 49 = .ok (.iastore, 1) := by decide +kernel
theorem dX4_load_50 : decode cX4_load 50 = .ok (.aload_n 0, 1) := by decide +kernel
theorem dX4_load_51 : decode cX4_load 51 = .ok (.getfield 29, 3) := by decide +kernel
theorem dX4_load_54 : decode cX4_load 54 = .ok (.iload_n 1, 1) := by decide +kernel
theorem dX4_load_55 : decode cX4_load 55 = .ok (.dup2, 1) := by decide +kernel
theorem dX4_load_56 : decode cX4_load 56 = .ok (.iaload, 1) := by decide +kernel
theorem dX4_load_57 : decode cX4_load 57 = .ok (.iconst 1, 1) := by decide +kernel
theorem dX4_load_58 : decode cX4_load 58 = .ok (.iadd, 1) := by decide +kernel
theorem dX4_load_59 : decode cX4_load 59 = .ok (.iastore, 1) := by decide +kernel
theorem dX4_load_60 : decode cX4_load 60 = .ok (.iconst 1, 1) := by decide +kernel
theorem dX4_load_61 : decode cX4_load 61 = .ok (.ireturn, 1) := by decide +kernel
set_option maxRecDepth 20000 in
theorem ggX4_startRobot_X4_isRobot : GoodIn wsX4_startRobot wsX4_isRobot := goodIn_r _ [6, 7, 1, 8, 9, 5, 10, 11, 12, 13, 14, 15, 16, 17, 18, 19, 20, 21, 22, 23, 24, 25, 26, 27, 28, 29, 30, 31, 32] (by decide +kernel) (by decide +kernel)
set_option maxRecDepth 20000 in
theorem gX4_startRobot_X4_isRobot : GoodIn wsX4_startRobot (wsV RX4 100 RX4 yX4_isRobot wsX4_isRobot) := goodIn_app (goodIn_of _ (by decide +kernel)) ggX4_startRobot_X4_isRobot
theorem dX4_startRobot_0 : decode cX4_startRobot 0 = .ok (.aload_n 0, 1) := by decide +kernel
theorem dX4_startRobot_1 : decode cX4_startRobot 1 = .ok (.iload_n 1, 1) := by decide +kernel
theorem dX4_startRobot_2 : decode cX4_startRobot 2 = .ok (.invokevirtual 100, 3) := by decide +kernel
theorem dX4_startRobot_5 : decode cX4_startRobot 5 = .ok (.ifCond .eq 13, 3) := by decide +kernel
theorem dX4_startRobot_8 : decode cX4_startRobot 8 = .ok (.aload_n 0, 1) := by decide +kernel
theorem dX4_startRobot_9 : decode cX4_startRobot 9 = .ok (.getfield 17, 3) := by decide +kernel
theorem dX4_startRobot_12 : decode cX4_startRobot 12 = .ok (.iload_n 1, 1) := by decide +kernel
theorem dX4_startRobot_13 : decode cX4_startRobot 13 = .ok (.iaload, 1) := by decide +kernel
theorem dX4_startRobot_14 : decode cX4_startRobot 14 = .ok (.iconst 1, 1) := by decide +kernel
theorem dX4_startRobot_15 : decode cX4_startRobot 15 = .ok (.if_icmp .eq 6, 3) := by decide +kernel
theorem dX4_startRobot_18 : decode cX4_startRobot 18 = .ok (.bipush (-2), 2) := by decide +kernel
theorem dX4_startRobot_20 : decode cX4_startRobot 20 = .ok (.ireturn, 1) := by decide +kernel
theorem dX4_startRobot_21 : decode cX4_startRobot 21 = .ok (.aload_n 0, 1) := by decide +kernel
theorem dX4_startRobot_22 : decode cX4_startRobot 22 = .ok (.getfield 17, 3) := by decide +kernel
theorem dX4_startRobot_25 : decode cX4_startRobot 25 = .ok (.iload_n 1, 1) := by decide +kernel
theorem dX4_startRobot_26 : decode cX4_startRobot 26 = .ok (.iconst 2, 1) := by decide +kernel
theorem dX4_startRobot_27 : decode cX4_startRobot 27 = .ok (.iastore, 1) := by decide +kernel
theorem dX4_startRobot_28 : decode cX4_startRobot 28 = .ok (.iconst 1, 1) := by decide +kernel
theorem dX4_startRobot_29 : decode cX4_startRobot 29 = .ok (.ireturn, 1) := by decide +kernel
set_option maxRecDepth 20000 in
theorem ggX4_kill_X4_isRobot : GoodIn wsX4_kill wsX4_isRobot := goodIn_r _ [10, 11, 5, 12, 13, 9, 14, 18, 19, 20, 21, 22, 23, 24, 25, 26, 27, 28, 29, 30, 31, 32, 33, 34, 35, 36, 37, 38, 39] (by decide +kernel) (by decide +kernel)
set_option maxRecDepth 20000 in
theorem gX4_kill_X4_isRobot : GoodIn wsX4_kill (wsV RX4 100 RX4 yX4_isRobot wsX4_isRobot) := goodIn_app (goodIn_of _ (by decide +kernel)) ggX4_kill_X4_isRobot
set_option maxRecDepth 20000 in
theorem ggX4_kill_X4_square : GoodIn wsX4_kill wsX4_square := goodIn_r _ [17] (by decide +kernel) (by decide +kernel)
set_option maxRecDepth 20000 in
theorem gX4_kill_X4_square : GoodIn wsX4_kill (va_wsS RX4 97 yX4_square wsX4_square) := goodIn_app (goodIn_of _ (by decide +kernel)) ggX4_kill_X4_square
theorem dX4_kill_0 : decode cX4_kill 0 = .ok (.aload_n 0, 1) := by decide +kernel
theorem dX4_kill_1 : decode cX4_kill 1 = .ok (.iload_n 1, 1) := by decide +kernel
theorem dX4_kill_2 : decode cX4_kill 2 = .ok (.invokevirtual 100, 3) := by decide +kernel
theorem dX4_kill_5 : decode cX4_kill 5 = .ok (.ifCond .ne 6, 3) := by decide +kernel
theorem dX4_kill_8 : decode cX4_kill 8 = .ok (.bipush (-2), 2) := by decide +kernel
theorem dX4_kill_10 : decode cX4_kill 10 = .ok (.ireturn, 1) := by decide +kernel
theorem dX4_kill_11 : decode cX4_kill 11 = .ok (.aload_n 0, 1) := by decide +kernel
theorem dX4_kill_12 : decode cX4_kill 12 = .ok (.getfield 20, 3) := by decide +kernel
theorem dX4_kill_15 : decode cX4_kill 15 = .ok (.iload_n 1, 1) := by decide +kernel
theorem dX4_kill_16 : decode cX4_kill 16 = .ok (.iaload, 1) := by decide +kernel
theorem dX4_kill_17 : decode cX4_kill 17 = .ok (.aload_n 0, 1) := by decide +kernel
theorem dX4_kill_18 : decode cX4_kill 18 = .ok (.getfield 23, 3) := by decide +kernel
theorem dX4_kill_21 : decode cX4_kill 21 = .ok (.iload_n 1, 1) := by decide +kernel
theorem dX4_kill_22 : decode cX4_kill 22 = .ok (.iaload, 1) := by decide +kernel
theorem dX4_kill_23 : decode cX4_kill 23 = .ok (.invokestatic 97, 3) := by decide +kernel
theorem dX4_kill_26 : decode cX4_kill 26 = .ok (.istore_n 2, 1) := by decide +kernel
theorem dX4_kill_27 : decode cX4_kill 27 = .ok (.aload_n 0, 1) := by decide +kernel
theorem dX4_kill_28 : decode cX4_kill 28 = .ok (.getfield 13, 3) := by decide +kernel
theorem dX4_kill_31 : decode cX4_kill 31 = .ok (.iload_n 2, 1) := by decide +kernel
theorem dX4_kill_32 : decode cX4_kill 32 = .ok (.iaload, 1) := by decide +kernel
theorem dX4_kill_33 : decode cX4_kill 33 = .ok (.aload_n 0, 1) := by decide +kernel
theorem dX4_kill_34 : decode cX4_kill 34 = .ok (.getfield 38, 3) := by decide +kernel
theorem dX4_kill_37 : decode cX4_kill 37 = .ok (.iload_n 1, 1) := by decide +kernel
theorem dX4_kill_38 : decode cX4_kill 38 = .ok (.iaload, 1) := by decide +kernel
theorem dX4_kill_39 : decode cX4_kill 39 = .ok (.iadd, 1) := by decide +kernel
theorem dX4_kill_40 : decode cX4_kill 40 = .ok (.istore_n 3, 1) := by decide +kernel
theorem dX4_kill_41 : decode cX4_kill 41 = .ok (.aload_n 0, 1) := by decide +kernel
theorem dX4_kill_42 : decode cX4_kill 42 = .ok (.getfield 13, 3) := by decide +kernel
theorem dX4_kill_45 : decode cX4_kill 45 = .ok (.iload_n 2, 1) := by decide +kernel
theorem dX4_kill_46 : decode cX4_kill 46 = .ok (.iload_n 3, 1) := by decide +kernel
theorem dX4_kill_47 : decode cX4_kill 47 = .ok (.bipush 99, 2) := by decide +kernel
theorem dX4_kill_49 : decode cX4_kill 49 = .ok (.if_icmp .le 8, 3) := by decide +kernel
theorem dX4_kill_52 : decode cX4_kill 52 = .ok (.bipush 99, 2) := by decide +kernel
theorem dX4_kill_54 : decode cX4_kill 54 = .ok (.goto 4, 3) := by decide +kernel
theorem dX4_kill_57 : decode cX4_kill 57 = .ok (.iload_n 3, 1) := by decide +kernel
theorem dX4_kill_58 : decode cX4_kill 58 = .ok (.iastore, 1) := by decide +kernel
theorem dX4_kill_59 : decode cX4_kill 59 = .ok (.aload_n 0, 1) := by decide +kernel
theorem dX4_kill_60 : decode cX4_kill 60 = .ok (.getfield 17, 3) := by decide +kernel
theorem dX4_kill_63 : decode cX4_kill 63 = .ok (.iload_n 1, 1) := by decide +kernel
theorem dX4_kill_64 : decode cX4_kill 64 = .ok (.iconst 0, 1) := by decide +kernel
theorem dX4_kill_65 : decode cX4_kill 65 = .ok (.iastore, 1) := by decide +kernel
theorem dX4_kill_66 : decode cX4_kill 66 = .ok (.aload_n 0, 1) := by decide +kernel
theorem dX4_kill_67 : decode cX4_kill 67 = .ok (.getfield 38, 3) := by decide +kernel
theorem dX4_kill_70 : decode cX4_kill 70 = .ok (.iload_n 1, 1) := by decide +kernel
theorem dX4_kill_71 : decode cX4_kill 71 = .ok (.iaload, 1) := by decide +kernel
theorem dX4_kill_72 : decode cX4_kill 72 = .ok (.ireturn, 1) := by decide +kernel
theorem dX4_besideX_0 : decode cX4_besideX 0 = .ok (.iload_n 1, 1) := by decide +kernel
theorem dX4_besideX_1 : decode cX4_besideX 1 = .ok (.iconst 1, 1) := by decide +kernel
theorem dX4_besideX_2 : decode cX4_besideX 2 = .ok (.if_icmp .ne 9, 3) := by decide +kernel
theorem dX4_besideX_5 : decode cX4_besideX 5 = .ok (.iload_n 0, 1) := by decide +kernel
theorem dX4_besideX_6 : decode cX4_besideX 6 = .ok (.iconst 1, 1) := by decide +kernel
theorem dX4_besideX_7 : decode cX4_besideX 7 = .ok (.iadd, 1) := by decide +kernel
theorem dX4_besideX_8 : decode cX4_besideX 8 = .ok (.goto 15, 3) := by decide +kernel
theorem dX4_besideX_11 : decode cX4_besideX 11 = .ok (.iload_n 1, 1) := by decide +kernel
theorem dX4_besideX_12 : decode cX4_besideX 12 = .ok (.iconst 3, 1) := by decide +kernel
theorem dX4_besideX_13 : decode cX4_besideX 13 = .ok (.if_icmp .ne 9, 3) := by decide +kernel
theorem dX4_besideX_16 : decode cX4_besideX 16 = .ok (.iload_n 0, 1) := by decide +kernel
theorem dX4_besideX_17 : decode cX4_besideX 17 = .ok (.iconst 1, 1) := by decide +kernel
theorem dX4_besideX_18 : decode cX4_besideX 18 = .ok (.isub, 1) := by decide +kernel
theorem dX4_besideX_19 : decode cX4_besideX 19 = .ok (.goto 4, 3) := by decide +kernel
theorem dX4_besideX_22 : decode cX4_besideX 22 = .ok (.iload_n 0, 1) := by decide +kernel
theorem dX4_besideX_23 : decode cX4_besideX 23 = .ok (.ireturn, 1) := by decide +kernel
theorem dX4_besideY_0 : decode cX4_besideY 0 = .ok (.iload_n 1, 1) := by decide +kernel
theorem dX4_besideY_1 : decode cX4_besideY 1 = .ok (.ifCond .ne 9, 3) := by decide +kernel
theorem dX4_besideY_4 : decode cX4_besideY 4 = .ok (.iload_n 0, 1) := by decide +kernel
theorem dX4_besideY_5 : decode cX4_besideY 5 = .ok (.iconst 1, 1) := by decide +kernel
theorem dX4_besideY_6 : decode cX4_besideY 6 = .ok (.isub, 1) := by decide +kernel
theorem dX4_besideY_7 : decode cX4_besideY 7 = .ok (.goto 15, 3) := by decide +kernel
theorem dX4_besideY_10 : decode cX4_besideY 10 = .ok (.iload_n 1, 1) := by decide +kernel
theorem dX4_besideY_11 : decode cX4_besideY 11 = .ok (.iconst 2, 1) := by decide +kernel
theorem dX4_besideY_12 : decode cX4_besideY 12 = .ok (.if_icmp .ne 9, 3) := by decide +kernel
theorem dX4_besideY_15 : decode cX4_besideY 15 = .ok (.iload_n 0, 1) := by decide +kernel
theorem dX4_besideY_16 : decode cX4_besideY 16 = .ok (.iconst 1, 1) := by decide +kernel
theorem dX4_besideY_17 : decode cX4_besideY 17 = .ok (.iadd, 1) := by decide +kernel
theorem dX4_besideY_18 : decode cX4_besideY 18 = .ok (.goto 4, 3) := by decide +kernel
theorem dX4_besideY_21 : decode cX4_besideY 21 = .ok (.iload_n 0, 1) := by decide +kernel
theorem dX4_besideY_22 : decode cX4_besideY 22 = .ok (.ireturn, 1) := by decide +kernel
set_option maxRecDepth 20000 in
theorem ggX4_isFree_X4_isInside : GoodIn wsX4_isFree wsX4_isInside := goodIn_r _ [6, 7, 8, 9, 10, 5, 11, 15, 16, 17, 18, 19, 20, 21, 22, 23, 24, 25, 26, 27, 28, 29, 30, 31, 32, 33, 34, 35, 36] (by decide +kernel) (by decide +kernel)
set_option maxRecDepth 20000 in
theorem gX4_isFree_X4_isInside : GoodIn wsX4_isFree (wsV RX4 89 RX4 yX4_isInside wsX4_isInside) := goodIn_app (goodIn_of _ (by decide +kernel)) ggX4_isFree_X4_isInside
set_option maxRecDepth 20000 in
theorem ggX4_isFree_X4_square : GoodIn wsX4_isFree wsX4_square := goodIn_r _ [14] (by decide +kernel) (by decide +kernel)
set_option maxRecDepth 20000 in
theorem gX4_isFree_X4_square : GoodIn wsX4_isFree (va_wsS RX4 97 yX4_square wsX4_square) := goodIn_app (goodIn_of _ (by decide +kernel)) ggX4_isFree_X4_square
theorem dX4_isFree_0 : decode cX4_isFree 0 = .ok (.aload_n 0, 1) := by decide +kernel
theorem dX4_isFree_1 : decode cX4_isFree 1 = .ok (.iload_n 1, 1) := by decide +kernel
theorem dX4_isFree_2 : decode cX4_isFree 2 = .ok (.iload_n 2, 1) := by decide +kernel
theorem dX4_isFree_3 : decode cX4_isFree 3 = .ok (.invokevirtual 89, 3) := by decide +kernel
theorem dX4_isFree_6 : decode cX4_isFree 6 = .ok (.ifCond .eq 20, 3) := by decide +kernel
theorem dX4_isFree_9 : decode cX4_isFree 9 = .ok (.aload_n 0, 1) := by decide +kernel
theorem dX4_isFree_10 : decode cX4_isFree 10 = .ok (.getfield 7, 3) := by decide +kernel
theorem dX4_isFree_13 : decode cX4_isFree 13 = .ok (.iload_n 1, 1) := by decide +kernel
theorem dX4_isFree_14 : decode cX4_isFree 14 = .ok (.iload_n 2, 1) := by decide +kernel
theorem dX4_isFree_15 : decode cX4_isFree 15 = .ok (.invokestatic 97, 3) := by decide +kernel
theorem dX4_isFree_18 : decode cX4_isFree 18 = .ok (.baload, 1) := by decide +kernel
theorem dX4_isFree_19 : decode cX4_isFree 19 = .ok (.ifCond .ne 7, 3) := by decide +kernel
theorem dX4_isFree_22 : decode cX4_isFree 22 = .ok (.iconst 1, 1) := by decide +kernel
theorem dX4_isFree_23 : decode cX4_isFree 23 = .ok (.goto 4, 3) := by decide +kernel
theorem dX4_isFree_26 : decode cX4_isFree 26 = .ok (.iconst 0, 1) := by decide +kernel
theorem dX4_isFree_27 : decode cX4_isFree 27 = .ok (.ireturn, 1) := by decide +kernel
set_option maxRecDepth 20000 in
theorem ggX4_measure_X4_square : GoodIn wsX4_measure wsX4_square := goodIn_r _ [8] (by decide +kernel) (by decide +kernel)
set_option maxRecDepth 20000 in
theorem gX4_measure_X4_square : GoodIn wsX4_measure (va_wsS RX4 97 yX4_square wsX4_square) := goodIn_app (goodIn_of _ (by decide +kernel)) ggX4_measure_X4_square
set_option maxRecDepth 20000 in
theorem ggX4_measure_X4_reach_k0 : GoodIn wsX4_measure ((wsX4_reach.drop 0).take 20) := goodIn_r _ [12, 1, 13, 14, 7, 15, 16, 17, 18, 19, 20, 21, 22, 23, 24, 25, 26, 27, 4, 3] (by decide +kernel) (by decide +kernel)
set_option maxRecDepth 20000 in
theorem ggX4_measure_X4_reach_k1 : GoodIn wsX4_measure ((wsX4_reach.drop 20).take 20) := goodIn_r _ [28, 29, 30, 5, 6, 8, 31, 32, 33, 34, 35, 36, 37, 38, 39, 40, 41, 42, 43, 44] (by decide +kernel) (by decide +kernel)
set_option maxRecDepth 20000 in
theorem ggX4_measure_X4_reach_k2 : GoodIn wsX4_measure (wsX4_reach.drop 40) := goodIn_r _ [45, 46, 47, 48, 49, 50, 51, 52] (by decide +kernel) (by decide +kernel)
set_option maxRecDepth 20000 in
theorem ggX4_measure_X4_reach : GoodIn wsX4_measure wsX4_reach := (goodIn_spl (a := 0) (b := 20) ggX4_measure_X4_reach_k0 (goodIn_spl (a := 20) (b := 20) ggX4_measure_X4_reach_k1 ggX4_measure_X4_reach_k2))
set_option maxRecDepth 20000 in
theorem gX4_measure_X4_reach : GoodIn wsX4_measure (wsV RX4 105 RX4 yX4_reach wsX4_reach) := goodIn_app (goodIn_of _ (by decide +kernel)) ggX4_measure_X4_reach
theorem dX4_measure_0 : decode cX4_measure 0 = .ok (.iconst 0, 1) := by decide +kernel
theorem dX4_measure_1 : decode cX4_measure 1 = .ok (.istore_n 3, 1) := by decide +kernel
theorem dX4_measure_2 : decode cX4_measure 2 = .ok (.iload_n 3, 1) := by decide +kernel
theorem dX4_measure_3 : decode cX4_measure 3 = .ok (.sipush 1024, 3) := by decide +kernel
theorem dX4_measure_6 : decode cX4_measure 6 = .ok (.if_icmp .ge 17, 3) := by decide +kernel
theorem dX4_measure_9 : decode cX4_measure 9 = .ok (.aload_n 0, 1) := by decide +kernel
theorem dX4_measure_10 : decode cX4_measure 10 = .ok (.getfield 53, 3) := by decide +kernel
theorem dX4_measure_13 : decode cX4_measure 13 = .ok (.iload_n 3, 1) := by decide +kernel
theorem dX4_measure_14 : decode cX4_measure 14 = .ok (.ldc 104, 2) := by decide +kernel
theorem dX4_measure_16 : decode cX4_measure 16 = .ok (.iastore, 1) := by decide +kernel
theorem dX4_measure_17 : decode cX4_measure 17 = .ok (.iinc 3 1, 3) := by decide +kernel
theorem dX4_measure_20 : decode cX4_measure 20 = .ok (.goto (-18), 3) := by decide +kernel
theorem dX4_measure_23 : decode cX4_measure 23 = .ok (.aload_n 0, 1) := by decide +kernel
theorem dX4_measure_24 : decode cX4_measure 24 = .ok (.getfield 53, 3) := by decide +kernel
theorem dX4_measure_27 : decode cX4_measure 27 = .ok (.iload_n 1, 1) := by decide +kernel
theorem dX4_measure_28 : decode cX4_measure 28 = .ok (.iload_n 2, 1) := by decide +kernel
theorem dX4_measure_29 : decode cX4_measure 29 = .ok (.invokestatic 97, 3) := by decide +kernel
theorem dX4_measure_32 : decode cX4_measure 32 = .ok (.iconst 0, 1) := by decide +kernel
theorem dX4_measure_33 : decode cX4_measure 33 = .ok (.iastore, 1) := by decide +kernel
theorem dX4_measure_34 : decode cX4_measure 34 = .ok (.iconst 1, 1) := by decide +kernel
theorem dX4_measure_35 : decode cX4_measure 35 = .ok (.istore_n 3, 1) := by decide +kernel
theorem dX4_measure_36 : decode cX4_measure 36 = .ok (.iconst 0, 1) := by decide +kernel
theorem dX4_measure_37 : decode cX4_measure 37 = .ok (.istore 4, 2) := by decide +kernel
theorem dX4_measure_39 : decode cX4_measure 39 = .ok (.iload_n 3, 1) := by decide +kernel
theorem dX4_measure_40 : decode cX4_measure 40 = .ok (.ifCond .eq 89, 3) := by decide +kernel
theorem dX4_measure_43 : decode cX4_measure 43 = .ok (.iconst 0, 1) := by decide +kernel
theorem dX4_measure_44 : decode cX4_measure 44 = .ok (.istore_n 3, 1) := by decide +kernel
theorem dX4_measure_45 : decode cX4_measure 45 = .ok (.iconst 0, 1) := by decide +kernel
theorem dX4_measure_46 : decode cX4_measure 46 = .ok (.istore 5, 2) := by decide +kernel
theorem dX4_measure_48 : decode cX4_measure 48 = .ok (.iload 5, 2) := by decide +kernel
theorem dX4_measure_50 : decode cX4_measure 50 = .ok (.aload_n 0, 1) := by decide +kernel
theorem dX4_measure_51 : decode cX4_measure 51 = .ok (.getfield 64, 3) := by decide +kernel
theorem dX4_measure_54 : decode cX4_measure 54 = .ok (.if_icmp .ge 69, 3) := by decide +kernel
theorem dX4_measure_57 : decode cX4_measure 57 = .ok (.iconst 0, 1) := by decide +kernel
theorem dX4_measure_58 : decode cX4_measure 58 = .ok (.istore 6, 2) := by decide +kernel
theorem dX4_measure_60 : decode cX4_measure 60 = .ok (.iload 6, 2) := by decide +kernel
theorem dX4_measure_62 : decode cX4_measure 62 = .ok (.aload_n 0, 1) := by decide +kernel
theorem dX4_measure_63 : decode cX4_measure 63 = .ok (.getfield 60, 3) := by decide +kernel
theorem dX4_measure_66 : decode cX4_measure 66 = .ok (.if_icmp .ge 51, 3) := by decide +kernel
theorem dX4_measure_69 : decode cX4_measure 69 = .ok (.aload_n 0, 1) := by decide +kernel
theorem dX4_measure_70 : decode cX4_measure 70 = .ok (.getfield 53, 3) := by decide +kernel
theorem dX4_measure_73 : decode cX4_measure 73 = .ok (.iload 6, 2) := by decide +kernel
theorem dX4_measure_75 : decode cX4_measure 75 = .ok (.iload 5, 2) := by decide +kernel
theorem dX4_measure_77 : decode cX4_measure 77 = .ok (.invokestatic 97, 3) := by decide +kernel
theorem dX4_measure_80 : decode cX4_measure 80 = .ok (.iaload, 1) := by decide +kernel
theorem dX4_measure_81 : decode cX4_measure 81 = .ok (.iload 4, 2) := by decide +kernel
theorem dX4_measure_83 : decode cX4_measure 83 = .ok (.if_icmp .ne 28, 3) := by decide +kernel
theorem dX4_measure_86 : decode cX4_measure 86 = .ok (.aload_n 0, 1) := by decide +kernel
theorem dX4_measure_87 : decode cX4_measure 87 = .ok (.iload 6, 2) := by decide +kernel
theorem dX4_measure_89 : decode cX4_measure 89 = .ok (.iload 5, 2) := by decide +kernel
theorem dX4_measure_91 : decode cX4_measure 91 = .ok (.iload 4, 2) := by decide +kernel
theorem dX4_measure_93 : decode cX4_measure 93 = .ok (.iconst 1, 1) := by decide +kernel
theorem dX4_measure_94 : decode cX4_measure 94 = .ok (.iadd, 1) := by decide +kernel
theorem dX4_measure_95 : decode cX4_measure 95 = .ok (.invokevirtual 105, 3) := by decide +kernel
theorem dX4_measure_98 : decode cX4_measure 98 = .ok (.ifCond .ne 7, 3) := by decide +kernel
theorem dX4_measure_101 : decode cX4_measure 101 = .ok (.iload_n 3, 1) := by decide +kernel
theorem dX4_measure_102 : decode cX4_measure 102 = .ok (.ifCond .eq 7, 3) := by decide +kernel
theorem dX4_measure_105 : decode cX4_measure 105 = .ok (.iconst 1, 1) := by decide +kernel
theorem dX4_measure_106 : decode cX4_measure 106 = .ok (.goto 4, 3) := by decide +kernel
theorem dX4_measure_109 : decode cX4_measure 109 = .ok (.iconst 0, 1) := by decide +kernel
theorem dX4_measure_110 : decode cX4_measure 110 = .ok (.istore_n 3, 1) := by decide +kernel
theorem dX4_measure_111 : decode cX4_measure 111 = .ok (.iinc 6 1, 3) := by decide +kernel
theorem dX4_measure_114 : decode cX4_measure 114 = .ok (.goto (-54), 3) := by decide +kernel
theorem dX4_measure_117 : decode cX4_measure 117 = .ok (.iinc 5 1, 3) := by decide +kernel
theorem dX4_measure_120 : decode cX4_measure 120 = .ok (.goto (-72), 3) := by decide +kernel
theorem dX4_measure_123 : decode cX4_measure 123 = .ok (.iinc 4 1, 3) := by decide +kernel
theorem dX4_measure_126 : decode cX4_measure 126 = .ok (.goto (-87), 3) := by decide +kernel
theorem dX4_measure_129 : decode cX4_measure 129 = .ok (.return_, 1) := by decide +kernel
set_option maxRecDepth 20000 in
theorem ggX4_reach_X4_besideX : GoodIn wsX4_reach wsX4_besideX := goodIn_r _ [5] (by decide +kernel) (by decide +kernel)
set_option maxRecDepth 20000 in
theorem gX4_reach_X4_besideX : GoodIn wsX4_reach (va_wsS RX4 108 yX4_besideX wsX4_besideX) := goodIn_app (goodIn_of _ (by decide +kernel)) ggX4_reach_X4_besideX
set_option maxRecDepth 20000 in
theorem ggX4_reach_X4_besideY : GoodIn wsX4_reach wsX4_besideY := goodIn_r _ [8] (by decide +kernel) (by decide +kernel)
set_option maxRecDepth 20000 in
theorem gX4_reach_X4_besideY : GoodIn wsX4_reach (va_wsS RX4 111 yX4_besideY wsX4_besideY) := goodIn_app (goodIn_of _ (by decide +kernel)) ggX4_reach_X4_besideY
set_option maxRecDepth 20000 in
theorem ggX4_reach_X4_isFree : GoodIn wsX4_reach wsX4_isFree := goodIn_r _ [12, 13, 14, 15, 16, 4, 17, 18, 19, 20, 21, 22, 23, 24, 25, 26, 27, 28, 29, 30, 31, 32, 33, 34, 35, 36, 37, 38, 39, 40, 41, 42, 43, 44, 45, 46, 47] (by decide +kernel) (by decide +kernel)
set_option maxRecDepth 20000 in
theorem gX4_reach_X4_isFree : GoodIn wsX4_reach (wsV RX4 114 RX4 yX4_isFree wsX4_isFree) := goodIn_app (goodIn_of _ (by decide +kernel)) ggX4_reach_X4_isFree
set_option maxRecDepth 20000 in
theorem ggX4_reach_X4_square : GoodIn wsX4_reach wsX4_square := goodIn_r _ [25] (by decide +kernel) (by decide +kernel)
set_option maxRecDepth 20000 in
theorem gX4_reach_X4_square : GoodIn wsX4_reach (va_wsS RX4 97 yX4_square wsX4_square) := goodIn_app (goodIn_of _ (by decide +kernel)) ggX4_reach_X4_square
theorem dX4_reach_0 : decode cX4_reach 0 = .ok (.iconst 0, 1) := by decide +kernel
theorem dX4_reach_1 : decode cX4_reach 1 = .ok (.istore 4, 2) := by decide +kernel
theorem dX4_reach_3 : decode cX4_reach 3 = .ok (.iconst 0, 1) := by decide +kernel
theorem dX4_reach_4 : decode cX4_reach 4 = .ok (.istore 5, 2) := by decide +kernel
theorem dX4_reach_6 : decode cX4_reach 6 = .ok (.iload 5, 2) := by decide +kernel
theorem dX4_reach_8 : decode cX4_reach 8 = .ok (.iconst 4, 1) := by decide +kernel
theorem dX4_reach_9 : decode cX4_reach 9 = .ok (.if_icmp .ge 68, 3) := by decide +kernel
theorem dX4_reach_12 : decode cX4_reach 12 = .ok (.iload_n 1, 1) := by decide +kernel
theorem dX4_reach_13 : decode cX4_reach 13 = .ok (.iload 5, 2) := by decide +kernel
theorem dX4_reach_15 : decode cX4_reach 15 = .ok (.invokestatic 108, 3) := by decide +kernel
theorem dX4_reach_18 : decode cX4_reach 18 = .ok (.istore 6, 2) := by decide +kernel
theorem dX4_reach_20 : decode cX4_reach 20 = .ok (.iload_n 2, 1) := by decide +kernel
theorem dX4_reach_21 : decode cX4_reach 21 = .ok (.iload 5, 2) := by decide +kernel
theorem dX4_reach_23 : decode cX4_reach 23 = .ok (.invokestatic 111, 3) := by decide +kernel
theorem dX4_reach_26 : decode cX4_reach 26 = .ok (.istore 7, 2) := by decide +kernel
theorem dX4_reach_28 : decode cX4_reach 28 = .ok (.aload_n 0, 1) := by decide +kernel
theorem dX4_reach_29 : decode cX4_reach 29 = .ok (.iload 6, 2) := by decide +kernel
theorem dX4_reach_31 : decode cX4_reach 31 = .ok (.iload 7, 2) := by decide +kernel
theorem dX4_reach_33 : decode cX4_reach 33 = .ok (.invokevirtual 114, 3) := by decide +kernel
theorem dX4_reach_36 : decode cX4_reach 36 = .ok (.ifCond .eq 35, 3) := by decide +kernel
theorem dX4_reach_39 : decode cX4_reach 39 = .ok (.aload_n 0, 1) := by decide +kernel
theorem dX4_reach_40 : decode cX4_reach 40 = .ok (.getfield 53, 3) := by decide +kernel
theorem dX4_reach_43 : decode cX4_reach 43 = .ok (.iload 6, 2) := by decide +kernel
theorem dX4_reach_45 : decode cX4_reach 45 = .ok (.iload 7, 2) := by decide +kernel
theorem dX4_reach_47 : decode cX4_reach 47 = .ok (.invokestatic 97, 3) := by decide +kernel
theorem dX4_reach_50 : decode cX4_reach 50 = .ok (.iaload, 1) := by decide +kernel
theorem dX4_reach_51 : decode cX4_reach 51 = .ok (.iload_n 3, 1) := by decide +kernel
theorem dX4_reach_52 : decode cX4_reach 52 = .ok (.if_icmp .le 19, 3) := by decide +kernel
theorem dX4_reach_55 : decode cX4_reach 55 = .ok (.aload_n 0, 1) := by decide +kernel
theorem dX4_reach_56 : decode cX4_reach 56 = .ok (.getfield 53, 3) := by decide +kernel
theorem dX4_reach_59 : decode cX4_reach 59 = .ok (.iload 6, 2) := by decide +kernel
theorem dX4_reach_61 : decode cX4_reach 61 = .ok (.iload 7, 2) := by decide +kernel
theorem dX4_reach_63 : decode cX4_reach 63 = .ok (.invokestatic 97, 3) := by decide +kernel
theorem dX4_reach_66 : decode cX4_reach 66 = .ok (.iload_n 3, 1) := by decide +kernel
theorem dX4_reach_67 : decode cX4_reach 67 = .ok (.iastore, 1) := by decide +kernel
theorem dX4_reach_68 : decode cX4_reach 68 = .ok (.iconst 1, 1) := by decide +kernel
theorem dX4_reach_69 : decode cX4_reach 69 = .ok (.istore 4, 2) := by decide +kernel
theorem dX4_reach_71 : decode cX4_reach 71 = .ok (.iinc 5 1, 3) := by decide +kernel
theorem dX4_reach_74 : decode cX4_reach 74 = .ok (.goto (-68), 3) := by decide +kernel
theorem dX4_reach_77 : decode cX4_reach 77 = .ok (.iload 4, 2) := by decide +kernel
theorem dX4_reach_79 : decode cX4_reach 79 = .ok (.ireturn, 1) := by decide +kernel
set_option maxRecDepth 20000 in
theorem ggX4_pathLength_X4_isFree : GoodIn wsX4_pathLength wsX4_isFree := goodIn_r _ [7, 8, 9, 10, 11, 6, 12, 13, 14, 15, 16, 17, 18, 19, 20, 35, 36, 37, 38, 39, 40, 41, 42, 43, 44, 45, 46, 47, 48, 49, 50, 51, 52, 53, 54, 55, 56] (by decide +kernel) (by decide +kernel)
set_option maxRecDepth 20000 in
theorem gX4_pathLength_X4_isFree : GoodIn wsX4_pathLength (wsV RX4 114 RX4 yX4_isFree wsX4_isFree) := goodIn_app (goodIn_of _ (by decide +kernel)) ggX4_pathLength_X4_isFree
set_option maxRecDepth 20000 in
theorem ggX4_pathLength_X4_measure_k0 : GoodIn wsX4_pathLength ((wsX4_measure.drop 0).take 20) := goodIn_r _ [24, 1, 2, 14, 13, 18, 19, 6, 20, 25, 26, 27, 28, 29, 30, 31, 32, 33, 34, 3] (by decide +kernel) (by decide +kernel)
set_option maxRecDepth 20000 in
theorem ggX4_pathLength_X4_measure_k1 : GoodIn wsX4_pathLength ((wsX4_measure.drop 20).take 20) := goodIn_r _ [4, 5, 7, 8, 9, 10, 11, 12, 15, 16, 17, 35, 36, 37, 38, 39, 40, 41, 42, 43] (by decide +kernel) (by decide +kernel)
set_option maxRecDepth 20000 in
theorem ggX4_pathLength_X4_measure_k2 : GoodIn wsX4_pathLength (wsX4_measure.drop 40) := goodIn_r _ [44, 45, 46, 47, 48, 49, 50, 51, 52, 53, 54, 55, 56] (by decide +kernel) (by decide +kernel)
set_option maxRecDepth 20000 in
theorem ggX4_pathLength_X4_measure : GoodIn wsX4_pathLength wsX4_measure := (goodIn_spl (a := 0) (b := 20) ggX4_pathLength_X4_measure_k0 (goodIn_spl (a := 20) (b := 20) ggX4_pathLength_X4_measure_k1 ggX4_pathLength_X4_measure_k2))
set_option maxRecDepth 20000 in
theorem gX4_pathLength_X4_measure : GoodIn wsX4_pathLength (wsV RX4 117 RX4 yX4_measure wsX4_measure) := goodIn_app (goodIn_of _ (by decide +kernel)) ggX4_pathLength_X4_measure
set_option maxRecDepth 20000 in
theorem ggX4_pathLength_X4_square : GoodIn wsX4_pathLength wsX4_square := goodIn_r _ [20] (by decide +kernel) (by decide +kernel)
set_option maxRecDepth 20000 in
theorem gX4_pathLength_X4_square : GoodIn wsX4_pathLength (va_wsS RX4 97 yX4_square wsX4_square) := goodIn_app (goodIn_of _ (by decide +kernel)) ggX4_pathLength_X4_square
theorem dX4_pathLength_0 : decode cX4_pathLength 0 = .ok (.aload_n 0, 1) := by decide +kernel
theorem dX4_pathLength_1 : decode cX4_pathLength 1 = .ok (.iload_n 1, 1) := by decide +kernel
theorem dX4_pathLength_2 : decode cX4_pathLength 2 = .ok (.iload_n 2, 1) := by decide +kernel
theorem dX4_pathLength_3 : decode cX4_pathLength 3 = .ok (.invokevirtual 114, 3) := by decide +kernel
theorem dX4_pathLength_6 : decode cX4_pathLength 6 = .ok (.ifCond .eq 13, 3) := by decide +kernel
theorem dX4_pathLength_9 : decode cX4_pathLength 9 = .ok (.aload_n 0, 1) := by decide +kernel
theorem dX4_pathLength_10 : decode cX4_pathLength 10 = .ok (.iload_n 3, 1) := by decide +kernel
theorem dX4_pathLength_11 : decode cX4_pathLength 11 = .ok (.iload 4, 2) := by decide +kernel
theorem dX4_pathLength_13 : decode cX4_pathLength 13 = .ok (.invokevirtual 114, 3) := by decide +kernel
theorem dX4_pathLength_16 : decode cX4_pathLength 16 = .ok (.ifCond .ne 5, 3) := by decide +kernel
theorem dX4_pathLength_19 : decode cX4_pathLength 19 = .ok (.iconst (-1), 1) := by decide +kernel
theorem dX4_pathLength_20 : decode cX4_pathLength 20 = .ok (.ireturn, 1) := by decide +kernel
theorem dX4_pathLength_21 : decode cX4_pathLength 21 = .ok (.aload_n 0, 1) := by decide +kernel
theorem dX4_pathLength_22 : decode cX4_pathLength 22 = .ok (.iload_n 3, 1) := by decide +kernel
theorem dX4_pathLength_23 : decode cX4_pathLength 23 = .ok (.iload 4, 2) := by decide +kernel
theorem dX4_pathLength_25 : decode cX4_pathLength 25 = .ok (.invokevirtual 117, 3) := by decide +kernel
theorem dX4_pathLength_28 : decode cX4_pathLength 28 = .ok (.aload_n 0, 1) := by decide +kernel
theorem dX4_pathLength_29 : decode cX4_pathLength 29 = .ok (.getfield 53, 3) := by decide +kernel
theorem dX4_pathLength_32 : decode cX4_pathLength 32 = .ok (.iload_n 1, 1) := by decide +kernel
theorem dX4_pathLength_33 : decode cX4_pathLength 33 = .ok (.iload_n 2, 1) := by decide +kernel
theorem dX4_pathLength_34 : decode cX4_pathLength 34 = .ok (.invokestatic 97, 3) := by decide +kernel
theorem dX4_pathLength_37 : decode cX4_pathLength 37 = .ok (.iaload, 1) := by decide +kernel
theorem dX4_pathLength_38 : decode cX4_pathLength 38 = .ok (.istore 5, 2) := by decide +kernel
theorem dX4_pathLength_40 : decode cX4_pathLength 40 = .ok (.iload 5, 2) := by decide +kernel
theorem dX4_pathLength_42 : decode cX4_pathLength 42 = .ok (.ldc 104, 2) := by decide +kernel
theorem dX4_pathLength_44 : decode cX4_pathLength 44 = .ok (.if_icmp .ne 7, 3) := by decide +kernel
theorem dX4_pathLength_47 : decode cX4_pathLength 47 = .ok (.iconst (-1), 1) := by decide +kernel
theorem dX4_pathLength_48 : decode cX4_pathLength 48 = .ok (.goto 5, 3) := by decide +kernel
theorem dX4_pathLength_51 : decode cX4_pathLength 51 = .ok (.iload 5, 2) := by decide +kernel
theorem dX4_pathLength_53 : decode cX4_pathLength 53 = .ok (.ireturn, 1) := by decide +kernel
set_option maxRecDepth 20000 in
theorem ggX4_way_X4_pathLength_k0 : GoodIn wsX4_way ((wsX4_pathLength.drop 0).take 20) := goodIn_r _ [8, 3, 9, 10, 11, 12, 7, 13, 14, 15, 16, 17, 18, 19, 20, 21, 22, 23, 24, 25] (by decide +kernel) (by decide +kernel)
set_option maxRecDepth 20000 in
theorem ggX4_way_X4_pathLength_k1 : GoodIn wsX4_way ((wsX4_pathLength.drop 20).take 20) := goodIn_r _ [26, 27, 28, 29, 30, 31, 32, 33, 34, 35, 36, 37, 38, 39, 40, 41, 42, 43, 44, 45] (by decide +kernel) (by decide +kernel)
set_option maxRecDepth 20000 in
theorem ggX4_way_X4_pathLength_k2 : GoodIn wsX4_way (wsX4_pathLength.drop 40) := goodIn_r _ [46, 47, 48, 49, 50, 51, 52, 53, 54, 55, 56, 57, 58, 59, 60, 61, 62] (by decide +kernel) (by decide +kernel)
set_option maxRecDepth 20000 in
theorem ggX4_way_X4_pathLength : GoodIn wsX4_way wsX4_pathLength := (goodIn_spl (a := 0) (b := 20) ggX4_way_X4_pathLength_k0 (goodIn_spl (a := 20) (b := 20) ggX4_way_X4_pathLength_k1 ggX4_way_X4_pathLength_k2))
set_option maxRecDepth 20000 in
theorem gX4_way_X4_pathLength : GoodIn wsX4_way (wsV RX4 121 RX4 yX4_pathLength wsX4_pathLength) := goodIn_app (goodIn_of _ (by decide +kernel)) ggX4_way_X4_pathLength
set_option maxRecDepth 20000 in
theorem ggX4_way_X4_besideX : GoodIn wsX4_way wsX4_besideX := goodIn_r _ [37] (by decide +kernel) (by decide +kernel)
set_option maxRecDepth 20000 in
theorem gX4_way_X4_besideX : GoodIn wsX4_way (va_wsS RX4 108 yX4_besideX wsX4_besideX) := goodIn_app (goodIn_of _ (by decide +kernel)) ggX4_way_X4_besideX
set_option maxRecDepth 20000 in
theorem ggX4_way_X4_besideY : GoodIn wsX4_way wsX4_besideY := goodIn_r _ [40] (by decide +kernel) (by decide +kernel)
set_option maxRecDepth 20000 in
theorem gX4_way_X4_besideY : GoodIn wsX4_way (va_wsS RX4 111 yX4_besideY wsX4_besideY) := goodIn_app (goodIn_of _ (by decide +kernel)) ggX4_way_X4_besideY
set_option maxRecDepth 20000 in
theorem ggX4_way_X4_isFree : GoodIn wsX4_way wsX4_isFree := goodIn_r _ [13, 14, 15, 16, 17, 7, 18, 19, 20, 21, 22, 23, 24, 25, 26, 41, 42, 43, 44, 45, 46, 47, 48, 49, 50, 51, 52, 53, 54, 55, 56, 57, 58, 59, 60, 61, 62] (by decide +kernel) (by decide +kernel)
set_option maxRecDepth 20000 in
theorem gX4_way_X4_isFree : GoodIn wsX4_way (wsV RX4 114 RX4 yX4_isFree wsX4_isFree) := goodIn_app (goodIn_of _ (by decide +kernel)) ggX4_way_X4_isFree
set_option maxRecDepth 20000 in
theorem ggX4_way_X4_square : GoodIn wsX4_way wsX4_square := goodIn_r _ [26] (by decide +kernel) (by decide +kernel)
set_option maxRecDepth 20000 in
theorem gX4_way_X4_square : GoodIn wsX4_way (va_wsS RX4 97 yX4_square wsX4_square) := goodIn_app (goodIn_of _ (by decide +kernel)) ggX4_way_X4_square
theorem dX4_way_0 : decode cX4_way 0 = .ok (.aload_n 0, 1) := by decide +kernel
theorem dX4_way_1 : decode cX4_way 1 = .ok (.aload_n 0, 1) := by decide +kernel
theorem dX4_way_2 : decode cX4_way 2 = .ok (.getfield 20, 3) := by decide +kernel
theorem dX4_way_5 : decode cX4_way 5 = .ok (.iload_n 1, 1) := by decide +kernel
theorem dX4_way_6 : decode cX4_way 6 = .ok (.iaload, 1) := by decide +kernel
theorem dX4_way_7 : decode cX4_way 7 = .ok (.aload_n 0, 1) := by decide +kernel
theorem dX4_way_8 : decode cX4_way 8 = .ok (.getfield 23, 3) := by decide +kernel
theorem dX4_way_11 : decode cX4_way 11 = .ok (.iload_n 1, 1) := by decide +kernel
theorem dX4_way_12 : decode cX4_way 12 = .ok (.iaload, 1) := by decide +kernel
theorem dX4_way_13 : decode cX4_way 13 = .ok (.iload_n 2, 1) := by decide +kernel
theorem dX4_way_14 : decode cX4_way 14 = .ok (.iload_n 3, 1) := by decide +kernel
theorem dX4_way_15 : decode cX4_way 15 = .ok (.invokevirtual 121, 3) := by decide +kernel
theorem dX4_way_18 : decode cX4_way 18 = .ok (.istore 4, 2) := by decide +kernel
theorem dX4_way_20 : decode cX4_way 20 = .ok (.iload 4, 2) := by decide +kernel
theorem dX4_way_22 : decode cX4_way 22 = .ok (.ifCond .gt 14, 3) := by decide +kernel
theorem dX4_way_25 : decode cX4_way 25 = .ok (.iload 4, 2) := by decide +kernel
theorem dX4_way_27 : decode cX4_way 27 = .ok (.ifCond .ge 7, 3) := by decide +kernel
theorem dX4_way_30 : decode cX4_way 30 = .ok (.iconst (-1), 1) := by decide +kernel
theorem dX4_way_31 : decode cX4_way 31 = .ok (.goto 4, 3) := by decide +kernel
theorem dX4_way_34 : decode cX4_way 34 = .ok (.iconst 4, 1) := by decide +kernel
theorem dX4_way_35 : decode cX4_way 35 = .ok (.ireturn, 1) := by decide +kernel
theorem dX4_way_36 : decode cX4_way 36 = .ok (.iconst 0, 1) := by decide +kernel
theorem dX4_way_37 : decode cX4_way 37 = .ok (.istore 5, 2) := by decide +kernel
theorem dX4_way_39 : decode cX4_way 39 = .ok (.iconst 0, 1) := by decide +kernel
theorem dX4_way_40 : decode cX4_way 40 = .ok (.istore 6, 2) := by decide +kernel
theorem dX4_way_42 : decode cX4_way 42 = .ok (.iload 6, 2) := by decide +kernel
theorem dX4_way_44 : decode cX4_way 44 = .ok (.ifCond .ne 85, 3) := by decide +kernel
theorem dX4_way_47 : decode cX4_way 47 = .ok (.aload_n 0, 1) := by decide +kernel
theorem dX4_way_48 : decode cX4_way 48 = .ok (.getfield 20, 3) := by decide +kernel
theorem dX4_way_51 : decode cX4_way 51 = .ok (.iload_n 1, 1) := by decide +kernel
theorem dX4_way_52 : decode cX4_way 52 = .ok (.iaload, 1) := by decide +kernel
theorem dX4_way_53 : decode cX4_way 53 = .ok (.iload 5, 2) := by decide +kernel
theorem dX4_way_55 : decode cX4_way 55 = .ok (.invokestatic 108, 3) := by decide +kernel
theorem dX4_way_58 : decode cX4_way 58 = .ok (.istore 7, 2) := by decide +kernel
theorem dX4_way_60 : decode cX4_way 60 = .ok (.aload_n 0, 1) := by decide +kernel
theorem dX4_way_61 : decode cX4_way 61 = .ok (.getfield 23, 3) := by decide +kernel
theorem dX4_way_64 : decode cX4_way 64 = .ok (.iload_n 1, 1) := by decide +kernel
theorem dX4_way_65 : decode cX4_way 65 = .ok (.iaload, 1) := by decide +kernel
theorem dX4_way_66 : decode cX4_way 66 = .ok (.iload 5, 2) := by decide +kernel
theorem dX4_way_68 : decode cX4_way 68 = .ok (.invokestatic 111, 3) := by decide +kernel
theorem dX4_way_71 : decode cX4_way 71 = .ok (.istore 8, 2) := by decide +kernel
theorem dX4_way_73 : decode cX4_way 73 = .ok (.aload_n 0, 1) := by decide +kernel
theorem dX4_way_74 : decode cX4_way 74 = .ok (.iload 7, 2) := by decide +kernel
theorem dX4_way_76 : decode cX4_way 76 = .ok (.iload 8, 2) := by decide +kernel
theorem dX4_way_78 : decode cX4_way 78 = .ok (.invokevirtual 114, 3) := by decide +kernel
theorem dX4_way_81 : decode cX4_way 81 = .ok (.ifCond .eq 26, 3) := by decide +kernel
theorem dX4_way_84 : decode cX4_way 84 = .ok (.aload_n 0, 1) := by decide +kernel
theorem dX4_way_85 : decode cX4_way 85 = .ok (.getfield 53, 3) := by decide +kernel
theorem dX4_way_88 : decode cX4_way 88 = .ok (.iload 7, 2) := by decide +kernel
theorem dX4_way_90 : decode cX4_way 90 = .ok (.iload 8, 2) := by decide +kernel
theorem dX4_way_92 : decode cX4_way 92 = .ok (.invokestatic 97, 3) := by decide +kernel
theorem dX4_way_95 : decode cX4_way 95 = .ok (.iaload, 1) := by decide +kernel
theorem dX4_way_96 : decode cX4_way 96 = .ok (.iload 4, 2) := by decide +kernel
theorem dX4_way_98 : decode cX4_way 98 = .ok (.iconst 1, 1) := by decide +kernel
theorem dX4_way_99 : decode cX4_way 99 = .ok (.isub, 1) := by decide +kernel
theorem dX4_way_100 : decode cX4_way 100 = .ok (.if_icmp .ne 7, 3) := by decide +kernel
theorem dX4_way_103 : decode cX4_way 103 = .ok (.iconst 1, 1) := by decide +kernel
theorem dX4_way_104 : decode cX4_way 104 = .ok (.goto 4, 3) := by decide +kernel
theorem dX4_way_107 : decode cX4_way 107 = .ok (.iconst 0, 1) := by decide +kernel
theorem dX4_way_108 : decode cX4_way 108 = .ok (.istore 6, 2) := by decide +kernel
theorem dX4_way_110 : decode cX4_way 110 = .ok (.iload 6, 2) := by decide +kernel
theorem dX4_way_112 : decode cX4_way 112 = .ok (.ifCond .eq 8, 3) := by decide +kernel
theorem dX4_way_115 : decode cX4_way 115 = .ok (.iload 5, 2) := by decide +kernel
theorem dX4_way_117 : decode cX4_way 117 = .ok (.goto 7, 3) := by decide +kernel
theorem dX4_way_120 : decode cX4_way 120 = .ok (.iload 5, 2) := by decide +kernel
theorem dX4_way_122 : decode cX4_way 122 = .ok (.iconst 1, 1) := by decide +kernel
theorem dX4_way_123 : decode cX4_way 123 = .ok (.iadd, 1) := by decide +kernel
theorem dX4_way_124 : decode cX4_way 124 = .ok (.istore 5, 2) := by decide +kernel
theorem dX4_way_126 : decode cX4_way 126 = .ok (.goto (-84), 3) := by decide +kernel
theorem dX4_way_129 : decode cX4_way 129 = .ok (.iload 5, 2) := by decide +kernel
theorem dX4_way_131 : decode cX4_way 131 = .ok (.ireturn, 1) := by decide +kernel
set_option maxRecDepth 20000 in
theorem ggX4_at_X4_isInside : GoodIn wsX4_at wsX4_isInside := goodIn_r _ [7, 8, 9, 10, 11, 6, 12, 24, 25, 26, 27, 28, 29, 30, 31, 32, 33, 34, 35, 36, 37, 38, 39, 40, 41, 42, 43, 44, 45] (by decide +kernel) (by decide +kernel)
set_option maxRecDepth 20000 in
theorem gX4_at_X4_isInside : GoodIn wsX4_at (wsV RX4 89 RX4 yX4_isInside wsX4_isInside) := goodIn_app (goodIn_of _ (by decide +kernel)) ggX4_at_X4_isInside
set_option maxRecDepth 20000 in
theorem ggX4_at_X4_square : GoodIn wsX4_at wsX4_square := goodIn_r _ [15] (by decide +kernel) (by decide +kernel)
set_option maxRecDepth 20000 in
theorem gX4_at_X4_square : GoodIn wsX4_at (va_wsS RX4 97 yX4_square wsX4_square) := goodIn_app (goodIn_of _ (by decide +kernel)) ggX4_at_X4_square
set_option maxRecDepth 20000 in
theorem ggX4_at_X4_robotAt : GoodIn wsX4_at wsX4_robotAt := goodIn_r _ [19, 20, 21, 22, 23, 24, 25, 26, 27, 28, 29, 30, 31, 32, 33, 34, 35, 36, 37, 38, 39, 40, 41, 42, 43, 44, 45] (by decide +kernel) (by decide +kernel)
set_option maxRecDepth 20000 in
theorem gX4_at_X4_robotAt : GoodIn wsX4_at (wsV RX4 93 RX4 yX4_robotAt wsX4_robotAt) := goodIn_app (goodIn_of _ (by decide +kernel)) ggX4_at_X4_robotAt
theorem dX4_at_0 : decode cX4_at 0 = .ok (.aload_n 0, 1) := by decide +kernel
theorem dX4_at_1 : decode cX4_at 1 = .ok (.iload_n 1, 1) := by decide +kernel
theorem dX4_at_2 : decode cX4_at 2 = .ok (.iload_n 2, 1) := by decide +kernel
theorem dX4_at_3 : decode cX4_at 3 = .ok (.invokevirtual 89, 3) := by decide +kernel
theorem dX4_at_6 : decode cX4_at 6 = .ok (.ifCond .ne 6, 3) := by decide +kernel
theorem dX4_at_9 : decode cX4_at 9 = .ok (.bipush (-2), 2) := by decide +kernel
theorem dX4_at_11 : decode cX4_at 11 = .ok (.ireturn, 1) := by decide +kernel
theorem dX4_at_12 : decode cX4_at 12 = .ok (.aload_n 0, 1) := by decide +kernel
theorem dX4_at_13 : decode cX4_at 13 = .ok (.getfield 7, 3) := by decide +kernel
theorem dX4_at_16 : decode cX4_at 16 = .ok (.iload_n 1, 1) := by decide +kernel
theorem dX4_at_17 : decode cX4_at 17 = .ok (.iload_n 2, 1) := by decide +kernel
theorem dX4_at_18 : decode cX4_at 18 = .ok (.invokestatic 97, 3) := by decide +kernel
theorem dX4_at_21 : decode cX4_at 21 = .ok (.baload, 1) := by decide +kernel
theorem dX4_at_22 : decode cX4_at 22 = .ok (.ifCond .eq 7, 3) := by decide +kernel
theorem dX4_at_25 : decode cX4_at 25 = .ok (.iconst (-1), 1) := by decide +kernel
theorem dX4_at_26 : decode cX4_at 26 = .ok (.goto 26, 3) := by decide +kernel
theorem dX4_at_29 : decode cX4_at 29 = .ok (.aload_n 0, 1) := by decide +kernel
theorem dX4_at_30 : decode cX4_at 30 = .ok (.getfield 13, 3) := by decide +kernel
theorem dX4_at_33 : decode cX4_at 33 = .ok (.iload_n 1, 1) := by decide +kernel
theorem dX4_at_34 : decode cX4_at 34 = .ok (.iload_n 2, 1) := by decide +kernel
theorem dX4_at_35 : decode cX4_at 35 = .ok (.invokestatic 97, 3) := by decide +kernel
theorem dX4_at_38 : decode cX4_at 38 = .ok (.iaload, 1) := by decide +kernel
theorem dX4_at_39 : decode cX4_at 39 = .ok (.sipush 256, 3) := by decide +kernel
theorem dX4_at_42 : decode cX4_at 42 = .ok (.aload_n 0, 1) := by decide +kernel
theorem dX4_at_43 : decode cX4_at 43 = .ok (.iload_n 1, 1) := by decide +kernel
theorem dX4_at_44 : decode cX4_at 44 = .ok (.iload_n 2, 1) := by decide +kernel
theorem dX4_at_45 : decode cX4_at 45 = .ok (.invokevirtual 93, 3) := by decide +kernel
theorem dX4_at_48 : decode cX4_at 48 = .ok (.iconst 1, 1) := by decide +kernel
theorem dX4_at_49 : decode cX4_at 49 = .ok (.iadd, 1) := by decide +kernel
theorem dX4_at_50 : decode cX4_at 50 = .ok (.imul, 1) := by decide +kernel
theorem dX4_at_51 : decode cX4_at 51 = .ok (.iadd, 1) := by decide +kernel
theorem dX4_at_52 : decode cX4_at 52 = .ok (.ireturn, 1) := by decide +kernel
