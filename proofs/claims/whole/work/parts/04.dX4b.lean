set_option maxRecDepth 20000 in
theorem ggX4_tick_X4_run_k0 : GoodIn wsX4_tick ((wsX4_run.drop 0).take 20) := goodIn_r _ [10, 11, 12, 2, 13, 14, 15, 16, 17, 9, 18, 19, 20, 21, 22, 23, 24, 25, 26, 27] (by decide +kernel) (by decide +kernel)
set_option maxRecDepth 20000 in
theorem ggX4_tick_X4_run_k1 : GoodIn wsX4_tick ((wsX4_run.drop 20).take 20) := goodIn_r _ [28, 29, 30, 3, 31, 32, 33, 34, 35, 36, 37, 38, 39, 40, 41, 42, 43, 44, 45, 46] (by decide +kernel) (by decide +kernel)
set_option maxRecDepth 20000 in
theorem ggX4_tick_X4_run_k2 : GoodIn wsX4_tick ((wsX4_run.drop 40).take 20) := goodIn_r _ [47, 48, 49, 50, 51, 52, 53, 54, 55, 56, 57, 58, 1, 59, 60, 61, 62, 63, 64, 65] (by decide +kernel) (by decide +kernel)
set_option maxRecDepth 20000 in
theorem ggX4_tick_X4_run_k3 : GoodIn wsX4_tick ((wsX4_run.drop 60).take 20) := goodIn_r _ [66, 67, 68, 69, 70, 71, 72, 73, 74, 75, 76, 77, 78, 79, 80, 81, 5, 82, 83, 84] (by decide +kernel) (by decide +kernel)
set_option maxRecDepth 20000 in
theorem ggX4_tick_X4_run_k4 : GoodIn wsX4_tick ((wsX4_run.drop 80).take 20) := goodIn_r _ [85, 86, 87, 88, 89, 90, 91, 92, 93, 94, 95, 96, 97, 98, 99, 100, 101, 102, 103, 104] (by decide +kernel) (by decide +kernel)
set_option maxRecDepth 20000 in
theorem ggX4_tick_X4_run_k5 : GoodIn wsX4_tick (wsX4_run.drop 100) := goodIn_r _ [105, 106, 107, 108, 109, 110, 111, 112, 113, 114, 115, 116, 117, 118, 119, 120, 121] (by decide +kernel) (by decide +kernel)
set_option maxRecDepth 20000 in
theorem ggX4_tick_X4_run : GoodIn wsX4_tick wsX4_run := (goodIn_spl (a := 0) (b := 20) ggX4_tick_X4_run_k0 (goodIn_spl (a := 20) (b := 20) ggX4_tick_X4_run_k1 (goodIn_spl (a := 40) (b := 20) ggX4_tick_X4_run_k2 (goodIn_spl (a := 60) (b := 20) ggX4_tick_X4_run_k3 (goodIn_spl (a := 80) (b := 20) ggX4_tick_X4_run_k4 ggX4_tick_X4_run_k5)))))
set_option maxRecDepth 20000 in
theorem gX4_tick_X4_run : GoodIn wsX4_tick (wsV RX4 125 RX4 yX4_run wsX4_run) := goodIn_app (goodIn_of _ (by decide +kernel)) ggX4_tick_X4_run
theorem dX4_tick_0 : decode cX4_tick 0 = .ok (.iconst 0, 1) := by decide +kernel
theorem dX4_tick_1 : decode cX4_tick 1 = .ok (.istore_n 1, 1) := by decide +kernel
theorem dX4_tick_2 : decode cX4_tick 2 = .ok (.iload_n 1, 1) := by decide +kernel
theorem dX4_tick_3 : decode cX4_tick 3 = .ok (.aload_n 0, 1) := by decide +kernel
theorem dX4_tick_4 : decode cX4_tick 4 = .ok (.getfield 67, 3) := by decide +kernel
theorem dX4_tick_7 : decode cX4_tick 7 = .ok (.if_icmp .ge 66, 3) := by decide +kernel
theorem dX4_tick_10 : decode cX4_tick 10 = .ok (.aload_n 0, 1) := by decide +kernel
theorem dX4_tick_11 : decode cX4_tick 11 = .ok (.getfield 17, 3) := by decide +kernel
theorem dX4_tick_14 : decode cX4_tick 14 = .ok (.iload_n 1, 1) := by decide +kernel
theorem dX4_tick_15 : decode cX4_tick 15 = .ok (.iaload, 1) := by decide +kernel
theorem dX4_tick_16 : decode cX4_tick 16 = .ok (.iconst 3, 1) := by decide +kernel
theorem dX4_tick_17 : decode cX4_tick 17 = .ok (.if_icmp .ne 50, 3) := by decide +kernel
theorem dX4_tick_20 : decode cX4_tick 20 = .ok (.aload_n 0, 1) := by decide +kernel
theorem dX4_tick_21 : decode cX4_tick 21 = .ok (.getfield 17, 3) := by decide +kernel
theorem dX4_tick_24 : decode cX4_tick 24 = .ok (.iload_n 1, 1) := by decide +kernel
theorem dX4_tick_25 : decode cX4_tick 25 = .ok (.aload_n 0, 1) := by decide +kernel
theorem dX4_tick_26 : decode cX4_tick 26 = .ok (.getfield 47, 3) := by decide +kernel
theorem dX4_tick_29 : decode cX4_tick 29 = .ok (.iload_n 1, 1) := by decide +kernel
theorem dX4_tick_30 : decode cX4_tick 30 = .ok (.iaload, 1) := by decide +kernel
theorem dX4_tick_31 : decode cX4_tick 31 = .ok (.ifCond .ne 7, 3) := by decide +kernel
theorem dX4_tick_34 : decode cX4_tick 34 = .ok (.iconst 2, 1) := by decide +kernel
theorem dX4_tick_35 : decode cX4_tick 35 = .ok (.goto 4, 3) := by decide +kernel
theorem dX4_tick_38 : decode cX4_tick 38 = .ok (.iconst 3, 1) := by decide +kernel
theorem dX4_tick_39 : decode cX4_tick 39 = .ok (.iastore, 1) := by decide +kernel
theorem dX4_tick_40 : decode cX4_tick 40 = .ok (.aload_n 0, 1) := by decide +kernel
theorem dX4_tick_41 : decode cX4_tick 41 = .ok (.getfield 47, 3) := by decide +kernel
theorem dX4_tick_44 : decode cX4_tick 44 = .ok (.iload_n 1, 1) := by decide +kernel
theorem dX4_tick_45 : decode cX4_tick 45 = .ok (.aload_n 0, 1) := by decide +kernel
theorem dX4_tick_46 : decode cX4_tick 46 = .ok (.getfield 47, 3) := by decide +kernel
theorem dX4_tick_49 : decode cX4_tick 49 = .ok (.iload_n 1, 1) := by decide +kernel
theorem dX4_tick_50 : decode cX4_tick 50 = .ok (.iaload, 1) := by decide +kernel
theorem dX4_tick_51 : decode cX4_tick 51 = .ok (.ifCond .ne 7, 3) := by decide +kernel
theorem dX4_tick_54 : decode cX4_tick 54 = .ok (.iconst 0, 1) := by decide +kernel
theorem dX4_tick_55 : decode cX4_tick 55 = .ok (.goto 11, 3) := by decide +kernel
theorem dX4_tick_58 : decode cX4_tick 58 = .ok (.aload_n 0, 1) := by decide +kernel
theorem dX4_tick_59 : decode cX4_tick 59 = .ok (.getfield 47, 3) := by decide +kernel
theorem dX4_tick_62 : decode cX4_tick 62 = .ok (.iload_n 1, 1) := by decide +kernel
theorem dX4_tick_63 : decode cX4_tick 63 = .ok (.iaload, 1) := by decide +kernel
theorem dX4_tick_64 : decode cX4_tick 64 = .ok (.iconst 1, 1) := by decide +kernel
theorem dX4_tick_65 : decode cX4_tick 65 = .ok (.isub, 1) := by decide +kernel
theorem dX4_tick_66 : decode cX4_tick 66 = .ok (.iastore, 1) := by decide +kernel
theorem dX4_tick_67 : decode cX4_tick 67 = .ok (.iinc 1 1, 3) := by decide +kernel
theorem dX4_tick_70 : decode cX4_tick 70 = .ok (.goto (-68), 3) := by decide +kernel
theorem dX4_tick_73 : decode cX4_tick 73 = .ok (.iconst (-1), 1) := by decide +kernel
theorem dX4_tick_74 : decode cX4_tick 74 = .ok (.istore_n 1, 1) := by decide +kernel
theorem dX4_tick_75 : decode cX4_tick 75 = .ok (.iconst 1, 1) := by decide +kernel
theorem dX4_tick_76 : decode cX4_tick 76 = .ok (.istore_n 2, 1) := by decide +kernel
theorem dX4_tick_77 : decode cX4_tick 77 = .ok (.iload_n 2, 1) := by decide +kernel
theorem dX4_tick_78 : decode cX4_tick 78 = .ok (.aload_n 0, 1) := by decide +kernel
theorem dX4_tick_79 : decode cX4_tick 79 = .ok (.getfield 67, 3) := by decide +kernel
theorem dX4_tick_82 : decode cX4_tick 82 = .ok (.if_icmp .gt 41, 3) := by decide +kernel
theorem dX4_tick_85 : decode cX4_tick 85 = .ok (.iload_n 1, 1) := by decide +kernel
theorem dX4_tick_86 : decode cX4_tick 86 = .ok (.ifCond .ge 37, 3) := by decide +kernel
theorem dX4_tick_89 : decode cX4_tick 89 = .ok (.aload_n 0, 1) := by decide +kernel
theorem dX4_tick_90 : decode cX4_tick 90 = .ok (.getfield 79, 3) := by decide +kernel
theorem dX4_tick_93 : decode cX4_tick 93 = .ok (.iload_n 2, 1) := by decide +kernel
theorem dX4_tick_94 : decode cX4_tick 94 = .ok (.iadd, 1) := by decide +kernel
theorem dX4_tick_95 : decode cX4_tick 95 = .ok (.aload_n 0, 1) := by decide +kernel
theorem dX4_tick_96 : decode cX4_tick 96 = .ok (.getfield 67, 3) := by decide +kernel
theorem dX4_tick_99 : decode cX4_tick 99 = .ok (.irem, 1) := by decide +kernel
theorem dX4_tick_100 : decode cX4_tick 100 = .ok (.istore_n 3, 1) := by decide +kernel
theorem dX4_tick_101 : decode cX4_tick 101 = .ok (.aload_n 0, 1) := by decide +kernel
theorem dX4_tick_102 : decode cX4_tick 102 = .ok (.getfield 17, 3) := by decide +kernel
theorem dX4_tick_105 : decode cX4_tick 105 = .ok (.iload_n 3, 1) := by decide +kernel
theorem dX4_tick_106 : decode cX4_tick 106 = .ok (.iaload, 1) := by decide +kernel
theorem dX4_tick_107 : decode cX4_tick 107 = .ok (.iconst 2, 1) := by decide +kernel
theorem dX4_tick_108 : decode cX4_tick 108 = .ok (.if_icmp .ne 7, 3) := by decide +kernel
theorem dX4_tick_111 : decode cX4_tick 111 = .ok (.iload_n 3, 1) := by decide +kernel
theorem dX4_tick_112 : decode cX4_tick 112 = .ok (.goto 4, 3) := by decide +kernel
theorem dX4_tick_115 : decode cX4_tick 115 = .ok (.iconst (-1), 1) := by decide +kernel
theorem dX4_tick_116 : decode cX4_tick 116 = .ok (.istore_n 1, 1) := by decide +kernel
theorem dX4_tick_117 : decode cX4_tick 117 = .ok (.iinc 2 1, 3) := by decide +kernel
theorem dX4_tick_120 : decode cX4_tick 120 = .ok (.goto (-43), 3) := by decide +kernel
theorem dX4_tick_123 : decode cX4_tick 123 = .ok (.iload_n 1, 1) := by decide +kernel
theorem dX4_tick_124 : decode cX4_tick 124 = .ok (.ifCond .lt 13, 3) := by decide +kernel
theorem dX4_tick_127 : decode cX4_tick 127 = .ok (.aload_n 0, 1) := by decide +kernel
theorem dX4_tick_128 : decode cX4_tick 128 = .ok (.iload_n 1, 1) := by decide +kernel
theorem dX4_tick_129 : decode cX4_tick 129 = .ok (.putfield 79, 3) := by decide +kernel
theorem dX4_tick_132 : decode cX4_tick 132 = .ok (.aload_n 0, 1) := by decide +kernel
theorem dX4_tick_133 : decode cX4_tick 133 = .ok (.iload_n 1, 1) := by decide +kernel
theorem dX4_tick_134 : decode cX4_tick 134 = .ok (.invokevirtual 125, 3) := by decide +kernel
theorem dX4_tick_137 : decode cX4_tick 137 = .ok (.aload_n 0, 1) := by decide +kernel
theorem dX4_tick_138 : decode cX4_tick 138 = .ok (.dup, 1) := by decide +kernel
theorem dX4_tick_139 : decode cX4_tick 139 = .ok (.getfield 82, 3) := by decide +kernel
theorem dX4_tick_142 : decode cX4_tick 142 = .ok (.iconst 1, 1) := by decide +kernel
theorem dX4_tick_143 : decode cX4_tick 143 = .ok (.iadd, 1) := by decide +kernel
theorem dX4_tick_144 : decode cX4_tick 144 = .ok (.putfield 82, 3) := by decide +kernel
theorem dX4_tick_147 : decode cX4_tick 147 = .ok (.iload_n 1, 1) := by decide +kernel
theorem dX4_tick_148 : decode cX4_tick 148 = .ok (.ireturn, 1) := by decide +kernel
set_option maxRecDepth 20000 in
theorem ggX4_runTicks_X4_in : GoodIn wsX4_runTicks wsX4_in := goodIn_r _ [4] (by decide +kernel) (by decide +kernel)
set_option maxRecDepth 20000 in
theorem gX4_runTicks_X4_in : GoodIn wsX4_runTicks (va_wsS RX4 85 yX4_in wsX4_in) := goodIn_app (goodIn_of _ (by decide +kernel)) ggX4_runTicks_X4_in
set_option maxRecDepth 20000 in
theorem ggX4_runTicks_X4_tick_k0 : GoodIn wsX4_runTicks ((wsX4_tick.drop 0).take 20) := goodIn_r _ [8, 9, 10, 11, 12, 13, 14, 15, 16, 3, 17, 18, 19, 20, 21, 22, 1, 2, 4, 23] (by decide +kernel) (by decide +kernel)
set_option maxRecDepth 20000 in
theorem ggX4_runTicks_X4_tick_k1 : GoodIn wsX4_runTicks ((wsX4_tick.drop 20).take 20) := goodIn_r _ [24, 25, 26, 27, 28, 29, 30, 31, 32, 33, 34, 35, 36, 37, 38, 39, 40, 41, 42, 43] (by decide +kernel) (by decide +kernel)
set_option maxRecDepth 20000 in
theorem ggX4_runTicks_X4_tick_k2 : GoodIn wsX4_runTicks ((wsX4_tick.drop 40).take 20) := goodIn_r _ [44, 45, 46, 47, 48, 49, 50, 51, 52, 53, 54, 55, 56, 57, 58, 59, 60, 61, 62, 63] (by decide +kernel) (by decide +kernel)
set_option maxRecDepth 20000 in
theorem ggX4_runTicks_X4_tick_k3 : GoodIn wsX4_runTicks ((wsX4_tick.drop 60).take 20) := goodIn_r _ [64, 65, 66, 67, 68, 69, 70, 71, 72, 73, 74, 75, 76, 77, 78, 79, 80, 81, 82, 83] (by decide +kernel) (by decide +kernel)
set_option maxRecDepth 20000 in
theorem ggX4_runTicks_X4_tick_k4 : GoodIn wsX4_runTicks ((wsX4_tick.drop 80).take 20) := goodIn_r _ [84, 85, 86, 87, 88, 89, 90, 91, 92, 93, 94, 95, 96, 97, 98, 99, 100, 101, 102, 103] (by decide +kernel) (by decide +kernel)
set_option maxRecDepth 20000 in
theorem ggX4_runTicks_X4_tick_k5 : GoodIn wsX4_runTicks ((wsX4_tick.drop 100).take 20) := goodIn_r _ [104, 105, 106, 107, 108, 109, 110, 111, 112, 113, 114, 115, 116, 117, 118, 119, 120, 121, 122, 123] (by decide +kernel) (by decide +kernel)
set_option maxRecDepth 20000 in
theorem ggX4_runTicks_X4_tick_k6 : GoodIn wsX4_runTicks (wsX4_tick.drop 120) := goodIn_r _ [124, 125] (by decide +kernel) (by decide +kernel)
set_option maxRecDepth 20000 in
theorem ggX4_runTicks_X4_tick : GoodIn wsX4_runTicks wsX4_tick := (goodIn_spl (a := 0) (b := 20) ggX4_runTicks_X4_tick_k0 (goodIn_spl (a := 20) (b := 20) ggX4_runTicks_X4_tick_k1 (goodIn_spl (a := 40) (b := 20) ggX4_runTicks_X4_tick_k2 (goodIn_spl (a := 60) (b := 20) ggX4_runTicks_X4_tick_k3 (goodIn_spl (a := 80) (b := 20) ggX4_runTicks_X4_tick_k4 (goodIn_spl (a := 100) (b := 20) ggX4_runTicks_X4_tick_k5 ggX4_runTicks_X4_tick_k6))))))
set_option maxRecDepth 20000 in
theorem gX4_runTicks_X4_tick : GoodIn wsX4_runTicks (wsV RX4 129 RX4 yX4_tick wsX4_tick) := goodIn_app (goodIn_of _ (by decide +kernel)) ggX4_runTicks_X4_tick
theorem dX4_runTicks_0 : decode cX4_runTicks 0 = .ok (.iload_n 1, 1) := by decide +kernel
theorem dX4_runTicks_1 : decode cX4_runTicks 1 = .ok (.iconst 0, 1) := by decide +kernel
theorem dX4_runTicks_2 : decode cX4_runTicks 2 = .ok (.sipush 10000, 3) := by decide +kernel
theorem dX4_runTicks_5 : decode cX4_runTicks 5 = .ok (.invokestatic 85, 3) := by decide +kernel
theorem dX4_runTicks_8 : decode cX4_runTicks 8 = .ok (.ifCond .ne 6, 3) := by decide +kernel
theorem dX4_runTicks_11 : decode cX4_runTicks 11 = .ok (.bipush (-2), 2) := by decide +kernel
theorem dX4_runTicks_13 : decode cX4_runTicks 13 = .ok (.ireturn, 1) := by decide +kernel
theorem dX4_runTicks_14 : decode cX4_runTicks 14 = .ok (.iconst 0, 1) := by decide +kernel
theorem dX4_runTicks_15 : decode cX4_runTicks 15 = .ok (.istore_n 2, 1) := by decide +kernel
theorem dX4_runTicks_16 : decode cX4_runTicks 16 = .ok (.iconst 0, 1) := by decide +kernel
theorem dX4_runTicks_17 : decode cX4_runTicks 17 = .ok (.istore_n 3, 1) := by decide +kernel
theorem dX4_runTicks_18 : decode cX4_runTicks 18 = .ok (.iload_n 3, 1) := by decide +kernel
theorem dX4_runTicks_19 : decode cX4_runTicks 19 = .ok (.iload_n 1, 1) := by decide +kernel
theorem dX4_runTicks_20 : decode cX4_runTicks 20 = .ok (.if_icmp .ge 24, 3) := by decide +kernel
theorem dX4_runTicks_23 : decode cX4_runTicks 23 = .ok (.aload_n 0, 1) := by decide +kernel
theorem dX4_runTicks_24 : decode cX4_runTicks 24 = .ok (.invokevirtual 129, 3) := by decide +kernel
theorem dX4_runTicks_27 : decode cX4_runTicks 27 = .ok (.ifCond .lt 9, 3) := by decide +kernel
theorem dX4_runTicks_30 : decode cX4_runTicks 30 = .ok (.iload_n 2, 1) := by decide +kernel
theorem dX4_runTicks_31 : decode cX4_runTicks 31 = .ok (.iconst 1, 1) := by decide +kernel
theorem dX4_runTicks_32 : decode cX4_runTicks 32 = .ok (.iadd, 1) := by decide +kernel
theorem dX4_runTicks_33 : decode cX4_runTicks 33 = .ok (.goto 4, 3) := by decide +kernel
theorem dX4_runTicks_36 : decode cX4_runTicks 36 = .ok (.iload_n 2, 1) := by decide +kernel
theorem dX4_runTicks_37 : decode cX4_runTicks 37 = .ok (.istore_n 2, 1) := by decide +kernel
theorem dX4_runTicks_38 : decode cX4_runTicks 38 = .ok (.iinc 3 1, 3) := by decide +kernel
theorem dX4_runTicks_41 : decode cX4_runTicks 41 = .ok (.goto (-23), 3) := by decide +kernel
theorem dX4_runTicks_44 : decode cX4_runTicks 44 = .ok (.iload_n 2, 1) := by decide +kernel
theorem dX4_runTicks_45 : decode cX4_runTicks 45 = .ok (.ireturn, 1) := by decide +kernel
set_option maxRecDepth 20000 in
theorem ggX4_run_X4_in : GoodIn wsX4_run wsX4_in := goodIn_r _ [10] (by decide +kernel) (by decide +kernel)
set_option maxRecDepth 20000 in
theorem gX4_run_X4_in : GoodIn wsX4_run (va_wsS RX4 85 yX4_in wsX4_in) := goodIn_app (goodIn_of _ (by decide +kernel)) ggX4_run_X4_in
set_option maxRecDepth 20000 in
theorem ggX4_run_X4_reckon : GoodIn wsX4_run wsX4_reckon := goodIn_r _ [14, 5, 3, 1, 95, 96, 97, 98, 99, 100, 101, 102, 103, 104, 105, 106, 107, 108, 109, 110, 111, 112, 113, 114, 115, 116] (by decide +kernel) (by decide +kernel)
set_option maxRecDepth 20000 in
theorem gX4_run_X4_reckon : GoodIn wsX4_run (wsV RX4 133 RX4 yX4_reckon wsX4_reckon) := goodIn_app (goodIn_of _ (by decide +kernel)) ggX4_run_X4_reckon
set_option maxRecDepth 20000 in
theorem ggX4_run_X4_act_k0 : GoodIn wsX4_run ((wsX4_act.drop 0).take 20) := goodIn_r _ [18, 5, 19, 20, 21, 22, 3, 23, 24, 25, 9, 26, 27, 28, 29, 30, 31, 32, 33, 34] (by decide +kernel) (by decide +kernel)
set_option maxRecDepth 20000 in
theorem ggX4_run_X4_act_k1 : GoodIn wsX4_run ((wsX4_act.drop 20).take 20) := goodIn_r _ [35, 36, 37, 38, 39, 40, 41, 42, 43, 44, 45, 46, 47, 7, 8, 10, 48, 49, 50, 51] (by decide +kernel) (by decide +kernel)
set_option maxRecDepth 20000 in
theorem ggX4_run_X4_act_k2 : GoodIn wsX4_run ((wsX4_act.drop 40).take 20) := goodIn_r _ [52, 53, 54, 55, 56, 57, 58, 59, 60, 61, 62, 63, 64, 65, 66, 67, 68, 69, 70, 71] (by decide +kernel) (by decide +kernel)
set_option maxRecDepth 20000 in
theorem ggX4_run_X4_act_k3 : GoodIn wsX4_run ((wsX4_act.drop 60).take 20) := goodIn_r _ [1, 72, 73, 74, 75, 76, 77, 78, 79, 80, 81, 82, 83, 84, 85, 86, 87, 88, 89, 90] (by decide +kernel) (by decide +kernel)
set_option maxRecDepth 20000 in
theorem ggX4_run_X4_act_k4 : GoodIn wsX4_run ((wsX4_act.drop 80).take 20) := goodIn_r _ [91, 92, 93, 94, 95, 96, 97, 98, 99, 100, 101, 102, 103, 104, 105, 106, 107, 108, 109, 110] (by decide +kernel) (by decide +kernel)
set_option maxRecDepth 20000 in
theorem ggX4_run_X4_act_k5 : GoodIn wsX4_run (wsX4_act.drop 100) := goodIn_r _ [111, 112, 113, 114, 115, 116] (by decide +kernel) (by decide +kernel)
set_option maxRecDepth 20000 in
theorem ggX4_run_X4_act : GoodIn wsX4_run wsX4_act := (goodIn_spl (a := 0) (b := 20) ggX4_run_X4_act_k0 (goodIn_spl (a := 20) (b := 20) ggX4_run_X4_act_k1 (goodIn_spl (a := 40) (b := 20) ggX4_run_X4_act_k2 (goodIn_spl (a := 60) (b := 20) ggX4_run_X4_act_k3 (goodIn_spl (a := 80) (b := 20) ggX4_run_X4_act_k4 ggX4_run_X4_act_k5)))))
set_option maxRecDepth 20000 in
theorem gX4_run_X4_act : GoodIn wsX4_run (wsV RX4 137 RX4 yX4_act wsX4_act) := goodIn_app (goodIn_of _ (by decide +kernel)) ggX4_run_X4_act
theorem dX4_run_0 : decode cX4_run 0 = .ok (.aload_n 0, 1) := by decide +kernel
theorem dX4_run_1 : decode cX4_run 1 = .ok (.getfield 35, 3) := by decide +kernel
theorem dX4_run_4 : decode cX4_run 4 = .ok (.iload_n 1, 1) := by decide +kernel
theorem dX4_run_5 : decode cX4_run 5 = .ok (.iaload, 1) := by decide +kernel
theorem dX4_run_6 : decode cX4_run 6 = .ok (.istore_n 2, 1) := by decide +kernel
theorem dX4_run_7 : decode cX4_run 7 = .ok (.iload_n 2, 1) := by decide +kernel
theorem dX4_run_8 : decode cX4_run 8 = .ok (.iconst 0, 1) := by decide +kernel
theorem dX4_run_9 : decode cX4_run 9 = .ok (.aload_n 0, 1) := by decide +kernel
theorem dX4_run_10 : decode cX4_run 10 = .ok (.getfield 29, 3) := by decide +kernel
theorem dX4_run_13 : decode cX4_run 13 = .ok (.iload_n 1, 1) := by decide +kernel
theorem dX4_run_14 : decode cX4_run 14 = .ok (.iaload, 1) := by decide +kernel
theorem dX4_run_15 : decode cX4_run 15 = .ok (.iconst 1, 1) := by decide +kernel
theorem dX4_run_16 : decode cX4_run 16 = .ok (.isub, 1) := by decide +kernel
theorem dX4_run_17 : decode cX4_run 17 = .ok (.invokestatic 85, 3) := by decide +kernel
theorem dX4_run_20 : decode cX4_run 20 = .ok (.ifCond .ne 12, 3) := by decide +kernel
theorem dX4_run_23 : decode cX4_run 23 = .ok (.aload_n 0, 1) := by decide +kernel
theorem dX4_run_24 : decode cX4_run 24 = .ok (.getfield 17, 3) := by decide +kernel
theorem dX4_run_27 : decode cX4_run 27 = .ok (.iload_n 1, 1) := by decide +kernel
theorem dX4_run_28 : decode cX4_run 28 = .ok (.bipush 6, 2) := by decide +kernel
theorem dX4_run_30 : decode cX4_run 30 = .ok (.iastore, 1) := by decide +kernel
theorem dX4_run_31 : decode cX4_run 31 = .ok (.return_, 1) := by decide +kernel
theorem dX4_run_32 : decode cX4_run 32 = .ok (.aload_n 0, 1) := by decide +kernel
theorem dX4_run_33 : decode cX4_run 33 = .ok (.getfield 26, 3) := by decide +kernel
theorem dX4_run_36 : decode cX4_run 36 = .ok (.bipush 100, 2) := by decide +kernel
theorem dX4_run_38 : decode cX4_run 38 = .ok (.iload_n 1, 1) := by decide +kernel
theorem dX4_run_39 : decode cX4_run 39 = .ok (.imul, 1) := by decide +kernel
theorem dX4_run_40 : decode cX4_run 40 = .ok (.iload_n 2, 1) := by decide +kernel
theorem dX4_run_41 : decode cX4_run 41 = .ok (.iadd, 1) := by decide +kernel
theorem dX4_run_42 : decode cX4_run 42 = .ok (.iaload, 1) := by decide +kernel
theorem dX4_run_43 : decode cX4_run 43 = .ok (.istore_n 3, 1) := by decide +kernel
theorem dX4_run_44 : decode cX4_run 44 = .ok (.iload_n 3, 1) := by decide +kernel
theorem dX4_run_45 : decode cX4_run 45 = .ok (.sipush 255, 3) := by decide +kernel
theorem dX4_run_48 : decode cX4_run 48 = .ok (.iand, 1) := by decide +kernel
theorem dX4_run_49 : decode cX4_run 49 = .ok (.istore 4, 2) := by decide +kernel
theorem dX4_run_51 : decode cX4_run 51 = .ok (.iload_n 3, 1) := by decide +kernel
theorem dX4_run_52 : decode cX4_run 52 = .ok (.bipush 8, 2) := by decide +kernel
theorem dX4_run_54 : decode cX4_run 54 = .ok (.ishr, 1) := by decide +kernel
theorem dX4_run_55 : decode cX4_run 55 = .ok (.bipush 15, 2) := by decide +kernel
theorem dX4_run_57 : decode cX4_run 57 = .ok (.iand, 1) := by decide +kernel
theorem dX4_run_58 : decode cX4_run 58 = .ok (.istore 5, 2) := by decide +kernel
theorem dX4_run_60 : decode cX4_run 60 = .ok (.iload_n 3, 1) := by decide +kernel
theorem dX4_run_61 : decode cX4_run 61 = .ok (.bipush 12, 2) := by decide +kernel
theorem dX4_run_63 : decode cX4_run 63 = .ok (.ishr, 1) := by decide +kernel
theorem dX4_run_64 : decode cX4_run 64 = .ok (.bipush 15, 2) := by decide +kernel
theorem dX4_run_66 : decode cX4_run 66 = .ok (.iand, 1) := by decide +kernel
theorem dX4_run_67 : decode cX4_run 67 = .ok (.istore 6, 2) := by decide +kernel
theorem dX4_run_69 : decode cX4_run 69 = .ok (.iload 4, 2) := by decide +kernel
theorem dX4_run_71 : decode cX4_run 71 = .ok (.bipush 6, 2) := by decide +kernel
theorem dX4_run_73 : decode cX4_run 73 = .ok (.if_icmp .eq 10, 3) := by decide +kernel
theorem dX4_run_76 : decode cX4_run 76 = .ok (.iload 4, 2) := by decide +kernel
theorem dX4_run_78 : decode cX4_run 78 = .ok (.bipush 7, 2) := by decide +kernel
theorem dX4_run_80 : decode cX4_run 80 = .ok (.if_icmp .ne 7, 3) := by decide +kernel
theorem dX4_run_83 : decode cX4_run 83 = .ok (.iconst 1, 1) := by decide +kernel
theorem dX4_run_84 : decode cX4_run 84 = .ok (.goto 4, 3) := by decide +kernel
theorem dX4_run_87 : decode cX4_run 87 = .ok (.iconst 0, 1) := by decide +kernel
theorem dX4_run_88 : decode cX4_run 88 = .ok (.istore 7, 2) := by decide +kernel
theorem dX4_run_90 : decode cX4_run 90 = .ok (.iload 4, 2) := by decide +kernel
theorem dX4_run_92 : decode cX4_run 92 = .ok (.bipush 24, 2) := by decide +kernel
theorem dX4_run_94 : decode cX4_run 94 = .ok (.if_icmp .gt 37, 3) := by decide +kernel
theorem dX4_run_97 : decode cX4_run 97 = .ok (.iload 5, 2) := by decide +kernel
theorem dX4_run_99 : decode cX4_run 99 = .ok (.bipush 7, 2) := by decide +kernel
theorem dX4_run_101 : decode cX4_run 101 = .ok (.if_icmp .gt 30, 3) := by decide +kernel
theorem dX4_run_104 : decode cX4_run 104 = .ok (.iload 6, 2) := by decide +kernel
theorem dX4_run_106 : decode cX4_run 106 = .ok (.bipush 7, 2) := by decide +kernel
theorem dX4_run_108 : decode cX4_run 108 = .ok (.if_icmp .gt 23, 3) := by decide +kernel
theorem dX4_run_111 : decode cX4_run 111 = .ok (.iload 7, 2) := by decide +kernel
theorem dX4_run_113 : decode cX4_run 113 = .ok (.ifCond .eq 27, 3) := by decide +kernel
theorem dX4_run_116 : decode cX4_run 116 = .ok (.aload_n 0, 1) := by decide +kernel
theorem dX4_run_117 : decode cX4_run 117 = .ok (.getfield 32, 3) := by decide +kernel
theorem dX4_run_120 : decode cX4_run 120 = .ok (.bipush 8, 2) := by decide +kernel
theorem dX4_run_122 : decode cX4_run 122 = .ok (.iload_n 1, 1) := by decide +kernel
theorem dX4_run_123 : decode cX4_run 123 = .ok (.imul, 1) := by decide +kernel
theorem dX4_run_124 : decode cX4_run 124 = .ok (.iload 6, 2) := by decide +kernel
theorem dX4_run_126 : decode cX4_run 126 = .ok (.iadd, 1) := by decide +kernel
theorem dX4_run_127 : decode cX4_run 127 = .ok (.iaload, 1) := by decide +kernel
theorem dX4_run_128 : decode cX4_run 128 = .ok (.ifCond .ne 12, 3) := by decide +kernel
theorem dX4_run_131 : decode cX4_run 131 = .ok (.aload_n 0, 1) := by decide +kernel
theorem dX4_run_132 : decode cX4_run 132 = .ok (.getfield 17, 3) := by decide +kernel
theorem dX4_run_135 : decode cX4_run 135 = .ok (.iload_n 1, 1) := by decide +kernel
theorem dX4_run_136 : decode cX4_run 136 = .ok (.bipush 6, 2) := by decide +kernel
theorem dX4_run_138 : decode cX4_run 138 = .ok (.iastore, 1) := by decide +kernel
theorem dX4_run_139 : decode cX4_run 139 = .ok (.return_, 1) := by decide +kernel
theorem dX4_run_140 : decode cX4_run 140 = .ok (.aload_n 0, 1) := by decide +kernel
theorem dX4_run_141 : decode cX4_run 141 = .ok (.getfield 50, 3) := by decide +kernel
theorem dX4_run_144 : decode cX4_run 144 = .ok (.iload_n 1, 1) := by decide +kernel
theorem dX4_run_145 : decode cX4_run 145 = .ok (.dup2, 1) := by decide +kernel
theorem dX4_run_146 : decode cX4_run 146 = .ok (.iaload, 1) := by decide +kernel
theorem dX4_run_147 : decode cX4_run 147 = .ok (.iconst 1, 1) := by decide +kernel
theorem dX4_run_148 : decode cX4_run 148 = .ok (.iadd, 1) := by decide +kernel
theorem dX4_run_149 : decode cX4_run 149 = .ok (.iastore, 1) := by decide +kernel
theorem dX4_run_150 : decode cX4_run 150 = .ok (.aload_n 0, 1) := by decide +kernel
theorem dX4_run_151 : decode cX4_run 151 = .ok (.getfield 35, 3) := by decide +kernel
theorem dX4_run_154 : decode cX4_run 154 = .ok (.iload_n 1, 1) := by decide +kernel
theorem dX4_run_155 : decode cX4_run 155 = .ok (.iload_n 2, 1) := by decide +kernel
theorem dX4_run_156 : decode cX4_run 156 = .ok (.iconst 1, 1) := by decide +kernel
theorem dX4_run_157 : decode cX4_run 157 = .ok (.iadd, 1) := by decide +kernel
theorem dX4_run_158 : decode cX4_run 158 = .ok (.iastore, 1) := by decide +kernel
theorem dX4_run_159 : decode cX4_run 159 = .ok (.iload 4, 2) := by decide +kernel
theorem dX4_run_161 : decode cX4_run 161 = .ok (.bipush 13, 2) := by decide +kernel
theorem dX4_run_163 : decode cX4_run 163 = .ok (.if_icmp .ge 31, 3) := by decide +kernel
theorem dX4_run_166 : decode cX4_run 166 = .ok (.aload_n 0, 1) := by decide +kernel
theorem dX4_run_167 : decode cX4_run 167 = .ok (.iload_n 1, 1) := by decide +kernel
theorem dX4_run_168 : decode cX4_run 168 = .ok (.iload 4, 2) := by decide +kernel
theorem dX4_run_170 : decode cX4_run 170 = .ok (.bipush 8, 2) := by decide +kernel
theorem dX4_run_172 : decode cX4_run 172 = .ok (.iload_n 1, 1) := by decide +kernel
theorem dX4_run_173 : decode cX4_run 173 = .ok (.imul, 1) := by decide +kernel
theorem dX4_run_174 : decode cX4_run 174 = .ok (.iload 5, 2) := by decide +kernel
theorem dX4_run_176 : decode cX4_run 176 = .ok (.iadd, 1) := by decide +kernel
theorem dX4_run_177 : decode cX4_run 177 = .ok (.bipush 8, 2) := by decide +kernel
theorem dX4_run_179 : decode cX4_run 179 = .ok (.iload_n 1, 1) := by decide +kernel
theorem dX4_run_180 : decode cX4_run 180 = .ok (.imul, 1) := by decide +kernel
theorem dX4_run_181 : decode cX4_run 181 = .ok (.iload 6, 2) := by decide +kernel
theorem dX4_run_183 : decode cX4_run 183 = .ok (.iadd, 1) := by decide +kernel
theorem dX4_run_184 : decode cX4_run 184 = .ok (.iload_n 3, 1) := by decide +kernel
theorem dX4_run_185 : decode cX4_run 185 = .ok (.bipush 16, 2) := by decide +kernel
theorem dX4_run_187 : decode cX4_run 187 = .ok (.ishr, 1) := by decide +kernel
theorem dX4_run_188 : decode cX4_run 188 = .ok (.invokevirtual 133, 3) := by decide +kernel
theorem dX4_run_191 : decode cX4_run 191 = .ok (.goto 24, 3) := by decide +kernel
theorem dX4_run_194 : decode cX4_run 194 = .ok (.aload_n 0, 1) := by decide +kernel
theorem dX4_run_195 : decode cX4_run 195 = .ok (.iload_n 1, 1) := by decide +kernel
theorem dX4_run_196 : decode cX4_run 196 = .ok (.iload 4, 2) := by decide +kernel
theorem dX4_run_198 : decode cX4_run 198 = .ok (.bipush 8, 2) := by decide +kernel
theorem dX4_run_200 : decode cX4_run 200 = .ok (.iload_n 1, 1) := by decide +kernel
theorem dX4_run_201 : decode cX4_run 201 = .ok (.imul, 1) := by decide +kernel
theorem dX4_run_202 : decode cX4_run 202 = .ok (.iload 5, 2) := by decide +kernel
theorem dX4_run_204 : decode cX4_run 204 = .ok (.iadd, 1) := by decide +kernel
theorem dX4_run_205 : decode cX4_run 205 = .ok (.bipush 8, 2) := by decide +kernel
theorem dX4_run_207 : decode cX4_run 207 = .ok (.iload_n 1, 1) := by decide +kernel
theorem dX4_run_208 : decode cX4_run 208 = .ok (.imul, 1) := by decide +kernel
theorem dX4_run_209 : decode cX4_run 209 = .ok (.iload 6, 2) := by decide +kernel
theorem dX4_run_211 : decode cX4_run 211 = .ok (.iadd, 1) := by decide +kernel
theorem dX4_run_212 : decode cX4_run 212 = .ok (.invokevirtual 137, 3) := by decide +kernel
theorem dX4_run_215 : decode cX4_run 215 = .ok (.return_, 1) := by decide +kernel
theorem dX4_reckon_0 : decode cX4_reckon 0 = .ok (.aload_n 0, 1) := by decide +kernel
theorem dX4_reckon_1 : decode cX4_reckon 1 = .ok (.getfield 32, 3) := by decide +kernel
theorem dX4_reckon_4 : decode cX4_reckon 4 = .ok (.iload_n 3, 1) := by decide +kernel
theorem dX4_reckon_5 : decode cX4_reckon 5 = .ok (.iaload, 1) := by decide +kernel
theorem dX4_reckon_6 : decode cX4_reckon 6 = .ok (.istore 6, 2) := by decide +kernel
theorem dX4_reckon_8 : decode cX4_reckon 8 = .ok (.aload_n 0, 1) := by decide +kernel
theorem dX4_reckon_9 : decode cX4_reckon 9 = .ok (.getfield 32, 3) := by decide +kernel
theorem dX4_reckon_12 : decode cX4_reckon 12 = .ok (.iload 4, 2) := by decide +kernel
theorem dX4_reckon_14 : decode cX4_reckon 14 = .ok (.iaload, 1) := by decide +kernel
theorem dX4_reckon_15 : decode cX4_reckon 15 = .ok (.istore 7, 2) := by decide +kernel
theorem dX4_reckon_17 : decode cX4_reckon 17 = .ok (.iload_n 2, 1) := by decide +kernel
theorem dX4_reckon_18 : decode cX4_reckon 18 = .ok (.tableswitch 220 0 9 #[54, 64, 75, 86, 100, 114, 128, 154, 178, 199], 54) := by decide +kernel
theorem dX4_reckon_72 : decode cX4_reckon 72 = .ok (.aload_n 0, 1) := by decide +kernel
theorem dX4_reckon_73 : decode cX4_reckon 73 = .ok (.getfield 17, 3) := by decide +kernel
theorem dX4_reckon_76 : decode cX4_reckon 76 = .ok (.iload_n 1, 1) := by decide +kernel
theorem dX4_reckon_77 : decode cX4_reckon 77 = .ok (.iconst 5, 1) := by decide +kernel
theorem dX4_reckon_78 : decode cX4_reckon 78 = .ok (.iastore, 1) := by decide +kernel
theorem dX4_reckon_79 : decode cX4_reckon 79 = .ok (.goto 204, 3) := by decide +kernel
theorem dX4_reckon_82 : decode cX4_reckon 82 = .ok (.aload_n 0, 1) := by decide +kernel
theorem dX4_reckon_83 : decode cX4_reckon 83 = .ok (.getfield 32, 3) := by decide +kernel
theorem dX4_reckon_86 : decode cX4_reckon 86 = .ok (.iload_n 3, 1) := by decide +kernel
theorem dX4_reckon_87 : decode cX4_reckon 87 = .ok (.iload 5, 2) := by decide +kernel
theorem dX4_reckon_89 : decode cX4_reckon 89 = .ok (.iastore, 1) := by decide +kernel
theorem dX4_reckon_90 : decode cX4_reckon 90 = .ok (.goto 193, 3) := by decide +kernel
theorem dX4_reckon_93 : decode cX4_reckon 93 = .ok (.aload_n 0, 1) := by decide +kernel
theorem dX4_reckon_94 : decode cX4_reckon 94 = .ok (.getfield 32, 3) := by decide +kernel
theorem dX4_reckon_97 : decode cX4_reckon 97 = .ok (.iload_n 3, 1) := by decide +kernel
theorem dX4_reckon_98 : decode cX4_reckon 98 = .ok (.iload 7, 2) := by decide +kernel
theorem dX4_reckon_100 : decode cX4_reckon 100 = .ok (.iastore, 1) := by decide +kernel
theorem dX4_reckon_101 : decode cX4_reckon 101 = .ok (.goto 182, 3) := by decide +kernel
theorem dX4_reckon_104 : decode cX4_reckon 104 = .ok (.aload_n 0, 1) := by decide +kernel
theorem dX4_reckon_105 : decode cX4_reckon 105 = .ok (.getfield 32, 3) := by decide +kernel
theorem dX4_reckon_108 : decode cX4_reckon 108 = .ok (.iload_n 3, 1) := by decide +kernel
theorem dX4_reckon_109 : decode cX4_reckon 109 = .ok (.iload 6, 2) := by decide +kernel
theorem dX4_reckon_111 : decode cX4_reckon 111 = .ok (.iload 7, 2) := by decide +kernel
theorem dX4_reckon_113 : decode cX4_reckon 113 = .ok (.iadd, 1) := by decide +kernel
theorem dX4_reckon_114 : decode cX4_reckon 114 = .ok (.iastore, 1) := by decide +kernel
theorem dX4_reckon_115 : decode cX4_reckon 115 = .ok (.goto 168, 3) := by decide +kernel
theorem dX4_reckon_118 : decode cX4_reckon 118 = .ok (.aload_n 0, 1) := by decide +kernel
theorem dX4_reckon_119 : decode cX4_reckon 119 = .ok (.getfield 32, 3) := by decide +kernel
theorem dX4_reckon_122 : decode cX4_reckon 122 = .ok (.iload_n 3, 1) := by decide +kernel
theorem dX4_reckon_123 : decode cX4_reckon 123 = .ok (.iload 6, 2) := by decide +kernel
theorem dX4_reckon_125 : decode cX4_reckon 125 = .ok (.iload 7, 2) := by decide +kernel
theorem dX4_reckon_127 : decode cX4_reckon 127 = .ok (.isub, 1) := by decide +kernel
theorem dX4_reckon_128 : decode cX4_reckon 128 = .ok (.iastore, 1) := by decide +kernel
theorem dX4_reckon_129 : decode cX4_reckon 129 = .ok (.goto 154, 3) := by decide +kernel
theorem dX4_reckon_132 : decode cX4_reckon 132 = .ok (.aload_n 0, 1) := by decide +kernel
theorem dX4_reckon_133 : decode cX4_reckon 133 = .ok (.getfield 32, 3) := by decide +kernel
theorem dX4_reckon_136 : decode cX4_reckon 136 = .ok (.iload_n 3, 1) := by decide +kernel
theorem dX4_reckon_137 : decode cX4_reckon 137 = .ok (.iload 6, 2) := by decide +kernel
theorem dX4_reckon_139 : decode cX4_reckon 139 = .ok (.iload 7, 2) := by decide +kernel
theorem dX4_reckon_141 : decode cX4_reckon 141 = .ok (.imul, 1) := by decide +kernel
theorem dX4_reckon_142 : decode cX4_reckon 142 = .ok (.iastore, 1) := by decide +kernel
theorem dX4_reckon_143 : decode cX4_reckon 143 = .ok (.goto 140, 3) := by decide +kernel
theorem dX4_reckon_146 : decode cX4_reckon 146 = .ok (.aload_n 0, 1) := by decide +kernel
theorem dX4_reckon_147 : decode cX4_reckon 147 = .ok (.getfield 32, 3) := by decide +kernel
theorem dX4_reckon_150 : decode cX4_reckon 150 = .ok (.iload_n 3, 1) := by decide +kernel
theorem dX4_reckon_151 : decode cX4_reckon 151 = .ok (.iload 7, 2) := by decide +kernel
theorem dX4_reckon_153 : decode cX4_reckon 153 = .ok (.iconst (-1), 1) := by decide +kernel
theorem dX4_reckon_154 : decode cX4_reckon 154 = .ok (.if_icmp .ne 9, 3) := by decide +kernel
theorem dX4_reckon_157 : decode cX4_reckon 157 = .ok (.iload 6, 2) := by decide +kernel
theorem dX4_reckon_159 : decode cX4_reckon 159 = .ok (.ineg, 1) := by decide +kernel
theorem dX4_reckon_160 : decode cX4_reckon 160 = .ok (.goto 8, 3) := by decide +kernel
theorem dX4_reckon_163 : decode cX4_reckon 163 = .ok (.iload 6, 2) := by decide +kernel
theorem dX4_reckon_165 : decode cX4_reckon 165 = .ok (.iload 7, 2) := by decide +kernel
theorem dX4_reckon_167 : decode cX4_reckon 167 = .ok (.idiv, 1) := by decide +kernel
theorem dX4_reckon_168 : decode cX4_reckon 168 = .ok (.iastore, 1) := by decide +kernel
theorem dX4_reckon_169 : decode cX4_reckon 169 = .ok (.goto 114, 3) := by decide +kernel
theorem dX4_reckon_172 : decode cX4_reckon 172 = .ok (.aload_n 0, 1) := by decide +kernel
theorem dX4_reckon_173 : decode cX4_reckon 173 = .ok (.getfield 32, 3) := by decide +kernel
theorem dX4_reckon_176 : decode cX4_reckon 176 = .ok (.iload_n 3, 1) := by decide +kernel
theorem dX4_reckon_177 : decode cX4_reckon 177 = .ok (.iload 7, 2) := by decide +kernel
theorem dX4_reckon_179 : decode cX4_reckon 179 = .ok (.iconst (-1), 1) := by decide +kernel
theorem dX4_reckon_180 : decode cX4_reckon 180 = .ok (.if_icmp .ne 7, 3) := by decide +kernel
theorem dX4_reckon_183 : decode cX4_reckon 183 = .ok (.iconst 0, 1) := by decide +kernel
theorem dX4_reckon_184 : decode cX4_reckon 184 = .ok (.goto 8, 3) := by decide +kernel
theorem dX4_reckon_187 : decode cX4_reckon 187 = .ok (.iload 6, 2) := by decide +kernel
theorem dX4_reckon_189 : decode cX4_reckon 189 = .ok (.iload 7, 2) := by decide +kernel
theorem dX4_reckon_191 : decode cX4_reckon 191 = .ok (.irem, 1) := by decide +kernel
theorem dX4_reckon_192 : decode cX4_reckon 192 = .ok (.iastore, 1) := by decide +kernel
theorem dX4_reckon_193 : decode cX4_reckon 193 = .ok (.goto 90, 3) := by decide +kernel
theorem dX4_reckon_196 : decode cX4_reckon 196 = .ok (.aload_n 0, 1) := by decide +kernel
theorem dX4_reckon_197 : decode cX4_reckon 197 = .ok (.getfield 32, 3) := by decide +kernel
theorem dX4_reckon_200 : decode cX4_reckon 200 = .ok (.iload_n 3, 1) := by decide +kernel
theorem dX4_reckon_201 : decode cX4_reckon 201 = .ok (.iload 6, 2) := by decide +kernel
theorem dX4_reckon_203 : decode cX4_reckon 203 = .ok (.iload 7, 2) := by decide +kernel
theorem dX4_reckon_205 : decode cX4_reckon 205 = .ok (.if_icmp .ge 7, 3) := by decide +kernel
theorem dX4_reckon_208 : decode cX4_reckon 208 = .ok (.iconst 1, 1) := by decide +kernel
theorem dX4_reckon_209 : decode cX4_reckon 209 = .ok (.goto 4, 3) := by decide +kernel
theorem dX4_reckon_212 : decode cX4_reckon 212 = .ok (.iconst 0, 1) := by decide +kernel
theorem dX4_reckon_213 : decode cX4_reckon 213 = .ok (.iastore, 1) := by decide +kernel
theorem dX4_reckon_214 : decode cX4_reckon 214 = .ok (.goto 69, 3) := by decide +kernel
theorem dX4_reckon_217 : decode cX4_reckon 217 = .ok (.aload_n 0, 1) := by decide +kernel
theorem dX4_reckon_218 : decode cX4_reckon 218 = .ok (.getfield 32, 3) := by decide +kernel
theorem dX4_reckon_221 : decode cX4_reckon 221 = .ok (.iload_n 3, 1) := by decide +kernel
theorem dX4_reckon_222 : decode cX4_reckon 222 = .ok (.iload 6, 2) := by decide +kernel
theorem dX4_reckon_224 : decode cX4_reckon 224 = .ok (.iload 7, 2) := by decide +kernel
theorem dX4_reckon_226 : decode cX4_reckon 226 = .ok (.if_icmp .ne 7, 3) := by decide +kernel
theorem dX4_reckon_229 : decode cX4_reckon 229 = .ok (.iconst 1, 1) := by decide +kernel
theorem dX4_reckon_230 : decode cX4_reckon 230 = .ok (.goto 4, 3) := by decide +kernel
theorem dX4_reckon_233 : decode cX4_reckon 233 = .ok (.iconst 0, 1) := by decide +kernel
theorem dX4_reckon_234 : decode cX4_reckon 234 = .ok (.iastore, 1) := by decide +kernel
theorem dX4_reckon_235 : decode cX4_reckon 235 = .ok (.goto 48, 3) := by decide +kernel
theorem dX4_reckon_238 : decode cX4_reckon 238 = .ok (.aload_n 0, 1) := by decide +kernel
theorem dX4_reckon_239 : decode cX4_reckon 239 = .ok (.getfield 35, 3) := by decide +kernel
theorem dX4_reckon_242 : decode cX4_reckon 242 = .ok (.iload_n 1, 1) := by decide +kernel
theorem dX4_reckon_243 : decode cX4_reckon 243 = .ok (.iload_n 2, 1) := by decide +kernel
theorem dX4_reckon_244 : decode cX4_reckon 244 = .ok (.bipush 10, 2) := by decide +kernel
theorem dX4_reckon_246 : decode cX4_reckon 246 = .ok (.if_icmp .eq 25, 3) := by decide +kernel
theorem dX4_reckon_249 : decode cX4_reckon 249 = .ok (.iload_n 2, 1) := by decide +kernel
theorem dX4_reckon_250 : decode cX4_reckon 250 = .ok (.bipush 11, 2) := by decide +kernel
theorem dX4_reckon_252 : decode cX4_reckon 252 = .ok (.if_icmp .ne 8, 3) := by decide +kernel
theorem dX4_reckon_255 : decode cX4_reckon 255 = .ok (.iload 6, 2) := by decide +kernel
theorem dX4_reckon_257 : decode cX4_reckon 257 = .ok (.ifCond .eq 14, 3) := by decide +kernel
theorem dX4_reckon_260 : decode cX4_reckon 260 = .ok (.iload_n 2, 1) := by decide +kernel
theorem dX4_reckon_261 : decode cX4_reckon 261 = .ok (.bipush 12, 2) := by decide +kernel
theorem dX4_reckon_263 : decode cX4_reckon 263 = .ok (.if_icmp .ne 13, 3) := by decide +kernel
theorem dX4_reckon_266 : decode cX4_reckon 266 = .ok (.iload 6, 2) := by decide +kernel
theorem dX4_reckon_268 : decode cX4_reckon 268 = .ok (.ifCond .eq 8, 3) := by decide +kernel
theorem dX4_reckon_271 : decode cX4_reckon 271 = .ok (.iload 5, 2) := by decide +kernel
theorem dX4_reckon_273 : decode cX4_reckon 273 = .ok (.goto 9, 3) := by decide +kernel
theorem dX4_reckon_276 : decode cX4_reckon 276 = .ok (.aload_n 0, 1) := by decide +kernel
theorem dX4_reckon_277 : decode cX4_reckon 277 = .ok (.getfield 35, 3) := by decide +kernel
theorem dX4_reckon_280 : decode cX4_reckon 280 = .ok (.iload_n 1, 1) := by decide +kernel
theorem dX4_reckon_281 : decode cX4_reckon 281 = .ok (.iaload, 1) := by decide +kernel
theorem dX4_reckon_282 : decode cX4_reckon 282 = .ok (.iastore, 1) := by decide +kernel
theorem dX4_reckon_283 : decode cX4_reckon 283 = .ok (.return_, 1) := by decide +kernel
set_option maxRecDepth 20000 in
theorem ggX4_act_X4_square : GoodIn wsX4_act wsX4_square := goodIn_r _ [11] (by decide +kernel) (by decide +kernel)
set_option maxRecDepth 20000 in
theorem gX4_act_X4_square : GoodIn wsX4_act (va_wsS RX4 97 yX4_square wsX4_square) := goodIn_app (goodIn_of _ (by decide +kernel)) ggX4_act_X4_square
set_option maxRecDepth 20000 in
theorem ggX4_act_X4_go_k0 : GoodIn wsX4_act ((wsX4_go.drop 0).take 20) := goodIn_r _ [15, 2, 3, 16, 17, 10, 18, 19, 20, 21, 22, 23, 24, 25, 26, 27, 28, 29, 30, 31] (by decide +kernel) (by decide +kernel)
set_option maxRecDepth 20000 in
theorem ggX4_act_X4_go_k1 : GoodIn wsX4_act ((wsX4_go.drop 20).take 20) := goodIn_r _ [32, 33, 34, 35, 8, 9, 11, 36, 37, 38, 39, 40, 6, 84, 85, 86, 87, 88, 89, 90] (by decide +kernel) (by decide +kernel)
set_option maxRecDepth 20000 in
theorem ggX4_act_X4_go_k2 : GoodIn wsX4_act (wsX4_go.drop 40) := goodIn_r _ [91, 92, 93, 94, 95, 96, 97, 98, 99, 100, 101, 102, 103, 104, 105] (by decide +kernel) (by decide +kernel)
set_option maxRecDepth 20000 in
theorem ggX4_act_X4_go : GoodIn wsX4_act wsX4_go := (goodIn_spl (a := 0) (b := 20) ggX4_act_X4_go_k0 (goodIn_spl (a := 20) (b := 20) ggX4_act_X4_go_k1 ggX4_act_X4_go_k2))
set_option maxRecDepth 20000 in
theorem gX4_act_X4_go : GoodIn wsX4_act (wsV RX4 141 RX4 yX4_go wsX4_go) := goodIn_app (goodIn_of _ (by decide +kernel)) ggX4_act_X4_go
set_option maxRecDepth 20000 in
theorem ggX4_act_X4_besideX : GoodIn wsX4_act wsX4_besideX := goodIn_r _ [18] (by decide +kernel) (by decide +kernel)
set_option maxRecDepth 20000 in
theorem gX4_act_X4_besideX : GoodIn wsX4_act (va_wsS RX4 108 yX4_besideX wsX4_besideX) := goodIn_app (goodIn_of _ (by decide +kernel)) ggX4_act_X4_besideX
set_option maxRecDepth 20000 in
theorem ggX4_act_X4_besideY : GoodIn wsX4_act wsX4_besideY := goodIn_r _ [21] (by decide +kernel) (by decide +kernel)
set_option maxRecDepth 20000 in
theorem gX4_act_X4_besideY : GoodIn wsX4_act (va_wsS RX4 111 yX4_besideY wsX4_besideY) := goodIn_app (goodIn_of _ (by decide +kernel)) ggX4_act_X4_besideY
set_option maxRecDepth 20000 in
theorem ggX4_act_X4_at_k0 : GoodIn wsX4_act ((wsX4_at.drop 0).take 20) := goodIn_r _ [44, 26, 4, 27, 28, 29, 10, 30, 31, 32, 33, 34, 35, 8, 9, 11, 36, 37, 38, 39] (by decide +kernel) (by decide +kernel)
set_option maxRecDepth 20000 in
theorem ggX4_act_X4_at_k1 : GoodIn wsX4_act ((wsX4_at.drop 20).take 20) := goodIn_r _ [40, 6, 2, 3, 84, 85, 86, 87, 88, 89, 90, 91, 92, 93, 94, 95, 96, 97, 98, 99] (by decide +kernel) (by decide +kernel)
set_option maxRecDepth 20000 in
theorem ggX4_act_X4_at_k2 : GoodIn wsX4_act (wsX4_at.drop 40) := goodIn_r _ [100, 101, 102, 103, 104, 105] (by decide +kernel) (by decide +kernel)
set_option maxRecDepth 20000 in
theorem ggX4_act_X4_at : GoodIn wsX4_act wsX4_at := (goodIn_spl (a := 0) (b := 20) ggX4_act_X4_at_k0 (goodIn_spl (a := 20) (b := 20) ggX4_act_X4_at_k1 ggX4_act_X4_at_k2))
set_option maxRecDepth 20000 in
theorem gX4_act_X4_at : GoodIn wsX4_act (wsV RX4 144 RX4 yX4_at wsX4_at) := goodIn_app (goodIn_of _ (by decide +kernel)) ggX4_act_X4_at
set_option maxRecDepth 20000 in
theorem ggX4_act_X4_send : GoodIn wsX4_act wsX4_send := goodIn_r _ [48, 6, 49, 50, 51, 52, 53, 54, 10, 55, 40, 33, 34, 35, 84, 85, 86, 87, 88, 89, 90, 91, 92, 93, 94, 95, 96, 97, 98, 99, 100, 101, 102, 103, 104, 105] (by decide +kernel) (by decide +kernel)
set_option maxRecDepth 20000 in
theorem gX4_act_X4_send : GoodIn wsX4_act (wsV RX4 147 RX4 yX4_send wsX4_send) := goodIn_app (goodIn_of _ (by decide +kernel)) ggX4_act_X4_send
set_option maxRecDepth 20000 in
theorem ggX4_act_X4_receive : GoodIn wsX4_act wsX4_receive := goodIn_r _ [59, 49, 6, 60, 1, 51, 84, 85, 86, 87, 88, 89, 90, 91, 92, 93, 94, 95, 96, 97, 98, 99, 100, 101, 102, 103, 104, 105] (by decide +kernel) (by decide +kernel)
set_option maxRecDepth 20000 in
theorem gX4_act_X4_receive : GoodIn wsX4_act (wsV RX4 150 RX4 yX4_receive wsX4_receive) := goodIn_app (goodIn_of _ (by decide +kernel)) ggX4_act_X4_receive
set_option maxRecDepth 20000 in
theorem ggX4_act_X4_tell_k0 : GoodIn wsX4_act ((wsX4_tell.drop 0).take 20) := goodIn_r _ [64, 1, 2, 3, 65, 5, 66, 67, 68, 10, 69, 70, 71, 72, 73, 74, 75, 22, 23, 24] (by decide +kernel) (by decide +kernel)
set_option maxRecDepth 20000 in
theorem ggX4_act_X4_tell_k1 : GoodIn wsX4_act ((wsX4_tell.drop 20).take 20) := goodIn_r _ [25, 26, 27, 28, 29, 30, 31, 32, 33, 34, 35, 8, 9, 11, 76, 77, 78, 79, 80, 81] (by decide +kernel) (by decide +kernel)
set_option maxRecDepth 20000 in
theorem ggX4_act_X4_tell_k2 : GoodIn wsX4_act ((wsX4_tell.drop 40).take 20) := goodIn_r _ [82, 83, 16, 17, 18, 19, 20, 21, 84, 85, 86, 87, 88, 89, 90, 91, 92, 93, 94, 95] (by decide +kernel) (by decide +kernel)
set_option maxRecDepth 20000 in
theorem ggX4_act_X4_tell_k3 : GoodIn wsX4_act (wsX4_tell.drop 60) := goodIn_r _ [96, 97, 98, 99, 100, 101, 102, 103, 104, 105] (by decide +kernel) (by decide +kernel)
set_option maxRecDepth 20000 in
theorem ggX4_act_X4_tell : GoodIn wsX4_act wsX4_tell := (goodIn_spl (a := 0) (b := 20) ggX4_act_X4_tell_k0 (goodIn_spl (a := 20) (b := 20) ggX4_act_X4_tell_k1 (goodIn_spl (a := 40) (b := 20) ggX4_act_X4_tell_k2 ggX4_act_X4_tell_k3)))
set_option maxRecDepth 20000 in
theorem gX4_act_X4_tell : GoodIn wsX4_act (wsV RX4 153 RX4 yX4_tell wsX4_tell) := goodIn_app (goodIn_of _ (by decide +kernel)) ggX4_act_X4_tell
theorem dX4_act_0 : decode cX4_act 0 = .ok (.aload_n 0, 1) := by decide +kernel
theorem dX4_act_1 : decode cX4_act 1 = .ok (.getfield 32, 3) := by decide +kernel
theorem dX4_act_4 : decode cX4_act 4 = .ok (.iload_n 3, 1) := by decide +kernel
theorem dX4_act_5 : decode cX4_act 5 = .ok (.iaload, 1) := by decide +kernel
theorem dX4_act_6 : decode cX4_act 6 = .ok (.istore 5, 2) := by decide +kernel
theorem dX4_act_8 : decode cX4_act 8 = .ok (.aload_n 0, 1) := by decide +kernel
theorem dX4_act_9 : decode cX4_act 9 = .ok (.getfield 32, 3) := by decide +kernel
theorem dX4_act_12 : decode cX4_act 12 = .ok (.iload 4, 2) := by decide +kernel
theorem dX4_act_14 : decode cX4_act 14 = .ok (.iaload, 1) := by decide +kernel
theorem dX4_act_15 : decode cX4_act 15 = .ok (.istore 6, 2) := by decide +kernel
theorem dX4_act_17 : decode cX4_act 17 = .ok (.aload_n 0, 1) := by decide +kernel
theorem dX4_act_18 : decode cX4_act 18 = .ok (.getfield 20, 3) := by decide +kernel
theorem dX4_act_21 : decode cX4_act 21 = .ok (.iload_n 1, 1) := by decide +kernel
theorem dX4_act_22 : decode cX4_act 22 = .ok (.iaload, 1) := by decide +kernel
theorem dX4_act_23 : decode cX4_act 23 = .ok (.aload_n 0, 1) := by decide +kernel
theorem dX4_act_24 : decode cX4_act 24 = .ok (.getfield 23, 3) := by decide +kernel
theorem dX4_act_27 : decode cX4_act 27 = .ok (.iload_n 1, 1) := by decide +kernel
theorem dX4_act_28 : decode cX4_act 28 = .ok (.iaload, 1) := by decide +kernel
theorem dX4_act_29 : decode cX4_act 29 = .ok (.invokestatic 97, 3) := by decide +kernel
theorem dX4_act_32 : decode cX4_act 32 = .ok (.istore 7, 2) := by decide +kernel
theorem dX4_act_34 : decode cX4_act 34 = .ok (.iload_n 2, 1) := by decide +kernel
theorem dX4_act_35 : decode cX4_act 35 = .ok (.tableswitch 382 13 19 #[41, 60, 100, 206, 312, 337, 346], 41) := by decide +kernel
theorem dX4_act_76 : decode cX4_act 76 = .ok (.aload_n 0, 1) := by decide +kernel
theorem dX4_act_77 : decode cX4_act 77 = .ok (.getfield 32, 3) := by decide +kernel
theorem dX4_act_80 : decode cX4_act 80 = .ok (.iload 4, 2) := by decide +kernel
theorem dX4_act_82 : decode cX4_act 82 = .ok (.aload_n 0, 1) := by decide +kernel
theorem dX4_act_83 : decode cX4_act 83 = .ok (.iload_n 1, 1) := by decide +kernel
theorem dX4_act_84 : decode cX4_act 84 = .ok (.iload 5, 2) := by decide +kernel
theorem dX4_act_86 : decode cX4_act 86 = .ok (.iconst 3, 1) := by decide +kernel
theorem dX4_act_87 : decode cX4_act 87 = .ok (.iand, 1) := by decide +kernel
theorem dX4_act_88 : decode cX4_act 88 = .ok (.invokevirtual 141, 3) := by decide +kernel
theorem dX4_act_91 : decode cX4_act 91 = .ok (.iastore, 1) := by decide +kernel
theorem dX4_act_92 : decode cX4_act 92 = .ok (.goto 334, 3) := by decide +kernel
theorem dX4_act_95 : decode cX4_act 95 = .ok (.aload_n 0, 1) := by decide +kernel
theorem dX4_act_96 : decode cX4_act 96 = .ok (.getfield 32, 3) := by decide +kernel
theorem dX4_act_99 : decode cX4_act 99 = .ok (.iload 4, 2) := by decide +kernel
theorem dX4_act_101 : decode cX4_act 101 = .ok (.aload_n 0, 1) := by decide +kernel
theorem dX4_act_102 : decode cX4_act 102 = .ok (.aload_n 0, 1) := by decide +kernel
theorem dX4_act_103 : decode cX4_act 103 = .ok (.getfield 20, 3) := by decide +kernel
theorem dX4_act_106 : decode cX4_act 106 = .ok (.iload_n 1, 1) := by decide +kernel
theorem dX4_act_107 : decode cX4_act 107 = .ok (.iaload, 1) := by decide +kernel
theorem dX4_act_108 : decode cX4_act 108 = .ok (.iload 5, 2) := by decide +kernel
theorem dX4_act_110 : decode cX4_act 110 = .ok (.iconst 3, 1) := by decide +kernel
theorem dX4_act_111 : decode cX4_act 111 = .ok (.iand, 1) := by decide +kernel
theorem dX4_act_112 : decode cX4_act 112 = .ok (.invokestatic 108, 3) := by decide +kernel
theorem dX4_act_115 : decode cX4_act 115 = .ok (.aload_n 0, 1) := by decide +kernel
theorem dX4_act_116 : decode cX4_act 116 = .ok (.getfield 23, 3) := by decide +kernel
theorem dX4_act_119 : decode cX4_act 119 = .ok (.iload_n 1, 1) := by decide +kernel
theorem dX4_act_120 : decode cX4_act 120 = .ok (.iaload, 1) := by decide +kernel
theorem dX4_act_121 : decode cX4_act 121 = .ok (.iload 5, 2) := by decide +kernel
theorem dX4_act_123 : decode cX4_act 123 = .ok (.iconst 3, 1) := by decide +kernel
theorem dX4_act_124 : decode cX4_act 124 = .ok (.iand, 1) := by decide +kernel
theorem dX4_act_125 : decode cX4_act 125 = .ok (.invokestatic 111, 3) := by decide +kernel
theorem dX4_act_128 : decode cX4_act 128 = .ok (.invokevirtual 144, 3) := by decide +kernel
theorem dX4_act_131 : decode cX4_act 131 = .ok (.iastore, 1) := by decide +kernel
theorem dX4_act_132 : decode cX4_act 132 = .ok (.goto 294, 3) := by decide +kernel
theorem dX4_act_135 : decode cX4_act 135 = .ok (.aload_n 0, 1) := by decide +kernel
theorem dX4_act_136 : decode cX4_act 136 = .ok (.getfield 13, 3) := by decide +kernel
theorem dX4_act_139 : decode cX4_act 139 = .ok (.iload 7, 2) := by decide +kernel
theorem dX4_act_141 : decode cX4_act 141 = .ok (.iaload, 1) := by decide +kernel
theorem dX4_act_142 : decode cX4_act 142 = .ok (.ifCond .le 18, 3) := by decide +kernel
theorem dX4_act_145 : decode cX4_act 145 = .ok (.aload_n 0, 1) := by decide +kernel
theorem dX4_act_146 : decode cX4_act 146 = .ok (.getfield 38, 3) := by decide +kernel
theorem dX4_act_149 : decode cX4_act 149 = .ok (.iload_n 1, 1) := by decide +kernel
theorem dX4_act_150 : decode cX4_act 150 = .ok (.iaload, 1) := by decide +kernel
theorem dX4_act_151 : decode cX4_act 151 = .ok (.bipush 9, 2) := by decide +kernel
theorem dX4_act_153 : decode cX4_act 153 = .ok (.if_icmp .ge 7, 3) := by decide +kernel
theorem dX4_act_156 : decode cX4_act 156 = .ok (.iconst 1, 1) := by decide +kernel
theorem dX4_act_157 : decode cX4_act 157 = .ok (.goto 4, 3) := by decide +kernel
theorem dX4_act_160 : decode cX4_act 160 = .ok (.iconst 0, 1) := by decide +kernel
theorem dX4_act_161 : decode cX4_act 161 = .ok (.istore 8, 2) := by decide +kernel
theorem dX4_act_163 : decode cX4_act 163 = .ok (.aload_n 0, 1) := by decide +kernel
theorem dX4_act_164 : decode cX4_act 164 = .ok (.getfield 13, 3) := by decide +kernel
theorem dX4_act_167 : decode cX4_act 167 = .ok (.iload 7, 2) := by decide +kernel
theorem dX4_act_169 : decode cX4_act 169 = .ok (.iload 8, 2) := by decide +kernel
theorem dX4_act_171 : decode cX4_act 171 = .ok (.ifCond .eq 15, 3) := by decide +kernel
theorem dX4_act_174 : decode cX4_act 174 = .ok (.aload_n 0, 1) := by decide +kernel
theorem dX4_act_175 : decode cX4_act 175 = .ok (.getfield 13, 3) := by decide +kernel
theorem dX4_act_178 : decode cX4_act 178 = .ok (.iload 7, 2) := by decide +kernel
theorem dX4_act_180 : decode cX4_act 180 = .ok (.iaload, 1) := by decide +kernel
theorem dX4_act_181 : decode cX4_act 181 = .ok (.iconst 1, 1) := by decide +kernel
theorem dX4_act_182 : decode cX4_act 182 = .ok (.isub, 1) := by decide +kernel
theorem dX4_act_183 : decode cX4_act 183 = .ok (.goto 10, 3) := by decide +kernel
theorem dX4_act_186 : decode cX4_act 186 = .ok (.aload_n 0, 1) := by decide +kernel
theorem dX4_act_187 : decode cX4_act 187 = .ok (.getfield 13, 3) := by decide +kernel
theorem dX4_act_190 : decode cX4_act 190 = .ok (.iload 7, 2) := by decide +kernel
theorem dX4_act_192 : decode cX4_act 192 = .ok (.iaload, 1) := by decide +kernel
theorem dX4_act_193 : decode cX4_act 193 = .ok (.iastore, 1) := by decide +kernel
theorem dX4_act_194 : decode cX4_act 194 = .ok (.aload_n 0, 1) := by decide +kernel
theorem dX4_act_195 : decode cX4_act 195 = .ok (.getfield 38, 3) := by decide +kernel
theorem dX4_act_198 : decode cX4_act 198 = .ok (.iload_n 1, 1) := by decide +kernel
theorem dX4_act_199 : decode cX4_act 199 = .ok (.iload 8, 2) := by decide +kernel
theorem dX4_act_201 : decode cX4_act 201 = .ok (.ifCond .eq 14, 3) := by decide +kernel
theorem dX4_act_204 : decode cX4_act 204 = .ok (.aload_n 0, 1) := by decide +kernel
theorem dX4_act_205 : decode cX4_act 205 = .ok (.getfield 38, 3) := by decide +kernel
theorem dX4_act_208 : decode cX4_act 208 = .ok (.iload_n 1, 1) := by decide +kernel
theorem dX4_act_209 : decode cX4_act 209 = .ok (.iaload, 1) := by decide +kernel
theorem dX4_act_210 : decode cX4_act 210 = .ok (.iconst 1, 1) := by decide +kernel
theorem dX4_act_211 : decode cX4_act 211 = .ok (.iadd, 1) := by decide +kernel
theorem dX4_act_212 : decode cX4_act 212 = .ok (.goto 9, 3) := by decide +kernel
theorem dX4_act_215 : decode cX4_act 215 = .ok (.aload_n 0, 1) := by decide +kernel
theorem dX4_act_216 : decode cX4_act 216 = .ok (.getfield 38, 3) := by decide +kernel
theorem dX4_act_219 : decode cX4_act 219 = .ok (.iload_n 1, 1) := by decide +kernel
theorem dX4_act_220 : decode cX4_act 220 = .ok (.iaload, 1) := by decide +kernel
theorem dX4_act_221 : decode cX4_act 221 = .ok (.iastore, 1) := by decide +kernel
theorem dX4_act_222 : decode cX4_act 222 = .ok (.aload_n 0, 1) := by decide +kernel
theorem dX4_act_223 : decode cX4_act 223 = .ok (.getfield 32, 3) := by decide +kernel
theorem dX4_act_226 : decode cX4_act 226 = .ok (.iload_n 3, 1) := by decide +kernel
theorem dX4_act_227 : decode cX4_act 227 = .ok (.iload 8, 2) := by decide +kernel
theorem dX4_act_229 : decode cX4_act 229 = .ok (.ifCond .eq 7, 3) := by decide +kernel
theorem dX4_act_232 : decode cX4_act 232 = .ok (.iconst 1, 1) := by decide +kernel
theorem dX4_act_233 : decode cX4_act 233 = .ok (.goto 4, 3) := by decide +kernel
theorem dX4_act_236 : decode cX4_act 236 = .ok (.iconst 0, 1) := by decide +kernel
theorem dX4_act_237 : decode cX4_act 237 = .ok (.iastore, 1) := by decide +kernel
theorem dX4_act_238 : decode cX4_act 238 = .ok (.goto 188, 3) := by decide +kernel
theorem dX4_act_241 : decode cX4_act 241 = .ok (.aload_n 0, 1) := by decide +kernel
theorem dX4_act_242 : decode cX4_act 242 = .ok (.getfield 38, 3) := by decide +kernel
theorem dX4_act_245 : decode cX4_act 245 = .ok (.iload_n 1, 1) := by decide +kernel
theorem dX4_act_246 : decode cX4_act 246 = .ok (.iaload, 1) := by decide +kernel
theorem dX4_act_247 : decode cX4_act 247 = .ok (.ifCond .le 19, 3) := by decide +kernel
theorem dX4_act_250 : decode cX4_act 250 = .ok (.aload_n 0, 1) := by decide +kernel
theorem dX4_act_251 : decode cX4_act 251 = .ok (.getfield 13, 3) := by decide +kernel
theorem dX4_act_254 : decode cX4_act 254 = .ok (.iload 7, 2) := by decide +kernel
theorem dX4_act_256 : decode cX4_act 256 = .ok (.iaload, 1) := by decide +kernel
theorem dX4_act_257 : decode cX4_act 257 = .ok (.bipush 99, 2) := by decide +kernel
theorem dX4_act_259 : decode cX4_act 259 = .ok (.if_icmp .ge 7, 3) := by decide +kernel
theorem dX4_act_262 : decode cX4_act 262 = .ok (.iconst 1, 1) := by decide +kernel
theorem dX4_act_263 : decode cX4_act 263 = .ok (.goto 4, 3) := by decide +kernel
theorem dX4_act_266 : decode cX4_act 266 = .ok (.iconst 0, 1) := by decide +kernel
theorem dX4_act_267 : decode cX4_act 267 = .ok (.istore 8, 2) := by decide +kernel
theorem dX4_act_269 : decode cX4_act 269 = .ok (.aload_n 0, 1) := by decide +kernel
theorem dX4_act_270 : decode cX4_act 270 = .ok (.getfield 13, 3) := by decide +kernel
theorem dX4_act_273 : decode cX4_act 273 = .ok (.iload 7, 2) := by decide +kernel
theorem dX4_act_275 : decode cX4_act 275 = .ok (.iload 8, 2) := by decide +kernel
theorem dX4_act_277 : decode cX4_act 277 = .ok (.ifCond .eq 15, 3) := by decide +kernel
theorem dX4_act_280 : decode cX4_act 280 = .ok (.aload_n 0, 1) := by decide +kernel
theorem dX4_act_281 : decode cX4_act 281 = .ok (.getfield 13, 3) := by decide +kernel
theorem dX4_act_284 : decode cX4_act 284 = .ok (.iload 7, 2) := by decide +kernel
theorem dX4_act_286 : decode cX4_act 286 = .ok (.iaload, 1) := by decide +kernel
theorem dX4_act_287 : decode cX4_act 287 = .ok (.iconst 1, 1) := by decide +kernel
theorem dX4_act_288 : decode cX4_act 288 = .ok (.iadd, 1) := by decide +kernel
theorem dX4_act_289 : decode cX4_act 289 = .ok (.goto 10, 3) := by decide +kernel
theorem dX4_act_292 : decode cX4_act 292 = .ok (.aload_n 0, 1) := by decide +kernel
theorem dX4_act_293 : decode cX4_act 293 = .ok (.getfield 13, 3) := by decide +kernel
theorem dX4_act_296 : decode cX4_act 296 = .ok (.iload 7, 2) := by decide +kernel
theorem dX4_act_298 : decode cX4_act 298 = .ok (.iaload, 1) := by decide +kernel
theorem dX4_act_299 : decode cX4_act 299 = .ok (.iastore, 1) := by decide +kernel
theorem dX4_act_300 : decode cX4_act 300 = .ok (.aload_n 0, 1) := by decide +kernel
theorem dX4_act_301 : decode cX4_act 301 = .ok (.getfield 38, 3) := by decide +kernel
theorem dX4_act_304 : decode cX4_act 304 = .ok (.iload_n 1, 1) := by decide +kernel
theorem dX4_act_305 : decode cX4_act 305 = .ok (.iload 8, 2) := by decide +kernel
theorem dX4_act_307 : decode cX4_act 307 = .ok (.ifCond .eq 14, 3) := by decide +kernel
theorem dX4_act_310 : decode cX4_act 310 = .ok (.aload_n 0, 1) := by decide +kernel
theorem dX4_act_311 : decode cX4_act 311 = .ok (.getfield 38, 3) := by decide +kernel
theorem dX4_act_314 : decode cX4_act 314 = .ok (.iload_n 1, 1) := by decide +kernel
theorem dX4_act_315 : decode cX4_act 315 = .ok (.iaload, 1) := by decide +kernel
theorem dX4_act_316 : decode cX4_act 316 = .ok (.iconst 1, 1) := by decide +kernel
theorem dX4_act_317 : decode cX4_act 317 = .ok (.isub, 1) := by decide +kernel
theorem dX4_act_318 : decode cX4_act 318 = .ok (.goto 9, 3) := by decide +kernel
theorem dX4_act_321 : decode cX4_act 321 = .ok (.aload_n 0, 1) := by decide +kernel
theorem dX4_act_322 : decode cX4_act 322 = .ok (.getfield 38, 3) := by decide +kernel
theorem dX4_act_325 : decode cX4_act 325 = .ok (.iload_n 1, 1) := by decide +kernel
theorem dX4_act_326 : decode cX4_act 326 = .ok (.iaload, 1) := by decide +kernel
theorem dX4_act_327 : decode cX4_act 327 = .ok (.iastore, 1) := by decide +kernel
theorem dX4_act_328 : decode cX4_act 328 = .ok (.aload_n 0, 1) := by decide +kernel
theorem dX4_act_329 : decode cX4_act 329 = .ok (.getfield 32, 3) := by decide +kernel
theorem dX4_act_332 : decode cX4_act 332 = .ok (.iload_n 3, 1) := by decide +kernel
theorem dX4_act_333 : decode cX4_act 333 = .ok (.iload 8, 2) := by decide +kernel
theorem dX4_act_335 : decode cX4_act 335 = .ok (.ifCond .eq 7, 3) := by decide +kernel
theorem dX4_act_338 : decode cX4_act 338 = .ok (.iconst 1, 1) := by decide +kernel
theorem dX4_act_339 : decode cX4_act 339 = .ok (.goto 4, 3) := by decide +kernel
theorem dX4_act_342 : decode cX4_act 342 = .ok (.iconst 0, 1) := by decide +kernel
theorem dX4_act_343 : decode cX4_act 343 = .ok (.iastore, 1) := by decide +kernel
theorem dX4_act_344 : decode cX4_act 344 = .ok (.goto 82, 3) := by decide +kernel
theorem dX4_act_347 : decode cX4_act 347 = .ok (.aload_n 0, 1) := by decide +kernel
theorem dX4_act_348 : decode cX4_act 348 = .ok (.getfield 32, 3) := by decide +kernel
theorem dX4_act_351 : decode cX4_act 351 = .ok (.iload_n 3, 1) := by decide +kernel
theorem dX4_act_352 : decode cX4_act 352 = .ok (.aload_n 0, 1) := by decide +kernel
theorem dX4_act_353 : decode cX4_act 353 = .ok (.iload 5, 2) := by decide +kernel
theorem dX4_act_355 : decode cX4_act 355 = .ok (.iload 6, 2) := by decide +kernel
theorem dX4_act_357 : decode cX4_act 357 = .ok (.invokevirtual 147, 3) := by decide +kernel
theorem dX4_act_360 : decode cX4_act 360 = .ok (.ifCond .eq 7, 3) := by decide +kernel
theorem dX4_act_363 : decode cX4_act 363 = .ok (.iconst 1, 1) := by decide +kernel
theorem dX4_act_364 : decode cX4_act 364 = .ok (.goto 4, 3) := by decide +kernel
theorem dX4_act_367 : decode cX4_act 367 = .ok (.iconst 0, 1) := by decide +kernel
theorem dX4_act_368 : decode cX4_act 368 = .ok (.iastore, 1) := by decide +kernel
theorem dX4_act_369 : decode cX4_act 369 = .ok (.goto 57, 3) := by decide +kernel
theorem dX4_act_372 : decode cX4_act 372 = .ok (.aload_n 0, 1) := by decide +kernel
theorem dX4_act_373 : decode cX4_act 373 = .ok (.iload_n 1, 1) := by decide +kernel
theorem dX4_act_374 : decode cX4_act 374 = .ok (.iload_n 3, 1) := by decide +kernel
theorem dX4_act_375 : decode cX4_act 375 = .ok (.invokevirtual 150, 3) := by decide +kernel
theorem dX4_act_378 : decode cX4_act 378 = .ok (.goto 48, 3) := by decide +kernel
theorem dX4_act_381 : decode cX4_act 381 = .ok (.aload_n 0, 1) := by decide +kernel
theorem dX4_act_382 : decode cX4_act 382 = .ok (.getfield 17, 3) := by decide +kernel
theorem dX4_act_385 : decode cX4_act 385 = .ok (.iload_n 1, 1) := by decide +kernel
theorem dX4_act_386 : decode cX4_act 386 = .ok (.iload 5, 2) := by decide +kernel
theorem dX4_act_388 : decode cX4_act 388 = .ok (.ifCond .le 7, 3) := by decide +kernel
theorem dX4_act_391 : decode cX4_act 391 = .ok (.iconst 3, 1) := by decide +kernel
theorem dX4_act_392 : decode cX4_act 392 = .ok (.goto 4, 3) := by decide +kernel
theorem dX4_act_395 : decode cX4_act 395 = .ok (.iconst 2, 1) := by decide +kernel
theorem dX4_act_396 : decode cX4_act 396 = .ok (.iastore, 1) := by decide +kernel
theorem dX4_act_397 : decode cX4_act 397 = .ok (.aload_n 0, 1) := by decide +kernel
theorem dX4_act_398 : decode cX4_act 398 = .ok (.getfield 47, 3) := by decide +kernel
theorem dX4_act_401 : decode cX4_act 401 = .ok (.iload_n 1, 1) := by decide +kernel
theorem dX4_act_402 : decode cX4_act 402 = .ok (.iload 5, 2) := by decide +kernel
theorem dX4_act_404 : decode cX4_act 404 = .ok (.ifCond .le 8, 3) := by decide +kernel
theorem dX4_act_407 : decode cX4_act 407 = .ok (.iload 5, 2) := by decide +kernel
theorem dX4_act_409 : decode cX4_act 409 = .ok (.goto 4, 3) := by decide +kernel
theorem dX4_act_412 : decode cX4_act 412 = .ok (.iconst 0, 1) := by decide +kernel
theorem dX4_act_413 : decode cX4_act 413 = .ok (.iastore, 1) := by decide +kernel
theorem dX4_act_414 : decode cX4_act 414 = .ok (.goto 12, 3) := by decide +kernel
theorem dX4_act_417 : decode cX4_act 417 = .ok (.aload_n 0, 1) := by decide +kernel
theorem dX4_act_418 : decode cX4_act 418 = .ok (.iload_n 1, 1) := by decide +kernel
theorem dX4_act_419 : decode cX4_act 419 = .ok (.iload_n 2, 1) := by decide +kernel
theorem dX4_act_420 : decode cX4_act 420 = .ok (.iload_n 3, 1) := by decide +kernel
theorem dX4_act_421 : decode cX4_act 421 = .ok (.iload 4, 2) := by decide +kernel
theorem dX4_act_423 : decode cX4_act 423 = .ok (.invokevirtual 153, 3) := by decide +kernel
theorem dX4_act_426 : decode cX4_act 426 = .ok (.return_, 1) := by decide +kernel
set_option maxRecDepth 20000 in
theorem ggX4_tell_X4_way_k0 : GoodIn wsX4_tell ((wsX4_way.drop 0).take 20) := goodIn_r _ [10, 2, 3, 11, 12, 13, 14, 9, 15, 16, 17, 18, 19, 20, 21, 22, 23, 24, 25, 26] (by decide +kernel) (by decide +kernel)
set_option maxRecDepth 20000 in
theorem ggX4_tell_X4_way_k1 : GoodIn wsX4_tell ((wsX4_way.drop 20).take 20) := goodIn_r _ [27, 28, 29, 30, 31, 32, 33, 34, 35, 36, 37, 38, 39, 40, 41, 42, 43, 44, 45, 46] (by decide +kernel) (by decide +kernel)
set_option maxRecDepth 20000 in
theorem ggX4_tell_X4_way_k2 : GoodIn wsX4_tell ((wsX4_way.drop 40).take 20) := goodIn_r _ [47, 48, 49, 50, 51, 52, 53, 54, 55, 56, 57, 58, 59, 60, 61, 62, 63, 64, 65, 66] (by decide +kernel) (by decide +kernel)
set_option maxRecDepth 20000 in
theorem ggX4_tell_X4_way_k3 : GoodIn wsX4_tell (wsX4_way.drop 60) := goodIn_r _ [67, 68, 69] (by decide +kernel) (by decide +kernel)
set_option maxRecDepth 20000 in
theorem ggX4_tell_X4_way : GoodIn wsX4_tell wsX4_way := (goodIn_spl (a := 0) (b := 20) ggX4_tell_X4_way_k0 (goodIn_spl (a := 20) (b := 20) ggX4_tell_X4_way_k1 (goodIn_spl (a := 40) (b := 20) ggX4_tell_X4_way_k2 ggX4_tell_X4_way_k3)))
set_option maxRecDepth 20000 in
theorem gX4_tell_X4_way : GoodIn wsX4_tell (wsV RX4 156 RX4 yX4_way wsX4_way) := goodIn_app (goodIn_of _ (by decide +kernel)) ggX4_tell_X4_way
theorem dX4_tell_0 : decode cX4_tell 0 = .ok (.iload_n 2, 1) := by decide +kernel
theorem dX4_tell_1 : decode cX4_tell 1 = .ok (.tableswitch 109 20 23 #[31, 58, 86, 96], 31) := by decide +kernel
theorem dX4_tell_32 : decode cX4_tell 32 = .ok (.aload_n 0, 1) := by decide +kernel
theorem dX4_tell_33 : decode cX4_tell 33 = .ok (.getfield 32, 3) := by decide +kernel
theorem dX4_tell_36 : decode cX4_tell 36 = .ok (.iload_n 3, 1) := by decide +kernel
theorem dX4_tell_37 : decode cX4_tell 37 = .ok (.aload_n 0, 1) := by decide +kernel
theorem dX4_tell_38 : decode cX4_tell 38 = .ok (.iload_n 1, 1) := by decide +kernel
theorem dX4_tell_39 : decode cX4_tell 39 = .ok (.aload_n 0, 1) := by decide +kernel
theorem dX4_tell_40 : decode cX4_tell 40 = .ok (.getfield 32, 3) := by decide +kernel
theorem dX4_tell_43 : decode cX4_tell 43 = .ok (.iload_n 3, 1) := by decide +kernel
theorem dX4_tell_44 : decode cX4_tell 44 = .ok (.iaload, 1) := by decide +kernel
theorem dX4_tell_45 : decode cX4_tell 45 = .ok (.aload_n 0, 1) := by decide +kernel
theorem dX4_tell_46 : decode cX4_tell 46 = .ok (.getfield 32, 3) := by decide +kernel
theorem dX4_tell_49 : decode cX4_tell 49 = .ok (.iload 4, 2) := by decide +kernel
theorem dX4_tell_51 : decode cX4_tell 51 = .ok (.iaload, 1) := by decide +kernel
theorem dX4_tell_52 : decode cX4_tell 52 = .ok (.invokevirtual 156, 3) := by decide +kernel
theorem dX4_tell_55 : decode cX4_tell 55 = .ok (.iastore, 1) := by decide +kernel
theorem dX4_tell_56 : decode cX4_tell 56 = .ok (.goto 66, 3) := by decide +kernel
theorem dX4_tell_59 : decode cX4_tell 59 = .ok (.aload_n 0, 1) := by decide +kernel
theorem dX4_tell_60 : decode cX4_tell 60 = .ok (.getfield 32, 3) := by decide +kernel
theorem dX4_tell_63 : decode cX4_tell 63 = .ok (.iload_n 3, 1) := by decide +kernel
theorem dX4_tell_64 : decode cX4_tell 64 = .ok (.aload_n 0, 1) := by decide +kernel
theorem dX4_tell_65 : decode cX4_tell 65 = .ok (.getfield 20, 3) := by decide +kernel
theorem dX4_tell_68 : decode cX4_tell 68 = .ok (.iload_n 1, 1) := by decide +kernel
theorem dX4_tell_69 : decode cX4_tell 69 = .ok (.iaload, 1) := by decide +kernel
theorem dX4_tell_70 : decode cX4_tell 70 = .ok (.iastore, 1) := by decide +kernel
theorem dX4_tell_71 : decode cX4_tell 71 = .ok (.aload_n 0, 1) := by decide +kernel
theorem dX4_tell_72 : decode cX4_tell 72 = .ok (.getfield 32, 3) := by decide +kernel
theorem dX4_tell_75 : decode cX4_tell 75 = .ok (.iload 4, 2) := by decide +kernel
theorem dX4_tell_77 : decode cX4_tell 77 = .ok (.aload_n 0, 1) := by decide +kernel
theorem dX4_tell_78 : decode cX4_tell 78 = .ok (.getfield 23, 3) := by decide +kernel
theorem dX4_tell_81 : decode cX4_tell 81 = .ok (.iload_n 1, 1) := by decide +kernel
theorem dX4_tell_82 : decode cX4_tell 82 = .ok (.iaload, 1) := by decide +kernel
theorem dX4_tell_83 : decode cX4_tell 83 = .ok (.iastore, 1) := by decide +kernel
theorem dX4_tell_84 : decode cX4_tell 84 = .ok (.goto 38, 3) := by decide +kernel
theorem dX4_tell_87 : decode cX4_tell 87 = .ok (.aload_n 0, 1) := by decide +kernel
theorem dX4_tell_88 : decode cX4_tell 88 = .ok (.getfield 32, 3) := by decide +kernel
theorem dX4_tell_91 : decode cX4_tell 91 = .ok (.iload_n 3, 1) := by decide +kernel
theorem dX4_tell_92 : decode cX4_tell 92 = .ok (.iload_n 1, 1) := by decide +kernel
theorem dX4_tell_93 : decode cX4_tell 93 = .ok (.iastore, 1) := by decide +kernel
theorem dX4_tell_94 : decode cX4_tell 94 = .ok (.goto 28, 3) := by decide +kernel
theorem dX4_tell_97 : decode cX4_tell 97 = .ok (.aload_n 0, 1) := by decide +kernel
theorem dX4_tell_98 : decode cX4_tell 98 = .ok (.getfield 32, 3) := by decide +kernel
theorem dX4_tell_101 : decode cX4_tell 101 = .ok (.iload_n 3, 1) := by decide +kernel
theorem dX4_tell_102 : decode cX4_tell 102 = .ok (.aload_n 0, 1) := by decide +kernel
theorem dX4_tell_103 : decode cX4_tell 103 = .ok (.getfield 82, 3) := by decide +kernel
theorem dX4_tell_106 : decode cX4_tell 106 = .ok (.iastore, 1) := by decide +kernel
theorem dX4_tell_107 : decode cX4_tell 107 = .ok (.goto 15, 3) := by decide +kernel
theorem dX4_tell_110 : decode cX4_tell 110 = .ok (.aload_n 0, 1) := by decide +kernel
theorem dX4_tell_111 : decode cX4_tell 111 = .ok (.getfield 32, 3) := by decide +kernel
theorem dX4_tell_114 : decode cX4_tell 114 = .ok (.iload_n 3, 1) := by decide +kernel
theorem dX4_tell_115 : decode cX4_tell 115 = .ok (.aload_n 0, 1) := by decide +kernel
theorem dX4_tell_116 : decode cX4_tell 116 = .ok (.getfield 38, 3) := by decide +kernel
theorem dX4_tell_119 : decode cX4_tell 119 = .ok (.iload_n 1, 1) := by decide +kernel
theorem dX4_tell_120 : decode cX4_tell 120 = .ok (.iaload, 1) := by decide +kernel
theorem dX4_tell_121 : decode cX4_tell 121 = .ok (.iastore, 1) := by decide +kernel
theorem dX4_tell_122 : decode cX4_tell 122 = .ok (.return_, 1) := by decide +kernel
set_option maxRecDepth 20000 in
theorem ggX4_go_X4_besideX : GoodIn wsX4_go wsX4_besideX := goodIn_r _ [6] (by decide +kernel) (by decide +kernel)
set_option maxRecDepth 20000 in
theorem gX4_go_X4_besideX : GoodIn wsX4_go (va_wsS RX4 108 yX4_besideX wsX4_besideX) := goodIn_app (goodIn_of _ (by decide +kernel)) ggX4_go_X4_besideX
set_option maxRecDepth 20000 in
theorem ggX4_go_X4_besideY : GoodIn wsX4_go wsX4_besideY := goodIn_r _ [9] (by decide +kernel) (by decide +kernel)
set_option maxRecDepth 20000 in
theorem gX4_go_X4_besideY : GoodIn wsX4_go (va_wsS RX4 111 yX4_besideY wsX4_besideY) := goodIn_app (goodIn_of _ (by decide +kernel)) ggX4_go_X4_besideY
set_option maxRecDepth 20000 in
theorem ggX4_go_X4_isFree : GoodIn wsX4_go wsX4_isFree := goodIn_r _ [13, 14, 15, 16, 17, 5, 18, 19, 20, 21, 22, 23, 24, 25, 26, 33, 34, 35, 36, 37, 38, 39, 40, 41, 42, 43, 44, 45, 46, 47, 48, 49, 50, 51, 52, 53, 54] (by decide +kernel) (by decide +kernel)
set_option maxRecDepth 20000 in
theorem gX4_go_X4_isFree : GoodIn wsX4_go (wsV RX4 114 RX4 yX4_isFree wsX4_isFree) := goodIn_app (goodIn_of _ (by decide +kernel)) ggX4_go_X4_isFree
set_option maxRecDepth 20000 in
theorem ggX4_go_X4_robotAt : GoodIn wsX4_go wsX4_robotAt := goodIn_r _ [30, 31, 32, 1, 2, 33, 34, 35, 36, 37, 38, 39, 40, 41, 42, 43, 44, 45, 46, 47, 48, 49, 50, 51, 52, 53, 54] (by decide +kernel) (by decide +kernel)
set_option maxRecDepth 20000 in
theorem gX4_go_X4_robotAt : GoodIn wsX4_go (wsV RX4 93 RX4 yX4_robotAt wsX4_robotAt) := goodIn_app (goodIn_of _ (by decide +kernel)) ggX4_go_X4_robotAt
theorem dX4_go_0 : decode cX4_go 0 = .ok (.aload_n 0, 1) := by decide +kernel
theorem dX4_go_1 : decode cX4_go 1 = .ok (.getfield 20, 3) := by decide +kernel
theorem dX4_go_4 : decode cX4_go 4 = .ok (.iload_n 1, 1) := by decide +kernel
theorem dX4_go_5 : decode cX4_go 5 = .ok (.iaload, 1) := by decide +kernel
theorem dX4_go_6 : decode cX4_go 6 = .ok (.iload_n 2, 1) := by decide +kernel
theorem dX4_go_7 : decode cX4_go 7 = .ok (.invokestatic 108, 3) := by decide +kernel
theorem dX4_go_10 : decode cX4_go 10 = .ok (.istore_n 3, 1) := by decide +kernel
theorem dX4_go_11 : decode cX4_go 11 = .ok (.aload_n 0, 1) := by decide +kernel
theorem dX4_go_12 : decode cX4_go 12 = .ok (.getfield 23, 3) := by decide +kernel
theorem dX4_go_15 : decode cX4_go 15 = .ok (.iload_n 1, 1) := by decide +kernel
theorem dX4_go_16 : decode cX4_go 16 = .ok (.iaload, 1) := by decide +kernel
theorem dX4_go_17 : decode cX4_go 17 = .ok (.iload_n 2, 1) := by decide +kernel
theorem dX4_go_18 : decode cX4_go 18 = .ok (.invokestatic 111, 3) := by decide +kernel
theorem dX4_go_21 : decode cX4_go 21 = .ok (.istore 4, 2) := by decide +kernel
theorem dX4_go_23 : decode cX4_go 23 = .ok (.aload_n 0, 1) := by decide +kernel
theorem dX4_go_24 : decode cX4_go 24 = .ok (.iload_n 3, 1) := by decide +kernel
theorem dX4_go_25 : decode cX4_go 25 = .ok (.iload 4, 2) := by decide +kernel
theorem dX4_go_27 : decode cX4_go 27 = .ok (.invokevirtual 114, 3) := by decide +kernel
theorem dX4_go_30 : decode cX4_go 30 = .ok (.ifCond .ne 5, 3) := by decide +kernel
theorem dX4_go_33 : decode cX4_go 33 = .ok (.iconst 0, 1) := by decide +kernel
theorem dX4_go_34 : decode cX4_go 34 = .ok (.ireturn, 1) := by decide +kernel
theorem dX4_go_35 : decode cX4_go 35 = .ok (.aload_n 0, 1) := by decide +kernel
theorem dX4_go_36 : decode cX4_go 36 = .ok (.iload_n 3, 1) := by decide +kernel
theorem dX4_go_37 : decode cX4_go 37 = .ok (.iload 4, 2) := by decide +kernel
theorem dX4_go_39 : decode cX4_go 39 = .ok (.invokevirtual 93, 3) := by decide +kernel
theorem dX4_go_42 : decode cX4_go 42 = .ok (.ifCond .lt 5, 3) := by decide +kernel
theorem dX4_go_45 : decode cX4_go 45 = .ok (.iconst 2, 1) := by decide +kernel
theorem dX4_go_46 : decode cX4_go 46 = .ok (.ireturn, 1) := by decide +kernel
theorem dX4_go_47 : decode cX4_go 47 = .ok (.aload_n 0, 1) := by decide +kernel
theorem dX4_go_48 : decode cX4_go 48 = .ok (.getfield 20, 3) := by decide +kernel
theorem dX4_go_51 : decode cX4_go 51 = .ok (.iload_n 1, 1) := by decide +kernel
theorem dX4_go_52 : decode cX4_go 52 = .ok (.iload_n 3, 1) := by decide +kernel
theorem dX4_go_53 : decode cX4_go 53 = .ok (.iastore, 1) := by decide +kernel
theorem dX4_go_54 : decode cX4_go 54 = .ok (.aload_n 0, 1) := by decide +kernel
theorem dX4_go_55 : decode cX4_go 55 = .ok (.getfield 23, 3) := by decide +kernel
theorem dX4_go_58 : decode cX4_go 58 = .ok (.iload_n 1, 1) := by decide +kernel
theorem dX4_go_59 : decode cX4_go 59 = .ok (.iload 4, 2) := by decide +kernel
theorem dX4_go_61 : decode cX4_go 61 = .ok (.iastore, 1) := by decide +kernel
theorem dX4_go_62 : decode cX4_go 62 = .ok (.iconst 1, 1) := by decide +kernel
theorem dX4_go_63 : decode cX4_go 63 = .ok (.ireturn, 1) := by decide +kernel
set_option maxRecDepth 20000 in
theorem ggX4_send_X4_isRobot : GoodIn wsX4_send wsX4_isRobot := goodIn_r _ [9, 10, 1, 11, 12, 8, 13, 14, 15, 16, 17, 18, 19, 20, 21, 22, 23, 24, 25, 26, 27, 28, 29, 30, 31, 32, 33, 34, 35] (by decide +kernel) (by decide +kernel)
set_option maxRecDepth 20000 in
theorem gX4_send_X4_isRobot : GoodIn wsX4_send (wsV RX4 100 RX4 yX4_isRobot wsX4_isRobot) := goodIn_app (goodIn_of _ (by decide +kernel)) ggX4_send_X4_isRobot
set_option maxRecDepth 20000 in
theorem ggX4_send_X4_in : GoodIn wsX4_send wsX4_in := goodIn_r _ [13] (by decide +kernel) (by decide +kernel)
set_option maxRecDepth 20000 in
theorem gX4_send_X4_in : GoodIn wsX4_send (va_wsS RX4 85 yX4_in wsX4_in) := goodIn_app (goodIn_of _ (by decide +kernel)) ggX4_send_X4_in
theorem dX4_send_0 : decode cX4_send 0 = .ok (.aload_n 0, 1) := by decide +kernel
theorem dX4_send_1 : decode cX4_send 1 = .ok (.iload_n 1, 1) := by decide +kernel
theorem dX4_send_2 : decode cX4_send 2 = .ok (.invokevirtual 100, 3) := by decide +kernel
theorem dX4_send_5 : decode cX4_send 5 = .ok (.ifCond .eq 34, 3) := by decide +kernel
theorem dX4_send_8 : decode cX4_send 8 = .ok (.aload_n 0, 1) := by decide +kernel
theorem dX4_send_9 : decode cX4_send 9 = .ok (.getfield 17, 3) := by decide +kernel
theorem dX4_send_12 : decode cX4_send 12 = .ok (.iload_n 1, 1) := by decide +kernel
theorem dX4_send_13 : decode cX4_send 13 = .ok (.iaload, 1) := by decide +kernel
theorem dX4_send_14 : decode cX4_send 14 = .ok (.iconst 2, 1) := by decide +kernel
theorem dX4_send_15 : decode cX4_send 15 = .ok (.iconst 4, 1) := by decide +kernel
theorem dX4_send_16 : decode cX4_send 16 = .ok (.invokestatic 85, 3) := by decide +kernel
theorem dX4_send_19 : decode cX4_send 19 = .ok (.ifCond .eq 20, 3) := by decide +kernel
theorem dX4_send_22 : decode cX4_send 22 = .ok (.aload_n 0, 1) := by decide +kernel
theorem dX4_send_23 : decode cX4_send 23 = .ok (.getfield 44, 3) := by decide +kernel
theorem dX4_send_26 : decode cX4_send 26 = .ok (.iload_n 1, 1) := by decide +kernel
theorem dX4_send_27 : decode cX4_send 27 = .ok (.iaload, 1) := by decide +kernel
theorem dX4_send_28 : decode cX4_send 28 = .ok (.aload_n 0, 1) := by decide +kernel
theorem dX4_send_29 : decode cX4_send 29 = .ok (.getfield 73, 3) := by decide +kernel
theorem dX4_send_32 : decode cX4_send 32 = .ok (.if_icmp .ge 7, 3) := by decide +kernel
theorem dX4_send_35 : decode cX4_send 35 = .ok (.iconst 1, 1) := by decide +kernel
theorem dX4_send_36 : decode cX4_send 36 = .ok (.goto 4, 3) := by decide +kernel
theorem dX4_send_39 : decode cX4_send 39 = .ok (.iconst 0, 1) := by decide +kernel
theorem dX4_send_40 : decode cX4_send 40 = .ok (.istore_n 3, 1) := by decide +kernel
theorem dX4_send_41 : decode cX4_send 41 = .ok (.iload_n 3, 1) := by decide +kernel
theorem dX4_send_42 : decode cX4_send 42 = .ok (.ifCond .eq 56, 3) := by decide +kernel
theorem dX4_send_45 : decode cX4_send 45 = .ok (.aload_n 0, 1) := by decide +kernel
theorem dX4_send_46 : decode cX4_send 46 = .ok (.getfield 41, 3) := by decide +kernel
theorem dX4_send_49 : decode cX4_send 49 = .ok (.bipush 16, 2) := by decide +kernel
theorem dX4_send_51 : decode cX4_send 51 = .ok (.iload_n 1, 1) := by decide +kernel
theorem dX4_send_52 : decode cX4_send 52 = .ok (.imul, 1) := by decide +kernel
theorem dX4_send_53 : decode cX4_send 53 = .ok (.aload_n 0, 1) := by decide +kernel
theorem dX4_send_54 : decode cX4_send 54 = .ok (.getfield 44, 3) := by decide +kernel
theorem dX4_send_57 : decode cX4_send 57 = .ok (.iload_n 1, 1) := by decide +kernel
theorem dX4_send_58 : decode cX4_send 58 = .ok (.iaload, 1) := by decide +kernel
theorem dX4_send_59 : decode cX4_send 59 = .ok (.iadd, 1) := by decide +kernel
theorem dX4_send_60 : decode cX4_send 60 = .ok (.iload_n 2, 1) := by decide +kernel
theorem dX4_send_61 : decode cX4_send 61 = .ok (.iastore, 1) := by decide +kernel
theorem dX4_send_62 : decode cX4_send 62 = .ok (.aload_n 0, 1) := by decide +kernel
theorem dX4_send_63 : decode cX4_send 63 = .ok (.getfield 44, 3) := by decide +kernel
theorem dX4_send_66 : decode cX4_send 66 = .ok (.iload_n 1, 1) := by decide +kernel
theorem dX4_send_67 : decode cX4_send 67 = .ok (.dup2, 1) := by decide +kernel
theorem dX4_send_68 : decode cX4_send 68 = .ok (.iaload, 1) := by decide +kernel
theorem dX4_send_69 : decode cX4_send 69 = .ok (.iconst 1, 1) := by decide +kernel
theorem dX4_send_70 : decode cX4_send 70 = .ok (.iadd, 1) := by decide +kernel
theorem dX4_send_71 : decode cX4_send 71 = .ok (.iastore, 1) := by decide +kernel
theorem dX4_send_72 : decode cX4_send 72 = .ok (.aload_n 0, 1) := by decide +kernel
theorem dX4_send_73 : decode cX4_send 73 = .ok (.getfield 17, 3) := by decide +kernel
theorem dX4_send_76 : decode cX4_send 76 = .ok (.iload_n 1, 1) := by decide +kernel
theorem dX4_send_77 : decode cX4_send 77 = .ok (.aload_n 0, 1) := by decide +kernel
theorem dX4_send_78 : decode cX4_send 78 = .ok (.getfield 17, 3) := by decide +kernel
theorem dX4_send_81 : decode cX4_send 81 = .ok (.iload_n 1, 1) := by decide +kernel
theorem dX4_send_82 : decode cX4_send 82 = .ok (.iaload, 1) := by decide +kernel
theorem dX4_send_83 : decode cX4_send 83 = .ok (.iconst 4, 1) := by decide +kernel
theorem dX4_send_84 : decode cX4_send 84 = .ok (.if_icmp .ne 7, 3) := by decide +kernel
theorem dX4_send_87 : decode cX4_send 87 = .ok (.iconst 2, 1) := by decide +kernel
theorem dX4_send_88 : decode cX4_send 88 = .ok (.goto 9, 3) := by decide +kernel
theorem dX4_send_91 : decode cX4_send 91 = .ok (.aload_n 0, 1) := by decide +kernel
theorem dX4_send_92 : decode cX4_send 92 = .ok (.getfield 17, 3) := by decide +kernel
theorem dX4_send_95 : decode cX4_send 95 = .ok (.iload_n 1, 1) := by decide +kernel
theorem dX4_send_96 : decode cX4_send 96 = .ok (.iaload, 1) := by decide +kernel
theorem dX4_send_97 : decode cX4_send 97 = .ok (.iastore, 1) := by decide +kernel
theorem dX4_send_98 : decode cX4_send 98 = .ok (.iload_n 3, 1) := by decide +kernel
theorem dX4_send_99 : decode cX4_send 99 = .ok (.ireturn, 1) := by decide +kernel
theorem dX4_receive_0 : decode cX4_receive 0 = .ok (.aload_n 0, 1) := by decide +kernel
theorem dX4_receive_1 : decode cX4_receive 1 = .ok (.getfield 44, 3) := by decide +kernel
theorem dX4_receive_4 : decode cX4_receive 4 = .ok (.iload_n 1, 1) := by decide +kernel
theorem dX4_receive_5 : decode cX4_receive 5 = .ok (.iaload, 1) := by decide +kernel
theorem dX4_receive_6 : decode cX4_receive 6 = .ok (.ifCond .ne 21, 3) := by decide +kernel
theorem dX4_receive_9 : decode cX4_receive 9 = .ok (.aload_n 0, 1) := by decide +kernel
theorem dX4_receive_10 : decode cX4_receive 10 = .ok (.getfield 17, 3) := by decide +kernel
theorem dX4_receive_13 : decode cX4_receive 13 = .ok (.iload_n 1, 1) := by decide +kernel
theorem dX4_receive_14 : decode cX4_receive 14 = .ok (.iconst 4, 1) := by decide +kernel
theorem dX4_receive_15 : decode cX4_receive 15 = .ok (.iastore, 1) := by decide +kernel
theorem dX4_receive_16 : decode cX4_receive 16 = .ok (.aload_n 0, 1) := by decide +kernel
theorem dX4_receive_17 : decode cX4_receive 17 = .ok (.getfield 35, 3) := by decide +kernel
theorem dX4_receive_20 : decode cX4_receive 20 = .ok (.iload_n 1, 1) := by decide +kernel
theorem dX4_receive_21 : decode cX4_receive 21 = .ok (.dup2, 1) := by decide +kernel
theorem dX4_receive_22 : decode cX4_receive 22 = .ok (.iaload, 1) := by decide +kernel
theorem dX4_receive_23 : decode cX4_receive 23 = .ok (.iconst 1, 1) := by decide +kernel
theorem dX4_receive_24 : decode cX4_receive 24 = .ok (.isub, 1) := by decide +kernel
theorem dX4_receive_25 : decode cX4_receive 25 = .ok (.iastore, 1) := by decide +kernel
theorem dX4_receive_26 : decode cX4_receive 26 = .ok (.return_, 1) := by decide +kernel
theorem dX4_receive_27 : decode cX4_receive 27 = .ok (.aload_n 0, 1) := by decide +kernel
theorem dX4_receive_28 : decode cX4_receive 28 = .ok (.getfield 32, 3) := by decide +kernel
theorem dX4_receive_31 : decode cX4_receive 31 = .ok (.iload_n 2, 1) := by decide +kernel
theorem dX4_receive_32 : decode cX4_receive 32 = .ok (.aload_n 0, 1) := by decide +kernel
theorem dX4_receive_33 : decode cX4_receive 33 = .ok (.getfield 41, 3) := by decide +kernel
theorem dX4_receive_36 : decode cX4_receive 36 = .ok (.bipush 16, 2) := by decide +kernel
theorem dX4_receive_38 : decode cX4_receive 38 = .ok (.iload_n 1, 1) := by decide +kernel
theorem dX4_receive_39 : decode cX4_receive 39 = .ok (.imul, 1) := by decide +kernel
theorem dX4_receive_40 : decode cX4_receive 40 = .ok (.iaload, 1) := by decide +kernel
theorem dX4_receive_41 : decode cX4_receive 41 = .ok (.iastore, 1) := by decide +kernel
theorem dX4_receive_42 : decode cX4_receive 42 = .ok (.aload_n 0, 1) := by decide +kernel
theorem dX4_receive_43 : decode cX4_receive 43 = .ok (.getfield 44, 3) := by decide +kernel
theorem dX4_receive_46 : decode cX4_receive 46 = .ok (.iload_n 1, 1) := by decide +kernel
theorem dX4_receive_47 : decode cX4_receive 47 = .ok (.dup2, 1) := by decide +kernel
theorem dX4_receive_48 : decode cX4_receive 48 = .ok (.iaload, 1) := by decide +kernel
theorem dX4_receive_49 : decode cX4_receive 49 = .ok (.iconst 1, 1) := by decide +kernel
theorem dX4_receive_50 : decode cX4_receive 50 = .ok (.isub, 1) := by decide +kernel
theorem dX4_receive_51 : decode cX4_receive 51 = .ok (.iastore, 1) := by decide +kernel
theorem dX4_receive_52 : decode cX4_receive 52 = .ok (.iconst 0, 1) := by decide +kernel
theorem dX4_receive_53 : decode cX4_receive 53 = .ok (.istore_n 3, 1) := by decide +kernel
theorem dX4_receive_54 : decode cX4_receive 54 = .ok (.iload_n 3, 1) := by decide +kernel
theorem dX4_receive_55 : decode cX4_receive 55 = .ok (.aload_n 0, 1) := by decide +kernel
theorem dX4_receive_56 : decode cX4_receive 56 = .ok (.getfield 44, 3) := by decide +kernel
theorem dX4_receive_59 : decode cX4_receive 59 = .ok (.iload_n 1, 1) := by decide +kernel
theorem dX4_receive_60 : decode cX4_receive 60 = .ok (.iaload, 1) := by decide +kernel
theorem dX4_receive_61 : decode cX4_receive 61 = .ok (.if_icmp .ge 33, 3) := by decide +kernel
theorem dX4_receive_64 : decode cX4_receive 64 = .ok (.aload_n 0, 1) := by decide +kernel
theorem dX4_receive_65 : decode cX4_receive 65 = .ok (.getfield 41, 3) := by decide +kernel
theorem dX4_receive_68 : decode cX4_receive 68 = .ok (.bipush 16, 2) := by decide +kernel
theorem dX4_receive_70 : decode cX4_receive 70 = .ok (.iload_n 1, 1) := by decide +kernel
theorem dX4_receive_71 : decode cX4_receive 71 = .ok (.imul, 1) := by decide +kernel
theorem dX4_receive_72 : decode cX4_receive 72 = .ok (.iload_n 3, 1) := by decide +kernel
theorem dX4_receive_73 : decode cX4_receive 73 = .ok (.iadd, 1) := by decide +kernel
theorem dX4_receive_74 : decode cX4_receive 74 = .ok (.aload_n 0, 1) := by decide +kernel
theorem dX4_receive_75 : decode cX4_receive 75 = .ok (.getfield 41, 3) := by decide +kernel
theorem dX4_receive_78 : decode cX4_receive 78 = .ok (.bipush 16, 2) := by decide +kernel
theorem dX4_receive_80 : decode cX4_receive 80 = .ok (.iload_n 1, 1) := by decide +kernel
theorem dX4_receive_81 : decode cX4_receive 81 = .ok (.imul, 1) := by decide +kernel
theorem dX4_receive_82 : decode cX4_receive 82 = .ok (.iload_n 3, 1) := by decide +kernel
theorem dX4_receive_83 : decode cX4_receive 83 = .ok (.iadd, 1) := by decide +kernel
theorem dX4_receive_84 : decode cX4_receive 84 = .ok (.iconst 1, 1) := by decide +kernel
theorem dX4_receive_85 : decode cX4_receive 85 = .ok (.iadd, 1) := by decide +kernel
theorem dX4_receive_86 : decode cX4_receive 86 = .ok (.iaload, 1) := by decide +kernel
theorem dX4_receive_87 : decode cX4_receive 87 = .ok (.iastore, 1) := by decide +kernel
theorem dX4_receive_88 : decode cX4_receive 88 = .ok (.iinc 3 1, 3) := by decide +kernel
theorem dX4_receive_91 : decode cX4_receive 91 = .ok (.goto (-37), 3) := by decide +kernel
theorem dX4_receive_94 : decode cX4_receive 94 = .ok (.return_, 1) := by decide +kernel
set_option maxRecDepth 20000 in
theorem ggX4_robotX_X4_isRobot : GoodIn wsX4_robotX wsX4_isRobot := goodIn_r _ [6, 7, 8, 9, 10, 5, 11, 12, 13, 14, 15, 16, 17, 18, 19, 20, 21, 22, 23, 24, 25, 26, 27, 28, 29, 30, 31, 32, 33] (by decide +kernel) (by decide +kernel)
set_option maxRecDepth 20000 in
theorem gX4_robotX_X4_isRobot : GoodIn wsX4_robotX (wsV RX4 100 RX4 yX4_isRobot wsX4_isRobot) := goodIn_app (goodIn_of _ (by decide +kernel)) ggX4_robotX_X4_isRobot
theorem dX4_robotX_0 : decode cX4_robotX 0 = .ok (.aload_n 0, 1) := by decide +kernel
theorem dX4_robotX_1 : decode cX4_robotX 1 = .ok (.iload_n 1, 1) := by decide +kernel
theorem dX4_robotX_2 : decode cX4_robotX 2 = .ok (.invokevirtual 100, 3) := by decide +kernel
theorem dX4_robotX_5 : decode cX4_robotX 5 = .ok (.ifCond .eq 12, 3) := by decide +kernel
theorem dX4_robotX_8 : decode cX4_robotX 8 = .ok (.aload_n 0, 1) := by decide +kernel
theorem dX4_robotX_9 : decode cX4_robotX 9 = .ok (.getfield 20, 3) := by decide +kernel
theorem dX4_robotX_12 : decode cX4_robotX 12 = .ok (.iload_n 1, 1) := by decide +kernel
theorem dX4_robotX_13 : decode cX4_robotX 13 = .ok (.iaload, 1) := by decide +kernel
theorem dX4_robotX_14 : decode cX4_robotX 14 = .ok (.goto 4, 3) := by decide +kernel
theorem dX4_robotX_17 : decode cX4_robotX 17 = .ok (.iconst (-1), 1) := by decide +kernel
theorem dX4_robotX_18 : decode cX4_robotX 18 = .ok (.ireturn, 1) := by decide +kernel
set_option maxRecDepth 20000 in
theorem ggX4_robotY_X4_isRobot : GoodIn wsX4_robotY wsX4_isRobot := goodIn_r _ [6, 7, 8, 9, 10, 5, 11, 12, 13, 14, 15, 16, 17, 18, 19, 20, 21, 22, 23, 24, 25, 26, 27, 28, 29, 30, 31, 32, 33] (by decide +kernel) (by decide +kernel)
set_option maxRecDepth 20000 in
theorem gX4_robotY_X4_isRobot : GoodIn wsX4_robotY (wsV RX4 100 RX4 yX4_isRobot wsX4_isRobot) := goodIn_app (goodIn_of _ (by decide +kernel)) ggX4_robotY_X4_isRobot
theorem dX4_robotY_0 : decode cX4_robotY 0 = .ok (.aload_n 0, 1) := by decide +kernel
theorem dX4_robotY_1 : decode cX4_robotY 1 = .ok (.iload_n 1, 1) := by decide +kernel
theorem dX4_robotY_2 : decode cX4_robotY 2 = .ok (.invokevirtual 100, 3) := by decide +kernel
theorem dX4_robotY_5 : decode cX4_robotY 5 = .ok (.ifCond .eq 12, 3) := by decide +kernel
theorem dX4_robotY_8 : decode cX4_robotY 8 = .ok (.aload_n 0, 1) := by decide +kernel
theorem dX4_robotY_9 : decode cX4_robotY 9 = .ok (.getfield 23, 3) := by decide +kernel
theorem dX4_robotY_12 : decode cX4_robotY 12 = .ok (.iload_n 1, 1) := by decide +kernel
theorem dX4_robotY_13 : decode cX4_robotY 13 = .ok (.iaload, 1) := by decide +kernel
theorem dX4_robotY_14 : decode cX4_robotY 14 = .ok (.goto 4, 3) := by decide +kernel
theorem dX4_robotY_17 : decode cX4_robotY 17 = .ok (.iconst (-1), 1) := by decide +kernel
theorem dX4_robotY_18 : decode cX4_robotY 18 = .ok (.ireturn, 1) := by decide +kernel
set_option maxRecDepth 20000 in
theorem ggX4_robotState_X4_in : GoodIn wsX4_robotState wsX4_in := goodIn_r _ [6] (by decide +kernel) (by decide +kernel)
set_option maxRecDepth 20000 in
theorem gX4_robotState_X4_in : GoodIn wsX4_robotState (va_wsS RX4 85 yX4_in wsX4_in) := goodIn_app (goodIn_of _ (by decide +kernel)) ggX4_robotState_X4_in
theorem dX4_robotState_0 : decode cX4_robotState 0 = .ok (.iload_n 1, 1) := by decide +kernel
theorem dX4_robotState_1 : decode cX4_robotState 1 = .ok (.iconst 0, 1) := by decide +kernel
theorem dX4_robotState_2 : decode cX4_robotState 2 = .ok (.aload_n 0, 1) := by decide +kernel
theorem dX4_robotState_3 : decode cX4_robotState 3 = .ok (.getfield 67, 3) := by decide +kernel
theorem dX4_robotState_6 : decode cX4_robotState 6 = .ok (.iconst 1, 1) := by decide +kernel
theorem dX4_robotState_7 : decode cX4_robotState 7 = .ok (.isub, 1) := by decide +kernel
theorem dX4_robotState_8 : decode cX4_robotState 8 = .ok (.invokestatic 85, 3) := by decide +kernel
theorem dX4_robotState_11 : decode cX4_robotState 11 = .ok (.ifCond .eq 12, 3) := by decide +kernel
theorem dX4_robotState_14 : decode cX4_robotState 14 = .ok (.aload_n 0, 1) := by decide +kernel
theorem dX4_robotState_15 : decode cX4_robotState 15 = .ok (.getfield 17, 3) := by decide +kernel
theorem dX4_robotState_18 : decode cX4_robotState 18 = .ok (.iload_n 1, 1) := by decide +kernel
theorem dX4_robotState_19 : decode cX4_robotState 19 = .ok (.iaload, 1) := by decide +kernel
theorem dX4_robotState_20 : decode cX4_robotState 20 = .ok (.goto 4, 3) := by decide +kernel
theorem dX4_robotState_23 : decode cX4_robotState 23 = .ok (.iconst (-1), 1) := by decide +kernel
theorem dX4_robotState_24 : decode cX4_robotState 24 = .ok (.ireturn, 1) := by decide +kernel
set_option maxRecDepth 20000 in
theorem ggX4_reg_X4_isRobot : GoodIn wsX4_reg wsX4_isRobot := goodIn_r _ [13, 14, 6, 15, 16, 12, 17, 18, 19, 20, 21, 22, 23, 24, 25, 26, 27, 28, 29, 30, 31, 32, 33, 34, 35, 36, 37, 38, 39] (by decide +kernel) (by decide +kernel)
set_option maxRecDepth 20000 in
theorem gX4_reg_X4_isRobot : GoodIn wsX4_reg (wsV RX4 100 RX4 yX4_isRobot wsX4_isRobot) := goodIn_app (goodIn_of _ (by decide +kernel)) ggX4_reg_X4_isRobot
set_option maxRecDepth 20000 in
theorem ggX4_reg_X4_in : GoodIn wsX4_reg wsX4_in := goodIn_r _ [17] (by decide +kernel) (by decide +kernel)
set_option maxRecDepth 20000 in
theorem gX4_reg_X4_in : GoodIn wsX4_reg (va_wsS RX4 85 yX4_in wsX4_in) := goodIn_app (goodIn_of _ (by decide +kernel)) ggX4_reg_X4_in
theorem dX4_reg_0 : decode cX4_reg 0 = .ok (.aload_n 0, 1) := by decide +kernel
theorem dX4_reg_1 : decode cX4_reg 1 = .ok (.iload_n 1, 1) := by decide +kernel
theorem dX4_reg_2 : decode cX4_reg 2 = .ok (.invokevirtual 100, 3) := by decide +kernel
theorem dX4_reg_5 : decode cX4_reg 5 = .ok (.ifCond .ne 5, 3) := by decide +kernel
theorem dX4_reg_8 : decode cX4_reg 8 = .ok (.iconst 0, 1) := by decide +kernel
theorem dX4_reg_9 : decode cX4_reg 9 = .ok (.ireturn, 1) := by decide +kernel
theorem dX4_reg_10 : decode cX4_reg 10 = .ok (.iload_n 2, 1) := by decide +kernel
theorem dX4_reg_11 : decode cX4_reg 11 = .ok (.tableswitch 93 8 13 #[37, 44, 51, 58, 65, 72], 37) := by decide +kernel
theorem dX4_reg_48 : decode cX4_reg 48 = .ok (.aload_n 0, 1) := by decide +kernel
theorem dX4_reg_49 : decode cX4_reg 49 = .ok (.getfield 35, 3) := by decide +kernel
theorem dX4_reg_52 : decode cX4_reg 52 = .ok (.iload_n 1, 1) := by decide +kernel
theorem dX4_reg_53 : decode cX4_reg 53 = .ok (.iaload, 1) := by decide +kernel
theorem dX4_reg_54 : decode cX4_reg 54 = .ok (.ireturn, 1) := by decide +kernel
theorem dX4_reg_55 : decode cX4_reg 55 = .ok (.aload_n 0, 1) := by decide +kernel
theorem dX4_reg_56 : decode cX4_reg 56 = .ok (.getfield 38, 3) := by decide +kernel
theorem dX4_reg_59 : decode cX4_reg 59 = .ok (.iload_n 1, 1) := by decide +kernel
theorem dX4_reg_60 : decode cX4_reg 60 = .ok (.iaload, 1) := by decide +kernel
theorem dX4_reg_61 : decode cX4_reg 61 = .ok (.ireturn, 1) := by decide +kernel
theorem dX4_reg_62 : decode cX4_reg 62 = .ok (.aload_n 0, 1) := by decide +kernel
theorem dX4_reg_63 : decode cX4_reg 63 = .ok (.getfield 44, 3) := by decide +kernel
theorem dX4_reg_66 : decode cX4_reg 66 = .ok (.iload_n 1, 1) := by decide +kernel
theorem dX4_reg_67 : decode cX4_reg 67 = .ok (.iaload, 1) := by decide +kernel
theorem dX4_reg_68 : decode cX4_reg 68 = .ok (.ireturn, 1) := by decide +kernel
theorem dX4_reg_69 : decode cX4_reg 69 = .ok (.aload_n 0, 1) := by decide +kernel
theorem dX4_reg_70 : decode cX4_reg 70 = .ok (.getfield 29, 3) := by decide +kernel
theorem dX4_reg_73 : decode cX4_reg 73 = .ok (.iload_n 1, 1) := by decide +kernel
theorem dX4_reg_74 : decode cX4_reg 74 = .ok (.iaload, 1) := by decide +kernel
theorem dX4_reg_75 : decode cX4_reg 75 = .ok (.ireturn, 1) := by decide +kernel
theorem dX4_reg_76 : decode cX4_reg 76 = .ok (.aload_n 0, 1) := by decide +kernel
theorem dX4_reg_77 : decode cX4_reg 77 = .ok (.getfield 50, 3) := by decide +kernel
theorem dX4_reg_80 : decode cX4_reg 80 = .ok (.iload_n 1, 1) := by decide +kernel
theorem dX4_reg_81 : decode cX4_reg 81 = .ok (.iaload, 1) := by decide +kernel
theorem dX4_reg_82 : decode cX4_reg 82 = .ok (.ireturn, 1) := by decide +kernel
theorem dX4_reg_83 : decode cX4_reg 83 = .ok (.aload_n 0, 1) := by decide +kernel
theorem dX4_reg_84 : decode cX4_reg 84 = .ok (.getfield 17, 3) := by decide +kernel
theorem dX4_reg_87 : decode cX4_reg 87 = .ok (.iload_n 1, 1) := by decide +kernel
theorem dX4_reg_88 : decode cX4_reg 88 = .ok (.iaload, 1) := by decide +kernel
theorem dX4_reg_89 : decode cX4_reg 89 = .ok (.iconst 3, 1) := by decide +kernel
theorem dX4_reg_90 : decode cX4_reg 90 = .ok (.if_icmp .ne 12, 3) := by decide +kernel
theorem dX4_reg_93 : decode cX4_reg 93 = .ok (.aload_n 0, 1) := by decide +kernel
theorem dX4_reg_94 : decode cX4_reg 94 = .ok (.getfield 47, 3) := by decide +kernel
theorem dX4_reg_97 : decode cX4_reg 97 = .ok (.iload_n 1, 1) := by decide +kernel
theorem dX4_reg_98 : decode cX4_reg 98 = .ok (.iaload, 1) := by decide +kernel
theorem dX4_reg_99 : decode cX4_reg 99 = .ok (.goto 4, 3) := by decide +kernel
theorem dX4_reg_102 : decode cX4_reg 102 = .ok (.iconst 0, 1) := by decide +kernel
theorem dX4_reg_103 : decode cX4_reg 103 = .ok (.ireturn, 1) := by decide +kernel
theorem dX4_reg_104 : decode cX4_reg 104 = .ok (.iload_n 2, 1) := by decide +kernel
theorem dX4_reg_105 : decode cX4_reg 105 = .ok (.iconst 0, 1) := by decide +kernel
theorem dX4_reg_106 : decode cX4_reg 106 = .ok (.bipush 7, 2) := by decide +kernel
theorem dX4_reg_108 : decode cX4_reg 108 = .ok (.invokestatic 85, 3) := by decide +kernel
theorem dX4_reg_111 : decode cX4_reg 111 = .ok (.ifCond .eq 17, 3) := by decide +kernel
theorem dX4_reg_114 : decode cX4_reg 114 = .ok (.aload_n 0, 1) := by decide +kernel
theorem dX4_reg_115 : decode cX4_reg 115 = .ok (.getfield 32, 3) := by decide +kernel
theorem dX4_reg_118 : decode cX4_reg 118 = .ok (.bipush 8, 2) := by decide +kernel
theorem dX4_reg_120 : decode cX4_reg 120 = .ok (.iload_n 1, 1) := by decide +kernel
theorem dX4_reg_121 : decode cX4_reg 121 = .ok (.imul, 1) := by decide +kernel
theorem dX4_reg_122 : decode cX4_reg 122 = .ok (.iload_n 2, 1) := by decide +kernel
theorem dX4_reg_123 : decode cX4_reg 123 = .ok (.iadd, 1) := by decide +kernel
theorem dX4_reg_124 : decode cX4_reg 124 = .ok (.iaload, 1) := by decide +kernel
theorem dX4_reg_125 : decode cX4_reg 125 = .ok (.goto 4, 3) := by decide +kernel
theorem dX4_reg_128 : decode cX4_reg 128 = .ok (.iconst 0, 1) := by decide +kernel
theorem dX4_reg_129 : decode cX4_reg 129 = .ok (.ireturn, 1) := by decide +kernel
theorem dX4_now_0 : decode cX4_now 0 = .ok (.aload_n 0, 1) := by decide +kernel
theorem dX4_now_1 : decode cX4_now 1 = .ok (.getfield 82, 3) := by decide +kernel
theorem dX4_now_4 : decode cX4_now 4 = .ok (.ireturn, 1) := by decide +kernel
theorem dX4_setClock_0 : decode cX4_setClock 0 = .ok (.aload_n 0, 1) := by decide +kernel
theorem dX4_setClock_1 : decode cX4_setClock 1 = .ok (.iload_n 1, 1) := by decide +kernel
theorem dX4_setClock_2 : decode cX4_setClock 2 = .ok (.putfield 82, 3) := by decide +kernel
theorem dX4_setClock_5 : decode cX4_setClock 5 = .ok (.return_, 1) := by decide +kernel
