set_option maxRecDepth 20000 in
theorem ggX3_init_X3_bounded : GoodIn wsX3_init wsX3_bounded := goodIn_r _ [15, 16, 17, 18, 19, 20, 21, 22] (by decide +kernel) (by decide +kernel)
set_option maxRecDepth 20000 in
theorem gX3_init_X3_bounded : GoodIn wsX3_init (va_wsS RX3 11 yX3_bounded wsX3_bounded) := goodIn_app (goodIn_of _ (by decide +kernel)) ggX3_init_X3_bounded
set_option maxRecDepth 20000 in
theorem ggX3_init_X1_init : GoodIn wsX3_init wsX1_init := goodIn_r _ [25, 26, 2, 3, 27, 28, 29, 30, 31, 32, 33, 65, 66, 67, 68, 69, 70] (by decide +kernel) (by decide +kernel)
set_option maxRecDepth 20000 in
theorem gX3_init_X1_init : GoodIn wsX3_init (wsX1_init) := ggX3_init_X1_init
set_option maxRecDepth 20000 in
theorem ggX3_init_X2_init : GoodIn wsX3_init wsX2_init := goodIn_r _ [36, 37, 2, 3, 38, 29, 39, 40, 41, 42, 43, 44, 45, 46, 47, 48, 49, 75, 76, 77, 78, 79, 80, 81, 82, 83, 84, 85, 86, 87, 88] (by decide +kernel) (by decide +kernel)
set_option maxRecDepth 20000 in
theorem gX3_init_X2_init : GoodIn wsX3_init (wsX2_init) := ggX3_init_X2_init
set_option maxRecDepth 20000 in
theorem ggX3_init_X3_startOver : GoodIn wsX3_init wsX3_startOver := goodIn_r _ [53, 7, 9, 54, 55, 56, 57, 58, 59, 6, 60, 30, 33, 61, 62, 63, 64, 71, 72, 73, 74, 75, 76, 77, 78, 79, 80, 81, 82, 83, 84, 85, 86, 65, 66, 67, 68, 69, 70] (by decide +kernel) (by decide +kernel)
set_option maxRecDepth 20000 in
theorem gX3_init_X3_startOver : GoodIn wsX3_init (wsV RX3 31 RX3 yX3_startOver wsX3_startOver) := goodIn_app (goodIn_of _ (by decide +kernel)) ggX3_init_X3_startOver
theorem dX3_init_0 : decode cX3_init 0 = .ok (.aload_n 0, 1) := by decide +kernel
theorem dX3_init_1 : decode cX3_init 1 = .ok (.invokespecial 1, 3) := by decide +kernel
theorem dX3_init_4 : decode cX3_init 4 = .ok (.aload_n 0, 1) := by decide +kernel
theorem dX3_init_5 : decode cX3_init 5 = .ok (.new 7, 3) := by decide +kernel
theorem dX3_init_8 : decode cX3_init 8 = .ok (.dup, 1) := by decide +kernel
theorem dX3_init_9 : decode cX3_init 9 = .ok (.iload_n 1, 1) := by decide +kernel
theorem dX3_init_10 : decode cX3_init 10 = .ok (.bipush 32, 2) := by decide +kernel
theorem dX3_init_12 : decode cX3_init 12 = .ok (.invokestatic 11, 3) := by decide +kernel
theorem dX3_init_15 : decode cX3_init 15 = .ok (.iload_n 2, 1) := by decide +kernel
theorem dX3_init_16 : decode cX3_init 16 = .ok (.bipush 32, 2) := by decide +kernel
theorem dX3_init_18 : decode cX3_init 18 = .ok (.invokestatic 11, 3) := by decide +kernel
theorem dX3_init_21 : decode cX3_init 21 = .ok (.invokespecial 15, 3) := by decide +kernel
theorem dX3_init_24 : decode cX3_init 24 = .ok (.putfield 18, 3) := by decide +kernel
theorem dX3_init_27 : decode cX3_init 27 = .ok (.aload_n 0, 1) := by decide +kernel
theorem dX3_init_28 : decode cX3_init 28 = .ok (.iload_n 3, 1) := by decide +kernel
theorem dX3_init_29 : decode cX3_init 29 = .ok (.bipush 8, 2) := by decide +kernel
theorem dX3_init_31 : decode cX3_init 31 = .ok (.invokestatic 11, 3) := by decide +kernel
theorem dX3_init_34 : decode cX3_init 34 = .ok (.anewarray 22, 3) := by decide +kernel
theorem dX3_init_37 : decode cX3_init 37 = .ok (.putfield 24, 3) := by decide +kernel
theorem dX3_init_40 : decode cX3_init 40 = .ok (.iload 4, 2) := by decide +kernel
theorem dX3_init_42 : decode cX3_init 42 = .ok (.bipush 100, 2) := by decide +kernel
theorem dX3_init_44 : decode cX3_init 44 = .ok (.invokestatic 11, 3) := by decide +kernel
theorem dX3_init_47 : decode cX3_init 47 = .ok (.istore 6, 2) := by decide +kernel
theorem dX3_init_49 : decode cX3_init 49 = .ok (.iload 5, 2) := by decide +kernel
theorem dX3_init_51 : decode cX3_init 51 = .ok (.bipush 16, 2) := by decide +kernel
theorem dX3_init_53 : decode cX3_init 53 = .ok (.invokestatic 11, 3) := by decide +kernel
theorem dX3_init_56 : decode cX3_init 56 = .ok (.istore 7, 2) := by decide +kernel
theorem dX3_init_58 : decode cX3_init 58 = .ok (.iconst 0, 1) := by decide +kernel
theorem dX3_init_59 : decode cX3_init 59 = .ok (.istore 8, 2) := by decide +kernel
theorem dX3_init_61 : decode cX3_init 61 = .ok (.iload 8, 2) := by decide +kernel
theorem dX3_init_63 : decode cX3_init 63 = .ok (.aload_n 0, 1) := by decide +kernel
theorem dX3_init_64 : decode cX3_init 64 = .ok (.getfield 24, 3) := by decide +kernel
theorem dX3_init_67 : decode cX3_init 67 = .ok (.arraylength, 1) := by decide +kernel
theorem dX3_init_68 : decode cX3_init 68 = .ok (.if_icmp .ge 29, 3) := by decide +kernel
theorem dX3_init_71 : decode cX3_init 71 = .ok (.aload_n 0, 1) := by decide +kernel
theorem dX3_init_72 : decode cX3_init 72 = .ok (.getfield 24, 3) := by decide +kernel
theorem dX3_init_75 : decode cX3_init 75 = .ok (.iload 8, 2) := by decide +kernel
theorem dX3_init_77 : decode cX3_init 77 = .ok (.new 22, 3) := by decide +kernel
theorem dX3_init_80 : decode cX3_init 80 = .ok (.dup, 1) := by decide +kernel
theorem dX3_init_81 : decode cX3_init 81 = .ok (.iload 8, 2) := by decide +kernel
theorem dX3_init_83 : decode cX3_init 83 = .ok (.iload 6, 2) := by decide +kernel
theorem dX3_init_85 : decode cX3_init 85 = .ok (.iload 7, 2) := by decide +kernel
theorem dX3_init_87 : decode cX3_init 87 = .ok (.invokespecial 28, 3) := by decide +kernel
theorem dX3_init_90 : decode cX3_init 90 = .ok (.aastore, 1) := by decide +kernel
theorem dX3_init_91 : decode cX3_init 91 = .ok (.iinc 8 1, 3) := by decide +kernel
theorem dX3_init_94 : decode cX3_init 94 = .ok (.goto (-33), 3) := by decide +kernel
theorem dX3_init_97 : decode cX3_init 97 = .ok (.aload_n 0, 1) := by decide +kernel
theorem dX3_init_98 : decode cX3_init 98 = .ok (.invokevirtual 31, 3) := by decide +kernel
theorem dX3_init_101 : decode cX3_init 101 = .ok (.return_, 1) := by decide +kernel
set_option maxRecDepth 20000 in
theorem ggX3_init__X3_startOver : GoodIn wsX3_init_ wsX3_startOver := goodIn_r _ [5, 6, 7, 8, 9, 10, 11, 12, 13, 14, 15, 16, 17, 18, 19, 20, 21, 22, 23, 24, 25, 26, 27, 28, 29, 30, 31, 32, 33, 34, 35, 36, 37, 38, 39, 40, 41, 42, 43] (by decide +kernel) (by decide +kernel)
set_option maxRecDepth 20000 in
theorem gX3_init__X3_startOver : GoodIn wsX3_init_ (wsV RX3 31 RX3 yX3_startOver wsX3_startOver) := goodIn_app (goodIn_of _ (by decide +kernel)) ggX3_init__X3_startOver
theorem dX3_init__0 : decode cX3_init_ 0 = .ok (.aload_n 0, 1) := by decide +kernel
theorem dX3_init__1 : decode cX3_init_ 1 = .ok (.invokevirtual 31, 3) := by decide +kernel
theorem dX3_init__4 : decode cX3_init_ 4 = .ok (.return_, 1) := by decide +kernel
set_option maxRecDepth 20000 in
theorem ggX3_setWall_X1_isInside : GoodIn wsX3_setWall wsX1_isInside := goodIn_r _ [6, 7, 8, 29, 30, 31, 32, 33, 34] (by decide +kernel) (by decide +kernel)
set_option maxRecDepth 20000 in
theorem gX3_setWall_X1_isInside : GoodIn wsX3_setWall (wsV RX3 34 RX1 yX1_isInside wsX1_isInside) := goodIn_app (goodIn_of _ (by decide +kernel)) ggX3_setWall_X1_isInside
set_option maxRecDepth 20000 in
theorem ggX3_setWall_X3_robotOn : GoodIn wsX3_setWall wsX3_robotOn := goodIn_r _ [13, 14, 15, 16, 17, 25, 26, 27, 28, 35, 36, 37, 38, 39, 40, 41, 42, 43, 44, 45, 46] (by decide +kernel) (by decide +kernel)
set_option maxRecDepth 20000 in
theorem gX3_setWall_X3_robotOn : GoodIn wsX3_setWall (wsV RX3 38 RX3 yX3_robotOn wsX3_robotOn) := goodIn_app (goodIn_of _ (by decide +kernel)) ggX3_setWall_X3_robotOn
set_option maxRecDepth 20000 in
theorem ggX3_setWall_X1_changeWall : GoodIn wsX3_setWall wsX1_changeWall := goodIn_r _ [21, 7, 22, 23, 24, 3, 4, 5, 6, 8, 29, 30, 31, 32, 33, 34] (by decide +kernel) (by decide +kernel)
set_option maxRecDepth 20000 in
theorem gX3_setWall_X1_changeWall : GoodIn wsX3_setWall (wsV RX3 42 RX1 yX1_changeWall wsX1_changeWall) := goodIn_app (goodIn_of _ (by decide +kernel)) ggX3_setWall_X1_changeWall
theorem dX3_setWall_0 : decode cX3_setWall 0 = .ok (.aload_n 0, 1) := by decide +kernel
theorem dX3_setWall_1 : decode cX3_setWall 1 = .ok (.getfield 18, 3) := by decide +kernel
theorem dX3_setWall_4 : decode cX3_setWall 4 = .ok (.iload_n 1, 1) := by decide +kernel
theorem dX3_setWall_5 : decode cX3_setWall 5 = .ok (.iload_n 2, 1) := by decide +kernel
theorem dX3_setWall_6 : decode cX3_setWall 6 = .ok (.invokevirtual 34, 3) := by decide +kernel
theorem dX3_setWall_9 : decode cX3_setWall 9 = .ok (.ifCond .eq 12, 3) := by decide +kernel
theorem dX3_setWall_12 : decode cX3_setWall 12 = .ok (.aload_n 0, 1) := by decide +kernel
theorem dX3_setWall_13 : decode cX3_setWall 13 = .ok (.iload_n 1, 1) := by decide +kernel
theorem dX3_setWall_14 : decode cX3_setWall 14 = .ok (.iload_n 2, 1) := by decide +kernel
theorem dX3_setWall_15 : decode cX3_setWall 15 = .ok (.invokevirtual 38, 3) := by decide +kernel
theorem dX3_setWall_18 : decode cX3_setWall 18 = .ok (.ifnull 5, 3) := by decide +kernel
theorem dX3_setWall_21 : decode cX3_setWall 21 = .ok (.iconst 0, 1) := by decide +kernel
theorem dX3_setWall_22 : decode cX3_setWall 22 = .ok (.ireturn, 1) := by decide +kernel
theorem dX3_setWall_23 : decode cX3_setWall 23 = .ok (.aload_n 0, 1) := by decide +kernel
theorem dX3_setWall_24 : decode cX3_setWall 24 = .ok (.getfield 18, 3) := by decide +kernel
theorem dX3_setWall_27 : decode cX3_setWall 27 = .ok (.iload_n 1, 1) := by decide +kernel
theorem dX3_setWall_28 : decode cX3_setWall 28 = .ok (.iload_n 2, 1) := by decide +kernel
theorem dX3_setWall_29 : decode cX3_setWall 29 = .ok (.iload_n 3, 1) := by decide +kernel
theorem dX3_setWall_30 : decode cX3_setWall 30 = .ok (.invokevirtual 42, 3) := by decide +kernel
theorem dX3_setWall_33 : decode cX3_setWall 33 = .ok (.iconst 1, 1) := by decide +kernel
theorem dX3_setWall_34 : decode cX3_setWall 34 = .ok (.ireturn, 1) := by decide +kernel
set_option maxRecDepth 20000 in
theorem ggX3_putItem_X1_addItem : GoodIn wsX3_putItem wsX1_addItem := goodIn_r _ [6, 7, 8, 9, 10, 11, 5, 12, 13, 18, 19, 20, 21, 22, 23] (by decide +kernel) (by decide +kernel)
set_option maxRecDepth 20000 in
theorem gX3_putItem_X1_addItem : GoodIn wsX3_putItem (wsV RX3 46 RX1 yX1_addItem wsX1_addItem) := goodIn_app (goodIn_of _ (by decide +kernel)) ggX3_putItem_X1_addItem
theorem dX3_putItem_0 : decode cX3_putItem 0 = .ok (.aload_n 0, 1) := by decide +kernel
theorem dX3_putItem_1 : decode cX3_putItem 1 = .ok (.getfield 18, 3) := by decide +kernel
theorem dX3_putItem_4 : decode cX3_putItem 4 = .ok (.iload_n 1, 1) := by decide +kernel
theorem dX3_putItem_5 : decode cX3_putItem 5 = .ok (.iload_n 2, 1) := by decide +kernel
theorem dX3_putItem_6 : decode cX3_putItem 6 = .ok (.invokevirtual 46, 3) := by decide +kernel
theorem dX3_putItem_9 : decode cX3_putItem 9 = .ok (.ireturn, 1) := by decide +kernel
set_option maxRecDepth 20000 in
theorem ggX3_spawn_X1_isOpen : GoodIn wsX3_spawn wsX1_isOpen := goodIn_r _ [8, 9, 10, 11, 55, 56, 57, 58, 59, 60] (by decide +kernel) (by decide +kernel)
set_option maxRecDepth 20000 in
theorem gX3_spawn_X1_isOpen : GoodIn wsX3_spawn (wsV RX3 49 RX1 yX1_isOpen wsX1_isOpen) := goodIn_app (goodIn_of _ (by decide +kernel)) ggX3_spawn_X1_isOpen
set_option maxRecDepth 20000 in
theorem ggX3_spawn_X3_robotOn : GoodIn wsX3_spawn wsX3_robotOn := goodIn_r _ [16, 2, 3, 17, 18, 39, 40, 41, 42, 43, 44, 45, 46, 47, 48, 49, 50, 51, 52, 53, 54] (by decide +kernel) (by decide +kernel)
set_option maxRecDepth 20000 in
theorem gX3_spawn_X3_robotOn : GoodIn wsX3_spawn (wsV RX3 38 RX3 yX3_robotOn wsX3_robotOn) := goodIn_app (goodIn_of _ (by decide +kernel)) ggX3_spawn_X3_robotOn
set_option maxRecDepth 20000 in
theorem ggX3_spawn_X2_appear : GoodIn wsX3_spawn wsX2_appear := goodIn_r _ [23, 24, 25, 26, 27, 28, 29, 30, 31, 32, 33, 34, 35, 36, 37, 38, 43, 44, 45, 46, 47, 48, 49, 50, 51, 52, 53, 54, 61, 62] (by decide +kernel) (by decide +kernel)
set_option maxRecDepth 20000 in
theorem gX3_spawn_X2_appear : GoodIn wsX3_spawn (wsV RX3 56 RX2 yX2_appear wsX2_appear) := goodIn_app (goodIn_of _ (by decide +kernel)) ggX3_spawn_X2_appear
theorem dX3_spawn_0 : decode cX3_spawn 0 = .ok (.aload_n 0, 1) := by decide +kernel
theorem dX3_spawn_1 : decode cX3_spawn 1 = .ok (.getfield 18, 3) := by decide +kernel
theorem dX3_spawn_4 : decode cX3_spawn 4 = .ok (.iload_n 1, 1) := by decide +kernel
theorem dX3_spawn_5 : decode cX3_spawn 5 = .ok (.iload_n 2, 1) := by decide +kernel
theorem dX3_spawn_6 : decode cX3_spawn 6 = .ok (.invokevirtual 49, 3) := by decide +kernel
theorem dX3_spawn_9 : decode cX3_spawn 9 = .ok (.ifCond .ne 6, 3) := by decide +kernel
theorem dX3_spawn_12 : decode cX3_spawn 12 = .ok (.bipush (-2), 2) := by decide +kernel
theorem dX3_spawn_14 : decode cX3_spawn 14 = .ok (.ireturn, 1) := by decide +kernel
theorem dX3_spawn_15 : decode cX3_spawn 15 = .ok (.aload_n 0, 1) := by decide +kernel
theorem dX3_spawn_16 : decode cX3_spawn 16 = .ok (.iload_n 1, 1) := by decide +kernel
theorem dX3_spawn_17 : decode cX3_spawn 17 = .ok (.iload_n 2, 1) := by decide +kernel
theorem dX3_spawn_18 : decode cX3_spawn 18 = .ok (.invokevirtual 38, 3) := by decide +kernel
theorem dX3_spawn_21 : decode cX3_spawn 21 = .ok (.ifnull 6, 3) := by decide +kernel
theorem dX3_spawn_24 : decode cX3_spawn 24 = .ok (.bipush (-4), 2) := by decide +kernel
theorem dX3_spawn_26 : decode cX3_spawn 26 = .ok (.ireturn, 1) := by decide +kernel
theorem dX3_spawn_27 : decode cX3_spawn 27 = .ok (.iconst 0, 1) := by decide +kernel
theorem dX3_spawn_28 : decode cX3_spawn 28 = .ok (.istore_n 3, 1) := by decide +kernel
theorem dX3_spawn_29 : decode cX3_spawn 29 = .ok (.iload_n 3, 1) := by decide +kernel
theorem dX3_spawn_30 : decode cX3_spawn 30 = .ok (.aload_n 0, 1) := by decide +kernel
theorem dX3_spawn_31 : decode cX3_spawn 31 = .ok (.getfield 24, 3) := by decide +kernel
theorem dX3_spawn_34 : decode cX3_spawn 34 = .ok (.arraylength, 1) := by decide +kernel
theorem dX3_spawn_35 : decode cX3_spawn 35 = .ok (.if_icmp .ge 34, 3) := by decide +kernel
theorem dX3_spawn_38 : decode cX3_spawn 38 = .ok (.aload_n 0, 1) := by decide +kernel
theorem dX3_spawn_39 : decode cX3_spawn 39 = .ok (.getfield 24, 3) := by decide +kernel
theorem dX3_spawn_42 : decode cX3_spawn 42 = .ok (.iload_n 3, 1) := by decide +kernel
theorem dX3_spawn_43 : decode cX3_spawn 43 = .ok (.aaload, 1) := by decide +kernel
theorem dX3_spawn_44 : decode cX3_spawn 44 = .ok (.getfield 52, 3) := by decide +kernel
theorem dX3_spawn_47 : decode cX3_spawn 47 = .ok (.ifCond .ne 16, 3) := by decide +kernel
theorem dX3_spawn_50 : decode cX3_spawn 50 = .ok (.aload_n 0, 1) := by decide +kernel
theorem dX3_spawn_51 : decode cX3_spawn 51 = .ok (.getfield 24, 3) := by decide +kernel
theorem dX3_spawn_54 : decode cX3_spawn 54 = .ok (.iload_n 3, 1) := by decide +kernel
theorem dX3_spawn_55 : decode cX3_spawn 55 = .ok (.aaload, 1) := by decide +kernel
theorem dX3_spawn_56 : decode cX3_spawn 56 = .ok (.iload_n 1, 1) := by decide +kernel
theorem dX3_spawn_57 : decode cX3_spawn 57 = .ok (.iload_n 2, 1) := by decide +kernel
theorem dX3_spawn_58 : decode cX3_spawn 58 = .ok (.invokevirtual 56, 3) := by decide +kernel
theorem dX3_spawn_61 : decode cX3_spawn 61 = .ok (.iload_n 3, 1) := by decide +kernel
theorem dX3_spawn_62 : decode cX3_spawn 62 = .ok (.ireturn, 1) := by decide +kernel
theorem dX3_spawn_63 : decode cX3_spawn 63 = .ok (.iinc 3 1, 3) := by decide +kernel
theorem dX3_spawn_66 : decode cX3_spawn 66 = .ok (.goto (-37), 3) := by decide +kernel
theorem dX3_spawn_69 : decode cX3_spawn 69 = .ok (.bipush (-3), 2) := by decide +kernel
theorem dX3_spawn_71 : decode cX3_spawn 71 = .ok (.ireturn, 1) := by decide +kernel
set_option maxRecDepth 20000 in
theorem ggX3_load_X3_robotOf : GoodIn wsX3_load wsX3_robotOf := goodIn_r _ [6, 7, 1, 8, 9, 10, 5, 11, 31, 32, 33, 34, 19, 20, 21, 22, 23, 24, 25, 26, 27, 28, 29, 30] (by decide +kernel) (by decide +kernel)
set_option maxRecDepth 20000 in
theorem gX3_load_X3_robotOf : GoodIn wsX3_load (wsV RX3 59 RX3 yX3_robotOf wsX3_robotOf) := goodIn_app (goodIn_of _ (by decide +kernel)) ggX3_load_X3_robotOf
set_option maxRecDepth 20000 in
theorem ggX3_load_X2_addWord : GoodIn wsX3_load wsX2_addWord := goodIn_r _ [16, 17, 18, 19, 20, 21, 22, 23, 24, 25, 26, 27, 28, 29, 30] (by decide +kernel) (by decide +kernel)
set_option maxRecDepth 20000 in
theorem gX3_load_X2_addWord : GoodIn wsX3_load (wsV RX3 63 RX2 yX2_addWord wsX2_addWord) := goodIn_app (goodIn_of _ (by decide +kernel)) ggX3_load_X2_addWord
theorem dX3_load_0 : decode cX3_load 0 = .ok (.aload_n 0, 1) := by decide +kernel
theorem dX3_load_1 : decode cX3_load 1 = .ok (.iload_n 1, 1) := by decide +kernel
theorem dX3_load_2 : decode cX3_load 2 = .ok (.invokevirtual 59, 3) := by decide +kernel
theorem dX3_load_5 : decode cX3_load 5 = .ok (.astore_n 3, 1) := by decide +kernel
theorem dX3_load_6 : decode cX3_load 6 = .ok (.aload_n 3, 1) := by decide +kernel
theorem dX3_load_7 : decode cX3_load 7 = .ok (.ifnull 23, 3) := by decide +kernel
theorem dX3_load_10 : decode cX3_load 10 = .ok (.aload_n 3, 1) := by decide +kernel
theorem dX3_load_11 : decode cX3_load 11 = .ok (.getfield 52, 3) := by decide +kernel
theorem dX3_load_14 : decode cX3_load 14 = .ok (.iconst 1, 1) := by decide +kernel
theorem dX3_load_15 : decode cX3_load 15 = .ok (.if_icmp .ne 15, 3) := by decide +kernel
theorem dX3_load_18 : decode cX3_load 18 = .ok (.aload_n 3, 1) := by decide +kernel
theorem dX3_load_19 : decode cX3_load 19 = .ok (.iload_n 2, 1) := by decide +kernel
theorem dX3_load_20 : decode cX3_load 20 = .ok (.invokevirtual 63, 3) := by decide +kernel
theorem dX3_load_23 : decode cX3_load 23 = .ok (.ifCond .eq 7, 3) := by decide +kernel
theorem dX3_load_26 : decode cX3_load 26 = .ok (.iconst 1, 1) := by decide +kernel
theorem dX3_load_27 : decode cX3_load 27 = .ok (.goto 4, 3) := by decide +kernel
theorem dX3_load_30 : decode cX3_load 30 = .ok (.iconst 0, 1) := by decide +kernel
theorem dX3_load_31 : decode cX3_load 31 = .ok (.ireturn, 1) := by decide +kernel
set_option maxRecDepth 20000 in
theorem ggX3_startRobot_X3_robotOf : GoodIn wsX3_startRobot wsX3_robotOf := goodIn_r _ [6, 7, 1, 8, 9, 10, 5, 11, 24, 25, 26, 27, 12, 13, 14, 15, 16, 17, 18, 19, 20, 21, 22, 23] (by decide +kernel) (by decide +kernel)
set_option maxRecDepth 20000 in
theorem gX3_startRobot_X3_robotOf : GoodIn wsX3_startRobot (wsV RX3 59 RX3 yX3_robotOf wsX3_robotOf) := goodIn_app (goodIn_of _ (by decide +kernel)) ggX3_startRobot_X3_robotOf
theorem dX3_startRobot_0 : decode cX3_startRobot 0 = .ok (.aload_n 0, 1) := by decide +kernel
theorem dX3_startRobot_1 : decode cX3_startRobot 1 = .ok (.iload_n 1, 1) := by decide +kernel
theorem dX3_startRobot_2 : decode cX3_startRobot 2 = .ok (.invokevirtual 59, 3) := by decide +kernel
theorem dX3_startRobot_5 : decode cX3_startRobot 5 = .ok (.astore_n 2, 1) := by decide +kernel
theorem dX3_startRobot_6 : decode cX3_startRobot 6 = .ok (.aload_n 2, 1) := by decide +kernel
theorem dX3_startRobot_7 : decode cX3_startRobot 7 = .ok (.ifnull 11, 3) := by decide +kernel
theorem dX3_startRobot_10 : decode cX3_startRobot 10 = .ok (.aload_n 2, 1) := by decide +kernel
theorem dX3_startRobot_11 : decode cX3_startRobot 11 = .ok (.getfield 52, 3) := by decide +kernel
theorem dX3_startRobot_14 : decode cX3_startRobot 14 = .ok (.iconst 1, 1) := by decide +kernel
theorem dX3_startRobot_15 : decode cX3_startRobot 15 = .ok (.if_icmp .eq 6, 3) := by decide +kernel
theorem dX3_startRobot_18 : decode cX3_startRobot 18 = .ok (.bipush (-2), 2) := by decide +kernel
theorem dX3_startRobot_20 : decode cX3_startRobot 20 = .ok (.ireturn, 1) := by decide +kernel
theorem dX3_startRobot_21 : decode cX3_startRobot 21 = .ok (.aload_n 2, 1) := by decide +kernel
theorem dX3_startRobot_22 : decode cX3_startRobot 22 = .ok (.iconst 2, 1) := by decide +kernel
theorem dX3_startRobot_23 : decode cX3_startRobot 23 = .ok (.putfield 52, 3) := by decide +kernel
theorem dX3_startRobot_26 : decode cX3_startRobot 26 = .ok (.iconst 1, 1) := by decide +kernel
theorem dX3_startRobot_27 : decode cX3_startRobot 27 = .ok (.ireturn, 1) := by decide +kernel
set_option maxRecDepth 20000 in
theorem ggX3_tick_X2_sleepOn : GoodIn wsX3_tick wsX2_sleepOn := goodIn_r _ [10, 11, 12, 168, 169, 170, 171, 172, 173, 174, 175, 176, 177, 178, 179] (by decide +kernel) (by decide +kernel)
set_option maxRecDepth 20000 in
theorem gX3_tick_X2_sleepOn : GoodIn wsX3_tick (wsV RX3 67 RX2 yX2_sleepOn wsX2_sleepOn) := goodIn_app (goodIn_of _ (by decide +kernel)) ggX3_tick_X2_sleepOn
set_option maxRecDepth 20000 in
theorem ggX3_tick_X3_nextReady : GoodIn wsX3_tick wsX3_nextReady := goodIn_r _ [17, 3, 1, 4, 18, 19, 20, 16, 21, 164, 165, 166, 167, 168, 169, 170, 171, 172, 173, 174, 175, 176, 177, 178, 179] (by decide +kernel) (by decide +kernel)
set_option maxRecDepth 20000 in
theorem gX3_tick_X3_nextReady : GoodIn wsX3_tick (wsV RX3 70 RX3 yX3_nextReady wsX3_nextReady) := goodIn_app (goodIn_of _ (by decide +kernel)) ggX3_tick_X3_nextReady
set_option maxRecDepth 20000 in
theorem ggX3_tick_X2_mustFail : GoodIn wsX3_tick wsX2_mustFail := goodIn_r _ [25, 26, 27, 28, 29, 30, 16, 31, 32, 33, 34, 35, 168, 169, 170, 171, 172, 173, 174, 175, 176, 177, 178, 179] (by decide +kernel) (by decide +kernel)
set_option maxRecDepth 20000 in
theorem gX3_tick_X2_mustFail : GoodIn wsX3_tick (wsV RX3 80 RX2 yX2_mustFail wsX2_mustFail) := goodIn_app (goodIn_of _ (by decide +kernel)) ggX3_tick_X2_mustFail
set_option maxRecDepth 20000 in
theorem ggX3_tick_X3_doWord_k0 : GoodIn wsX3_tick ((wsX3_doWord.drop 0).take 20) := goodIn_r _ [39, 40, 41, 42, 4, 43, 44, 45, 2, 5, 46, 47, 48, 30, 16, 31, 49, 34, 35, 50] (by decide +kernel) (by decide +kernel)
set_option maxRecDepth 20000 in
theorem ggX3_tick_X3_doWord_k1 : GoodIn wsX3_tick ((wsX3_doWord.drop 20).take 20) := goodIn_r _ [32, 33, 51, 52, 53, 54, 55, 56, 57, 58, 59, 60, 61, 62, 63, 64, 65, 66, 67, 68] (by decide +kernel) (by decide +kernel)
set_option maxRecDepth 20000 in
theorem ggX3_tick_X3_doWord_k2 : GoodIn wsX3_tick ((wsX3_doWord.drop 40).take 20) := goodIn_r _ [1, 69, 70, 71, 72, 73, 74, 75, 76, 77, 78, 79, 80, 81, 82, 83, 84, 85, 86, 87] (by decide +kernel) (by decide +kernel)
set_option maxRecDepth 20000 in
theorem ggX3_tick_X3_doWord_k3 : GoodIn wsX3_tick ((wsX3_doWord.drop 60).take 20) := goodIn_r _ [88, 89, 90, 91, 92, 93, 94, 95, 96, 97, 98, 99, 100, 101, 102, 103, 104, 105, 106, 107] (by decide +kernel) (by decide +kernel)
set_option maxRecDepth 20000 in
theorem ggX3_tick_X3_doWord_k4 : GoodIn wsX3_tick ((wsX3_doWord.drop 80).take 20) := goodIn_r _ [108, 109, 110, 18, 19, 20, 21, 111, 112, 113, 9, 114, 11, 115, 116, 117, 118, 119, 120, 121] (by decide +kernel) (by decide +kernel)
set_option maxRecDepth 20000 in
theorem ggX3_tick_X3_doWord_k5 : GoodIn wsX3_tick ((wsX3_doWord.drop 100).take 20) := goodIn_r _ [122, 123, 124, 125, 126, 127, 128, 129, 130, 131, 132, 133, 134, 135, 136, 137, 12, 138, 139, 140] (by decide +kernel) (by decide +kernel)
set_option maxRecDepth 20000 in
theorem ggX3_tick_X3_doWord_k6 : GoodIn wsX3_tick ((wsX3_doWord.drop 120).take 20) := goodIn_r _ [141, 142, 143, 144, 145, 146, 147, 148, 149, 150, 151, 152, 153, 154, 155, 156, 157, 158, 159, 160] (by decide +kernel) (by decide +kernel)
set_option maxRecDepth 20000 in
theorem ggX3_tick_X3_doWord_k7 : GoodIn wsX3_tick ((wsX3_doWord.drop 140).take 20) := goodIn_r _ [161, 162, 163, 168, 169, 170, 171, 172, 173, 174, 175, 176, 177, 178, 179, 164, 165, 166, 167, 180] (by decide +kernel) (by decide +kernel)
set_option maxRecDepth 20000 in
theorem ggX3_tick_X3_doWord_k8 : GoodIn wsX3_tick (wsX3_doWord.drop 160) := goodIn_r _ [181, 182, 183, 184, 185, 186, 187] (by decide +kernel) (by decide +kernel)
set_option maxRecDepth 20000 in
theorem ggX3_tick_X3_doWord : GoodIn wsX3_tick wsX3_doWord := (goodIn_spl (a := 0) (b := 20) ggX3_tick_X3_doWord_k0 (goodIn_spl (a := 20) (b := 20) ggX3_tick_X3_doWord_k1 (goodIn_spl (a := 40) (b := 20) ggX3_tick_X3_doWord_k2 (goodIn_spl (a := 60) (b := 20) ggX3_tick_X3_doWord_k3 (goodIn_spl (a := 80) (b := 20) ggX3_tick_X3_doWord_k4 (goodIn_spl (a := 100) (b := 20) ggX3_tick_X3_doWord_k5 (goodIn_spl (a := 120) (b := 20) ggX3_tick_X3_doWord_k6 (goodIn_spl (a := 140) (b := 20) ggX3_tick_X3_doWord_k7 ggX3_tick_X3_doWord_k8))))))))
set_option maxRecDepth 20000 in
theorem gX3_tick_X3_doWord : GoodIn wsX3_tick (wsV RX3 84 RX3 yX3_doWord wsX3_doWord) := goodIn_app (goodIn_of _ (by decide +kernel)) ggX3_tick_X3_doWord
theorem dX3_tick_0 : decode cX3_tick 0 = .ok (.iconst 0, 1) := by decide +kernel
theorem dX3_tick_1 : decode cX3_tick 1 = .ok (.istore_n 1, 1) := by decide +kernel
theorem dX3_tick_2 : decode cX3_tick 2 = .ok (.iload_n 1, 1) := by decide +kernel
theorem dX3_tick_3 : decode cX3_tick 3 = .ok (.aload_n 0, 1) := by decide +kernel
theorem dX3_tick_4 : decode cX3_tick 4 = .ok (.getfield 24, 3) := by decide +kernel
theorem dX3_tick_7 : decode cX3_tick 7 = .ok (.arraylength, 1) := by decide +kernel
theorem dX3_tick_8 : decode cX3_tick 8 = .ok (.if_icmp .ge 18, 3) := by decide +kernel
theorem dX3_tick_11 : decode cX3_tick 11 = .ok (.aload_n 0, 1) := by decide +kernel
theorem dX3_tick_12 : decode cX3_tick 12 = .ok (.getfield 24, 3) := by decide +kernel
theorem dX3_tick_15 : decode cX3_tick 15 = .ok (.iload_n 1, 1) := by decide +kernel
theorem dX3_tick_16 : decode cX3_tick 16 = .ok (.aaload, 1) := by decide +kernel
theorem dX3_tick_17 : decode cX3_tick 17 = .ok (.invokevirtual 67, 3) := by decide +kernel
theorem dX3_tick_20 : decode cX3_tick 20 = .ok (.iinc 1 1, 3) := by decide +kernel
theorem dX3_tick_23 : decode cX3_tick 23 = .ok (.goto (-21), 3) := by decide +kernel
theorem dX3_tick_26 : decode cX3_tick 26 = .ok (.aload_n 0, 1) := by decide +kernel
theorem dX3_tick_27 : decode cX3_tick 27 = .ok (.invokevirtual 70, 3) := by decide +kernel
theorem dX3_tick_30 : decode cX3_tick 30 = .ok (.astore_n 1, 1) := by decide +kernel
theorem dX3_tick_31 : decode cX3_tick 31 = .ok (.aload_n 1, 1) := by decide +kernel
theorem dX3_tick_32 : decode cX3_tick 32 = .ok (.ifnull 32, 3) := by decide +kernel
theorem dX3_tick_35 : decode cX3_tick 35 = .ok (.aload_n 0, 1) := by decide +kernel
theorem dX3_tick_36 : decode cX3_tick 36 = .ok (.aload_n 1, 1) := by decide +kernel
theorem dX3_tick_37 : decode cX3_tick 37 = .ok (.getfield 74, 3) := by decide +kernel
theorem dX3_tick_40 : decode cX3_tick 40 = .ok (.putfield 77, 3) := by decide +kernel
theorem dX3_tick_43 : decode cX3_tick 43 = .ok (.aload_n 1, 1) := by decide +kernel
theorem dX3_tick_44 : decode cX3_tick 44 = .ok (.invokevirtual 80, 3) := by decide +kernel
theorem dX3_tick_47 : decode cX3_tick 47 = .ok (.ifCond .eq 12, 3) := by decide +kernel
theorem dX3_tick_50 : decode cX3_tick 50 = .ok (.aload_n 1, 1) := by decide +kernel
theorem dX3_tick_51 : decode cX3_tick 51 = .ok (.bipush 6, 2) := by decide +kernel
theorem dX3_tick_53 : decode cX3_tick 53 = .ok (.putfield 52, 3) := by decide +kernel
theorem dX3_tick_56 : decode cX3_tick 56 = .ok (.goto 8, 3) := by decide +kernel
theorem dX3_tick_59 : decode cX3_tick 59 = .ok (.aload_n 0, 1) := by decide +kernel
theorem dX3_tick_60 : decode cX3_tick 60 = .ok (.aload_n 1, 1) := by decide +kernel
theorem dX3_tick_61 : decode cX3_tick 61 = .ok (.invokevirtual 84, 3) := by decide +kernel
theorem dX3_tick_64 : decode cX3_tick 64 = .ok (.aload_n 0, 1) := by decide +kernel
theorem dX3_tick_65 : decode cX3_tick 65 = .ok (.dup, 1) := by decide +kernel
theorem dX3_tick_66 : decode cX3_tick 66 = .ok (.getfield 88, 3) := by decide +kernel
theorem dX3_tick_69 : decode cX3_tick 69 = .ok (.iconst 1, 1) := by decide +kernel
theorem dX3_tick_70 : decode cX3_tick 70 = .ok (.iadd, 1) := by decide +kernel
theorem dX3_tick_71 : decode cX3_tick 71 = .ok (.putfield 88, 3) := by decide +kernel
theorem dX3_tick_74 : decode cX3_tick 74 = .ok (.aload_n 1, 1) := by decide +kernel
theorem dX3_tick_75 : decode cX3_tick 75 = .ok (.ifnonnull 7, 3) := by decide +kernel
theorem dX3_tick_78 : decode cX3_tick 78 = .ok (.iconst (-1), 1) := by decide +kernel
theorem dX3_tick_79 : decode cX3_tick 79 = .ok (.goto 7, 3) := by decide +kernel
theorem dX3_tick_82 : decode cX3_tick 82 = .ok (.aload_n 1, 1) := by decide +kernel
theorem dX3_tick_83 : decode cX3_tick 83 = .ok (.getfield 74, 3) := by decide +kernel
theorem dX3_tick_86 : decode cX3_tick 86 = .ok (.ireturn, 1) := by decide +kernel
set_option maxRecDepth 20000 in
theorem ggX3_runTicks_X3_tick_k0 : GoodIn wsX3_runTicks ((wsX3_tick.drop 0).take 20) := goodIn_r _ [5, 6, 7, 8, 9, 10, 11, 12, 13, 14, 15, 16, 17, 18, 19, 20, 4, 21, 22, 23] (by decide +kernel) (by decide +kernel)
set_option maxRecDepth 20000 in
theorem ggX3_runTicks_X3_tick_k1 : GoodIn wsX3_runTicks ((wsX3_tick.drop 20).take 20) := goodIn_r _ [24, 25, 26, 27, 28, 29, 30, 31, 32, 33, 34, 35, 36, 37, 38, 39, 40, 41, 42, 43] (by decide +kernel) (by decide +kernel)
set_option maxRecDepth 20000 in
theorem ggX3_runTicks_X3_tick_k2 : GoodIn wsX3_runTicks ((wsX3_tick.drop 40).take 20) := goodIn_r _ [44, 45, 46, 47, 48, 49, 50, 51, 52, 53, 54, 55, 56, 57, 58, 59, 60, 61, 62, 63] (by decide +kernel) (by decide +kernel)
set_option maxRecDepth 20000 in
theorem ggX3_runTicks_X3_tick_k3 : GoodIn wsX3_runTicks ((wsX3_tick.drop 60).take 20) := goodIn_r _ [64, 65, 66, 67, 68, 69, 70, 71, 72, 73, 74, 75, 76, 77, 78, 79, 80, 81, 82, 83] (by decide +kernel) (by decide +kernel)
set_option maxRecDepth 20000 in
theorem ggX3_runTicks_X3_tick_k4 : GoodIn wsX3_runTicks ((wsX3_tick.drop 80).take 20) := goodIn_r _ [84, 85, 86, 87, 88, 89, 90, 91, 92, 93, 94, 95, 96, 97, 98, 99, 100, 101, 102, 103] (by decide +kernel) (by decide +kernel)
set_option maxRecDepth 20000 in
theorem ggX3_runTicks_X3_tick_k5 : GoodIn wsX3_runTicks ((wsX3_tick.drop 100).take 20) := goodIn_r _ [104, 105, 106, 107, 108, 109, 110, 111, 112, 113, 114, 115, 116, 117, 118, 119, 120, 121, 122, 123] (by decide +kernel) (by decide +kernel)
set_option maxRecDepth 20000 in
theorem ggX3_runTicks_X3_tick_k6 : GoodIn wsX3_runTicks ((wsX3_tick.drop 120).take 20) := goodIn_r _ [124, 125, 126, 127, 128, 129, 130, 131, 132, 133, 134, 135, 136, 137, 138, 139, 140, 141, 142, 143] (by decide +kernel) (by decide +kernel)
set_option maxRecDepth 20000 in
theorem ggX3_runTicks_X3_tick_k7 : GoodIn wsX3_runTicks ((wsX3_tick.drop 140).take 20) := goodIn_r _ [144, 145, 146, 147, 148, 149, 150, 151, 152, 153, 154, 155, 156, 157, 158, 159, 160, 161, 162, 163] (by decide +kernel) (by decide +kernel)
set_option maxRecDepth 20000 in
theorem ggX3_runTicks_X3_tick_k8 : GoodIn wsX3_runTicks ((wsX3_tick.drop 160).take 20) := goodIn_r _ [164, 165, 166, 167, 168, 169, 170, 171, 172, 173, 174, 175, 176, 177, 178, 179, 180, 181, 182, 183] (by decide +kernel) (by decide +kernel)
set_option maxRecDepth 20000 in
theorem ggX3_runTicks_X3_tick_k9 : GoodIn wsX3_runTicks (wsX3_tick.drop 180) := goodIn_r _ [184, 185, 186, 187, 188, 189, 190, 191] (by decide +kernel) (by decide +kernel)
set_option maxRecDepth 20000 in
theorem ggX3_runTicks_X3_tick : GoodIn wsX3_runTicks wsX3_tick := (goodIn_spl (a := 0) (b := 20) ggX3_runTicks_X3_tick_k0 (goodIn_spl (a := 20) (b := 20) ggX3_runTicks_X3_tick_k1 (goodIn_spl (a := 40) (b := 20) ggX3_runTicks_X3_tick_k2 (goodIn_spl (a := 60) (b := 20) ggX3_runTicks_X3_tick_k3 (goodIn_spl (a := 80) (b := 20) ggX3_runTicks_X3_tick_k4 (goodIn_spl (a := 100) (b := 20) ggX3_runTicks_X3_tick_k5 (goodIn_spl (a := 120) (b := 20) ggX3_runTicks_X3_tick_k6 (goodIn_spl (a := 140) (b := 20) ggX3_runTicks_X3_tick_k7 (goodIn_spl (a := 160) (b := 20) ggX3_runTicks_X3_tick_k8 ggX3_runTicks_X3_tick_k9)))))))))
set_option maxRecDepth 20000 in
theorem gX3_runTicks_X3_tick : GoodIn wsX3_runTicks (wsV RX3 91 RX3 yX3_tick wsX3_tick) := goodIn_app (goodIn_of _ (by decide +kernel)) ggX3_runTicks_X3_tick
theorem dX3_runTicks_0 : decode cX3_runTicks 0 = .ok (.iload_n 1, 1) := by decide +kernel
theorem dX3_runTicks_1 : decode cX3_runTicks 1 = .ok (.ifCond .lt 10, 3) := by decide +kernel
theorem dX3_runTicks_4 : decode cX3_runTicks 4 = .ok (.iload_n 1, 1) := by decide +kernel
theorem dX3_runTicks_5 : decode cX3_runTicks 5 = .ok (.sipush 10000, 3) := by decide +kernel
theorem dX3_runTicks_8 : decode cX3_runTicks 8 = .ok (.if_icmp .le 6, 3) := by decide +kernel
theorem dX3_runTicks_11 : decode cX3_runTicks 11 = .ok (.bipush (-2), 2) := by decide +kernel
theorem dX3_runTicks_13 : decode cX3_runTicks 13 = .ok (.ireturn, 1) := by decide +kernel
theorem dX3_runTicks_14 : decode cX3_runTicks 14 = .ok (.iconst 0, 1) := by decide +kernel
theorem dX3_runTicks_15 : decode cX3_runTicks 15 = .ok (.istore_n 2, 1) := by decide +kernel
theorem dX3_runTicks_16 : decode cX3_runTicks 16 = .ok (.iconst 0, 1) := by decide +kernel
theorem dX3_runTicks_17 : decode cX3_runTicks 17 = .ok (.istore_n 3, 1) := by decide +kernel
theorem dX3_runTicks_18 : decode cX3_runTicks 18 = .ok (.iload_n 3, 1) := by decide +kernel
theorem dX3_runTicks_19 : decode cX3_runTicks 19 = .ok (.iload_n 1, 1) := by decide +kernel
theorem dX3_runTicks_20 : decode cX3_runTicks 20 = .ok (.if_icmp .ge 20, 3) := by decide +kernel
theorem dX3_runTicks_23 : decode cX3_runTicks 23 = .ok (.aload_n 0, 1) := by decide +kernel
theorem dX3_runTicks_24 : decode cX3_runTicks 24 = .ok (.invokevirtual 91, 3) := by decide +kernel
theorem dX3_runTicks_27 : decode cX3_runTicks 27 = .ok (.iconst (-1), 1) := by decide +kernel
theorem dX3_runTicks_28 : decode cX3_runTicks 28 = .ok (.if_icmp .eq 6, 3) := by decide +kernel
theorem dX3_runTicks_31 : decode cX3_runTicks 31 = .ok (.iinc 2 1, 3) := by decide +kernel
theorem dX3_runTicks_34 : decode cX3_runTicks 34 = .ok (.iinc 3 1, 3) := by decide +kernel
theorem dX3_runTicks_37 : decode cX3_runTicks 37 = .ok (.goto (-19), 3) := by decide +kernel
theorem dX3_runTicks_40 : decode cX3_runTicks 40 = .ok (.iload_n 2, 1) := by decide +kernel
theorem dX3_runTicks_41 : decode cX3_runTicks 41 = .ok (.ireturn, 1) := by decide +kernel
set_option maxRecDepth 20000 in
theorem ggX3_kill_X3_robotOf : GoodIn wsX3_kill wsX3_robotOf := goodIn_r _ [10, 11, 5, 12, 13, 14, 9, 15, 40, 41, 42, 43, 28, 29, 30, 31, 32, 33, 34, 35, 36, 37, 38, 39] (by decide +kernel) (by decide +kernel)
set_option maxRecDepth 20000 in
theorem gX3_kill_X3_robotOf : GoodIn wsX3_kill (wsV RX3 59 RX3 yX3_robotOf wsX3_robotOf) := goodIn_app (goodIn_of _ (by decide +kernel)) ggX3_kill_X3_robotOf
set_option maxRecDepth 20000 in
theorem ggX3_kill_X1_addItem : GoodIn wsX3_kill wsX1_addItem := goodIn_r _ [20, 21, 22, 23, 24, 25, 19, 26, 27, 44, 45, 46, 47, 48, 49] (by decide +kernel) (by decide +kernel)
set_option maxRecDepth 20000 in
theorem gX3_kill_X1_addItem : GoodIn wsX3_kill (wsV RX3 46 RX1 yX1_addItem wsX1_addItem) := goodIn_app (goodIn_of _ (by decide +kernel)) ggX3_kill_X1_addItem
theorem dX3_kill_0 : decode cX3_kill 0 = .ok (.aload_n 0, 1) := by decide +kernel
theorem dX3_kill_1 : decode cX3_kill 1 = .ok (.iload_n 1, 1) := by decide +kernel
theorem dX3_kill_2 : decode cX3_kill 2 = .ok (.invokevirtual 59, 3) := by decide +kernel
theorem dX3_kill_5 : decode cX3_kill 5 = .ok (.astore_n 2, 1) := by decide +kernel
theorem dX3_kill_6 : decode cX3_kill 6 = .ok (.aload_n 2, 1) := by decide +kernel
theorem dX3_kill_7 : decode cX3_kill 7 = .ok (.ifnonnull 6, 3) := by decide +kernel
theorem dX3_kill_10 : decode cX3_kill 10 = .ok (.bipush (-2), 2) := by decide +kernel
theorem dX3_kill_12 : decode cX3_kill 12 = .ok (.ireturn, 1) := by decide +kernel
theorem dX3_kill_13 : decode cX3_kill 13 = .ok (.aload_n 2, 1) := by decide +kernel
theorem dX3_kill_14 : decode cX3_kill 14 = .ok (.getfield 95, 3) := by decide +kernel
theorem dX3_kill_17 : decode cX3_kill 17 = .ok (.istore_n 3, 1) := by decide +kernel
theorem dX3_kill_18 : decode cX3_kill 18 = .ok (.iconst 0, 1) := by decide +kernel
theorem dX3_kill_19 : decode cX3_kill 19 = .ok (.istore 4, 2) := by decide +kernel
theorem dX3_kill_21 : decode cX3_kill 21 = .ok (.iload 4, 2) := by decide +kernel
theorem dX3_kill_23 : decode cX3_kill 23 = .ok (.iload_n 3, 1) := by decide +kernel
theorem dX3_kill_24 : decode cX3_kill 24 = .ok (.if_icmp .ge 25, 3) := by decide +kernel
theorem dX3_kill_27 : decode cX3_kill 27 = .ok (.aload_n 0, 1) := by decide +kernel
theorem dX3_kill_28 : decode cX3_kill 28 = .ok (.getfield 18, 3) := by decide +kernel
theorem dX3_kill_31 : decode cX3_kill 31 = .ok (.aload_n 2, 1) := by decide +kernel
theorem dX3_kill_32 : decode cX3_kill 32 = .ok (.getfield 98, 3) := by decide +kernel
theorem dX3_kill_35 : decode cX3_kill 35 = .ok (.aload_n 2, 1) := by decide +kernel
theorem dX3_kill_36 : decode cX3_kill 36 = .ok (.getfield 101, 3) := by decide +kernel
theorem dX3_kill_39 : decode cX3_kill 39 = .ok (.invokevirtual 46, 3) := by decide +kernel
theorem dX3_kill_42 : decode cX3_kill 42 = .ok (.pop, 1) := by decide +kernel
theorem dX3_kill_43 : decode cX3_kill 43 = .ok (.iinc 4 1, 3) := by decide +kernel
theorem dX3_kill_46 : decode cX3_kill 46 = .ok (.goto (-25), 3) := by decide +kernel
theorem dX3_kill_49 : decode cX3_kill 49 = .ok (.aload_n 2, 1) := by decide +kernel
theorem dX3_kill_50 : decode cX3_kill 50 = .ok (.iconst 0, 1) := by decide +kernel
theorem dX3_kill_51 : decode cX3_kill 51 = .ok (.putfield 52, 3) := by decide +kernel
theorem dX3_kill_54 : decode cX3_kill 54 = .ok (.iload_n 3, 1) := by decide +kernel
theorem dX3_kill_55 : decode cX3_kill 55 = .ok (.ireturn, 1) := by decide +kernel
set_option maxRecDepth 20000 in
theorem ggX3_robotX_X3_robotOf : GoodIn wsX3_robotX wsX3_robotOf := goodIn_r _ [6, 7, 8, 9, 10, 11, 5, 12, 25, 26, 27, 28, 13, 14, 15, 16, 17, 18, 19, 20, 21, 22, 23, 24] (by decide +kernel) (by decide +kernel)
set_option maxRecDepth 20000 in
theorem gX3_robotX_X3_robotOf : GoodIn wsX3_robotX (wsV RX3 59 RX3 yX3_robotOf wsX3_robotOf) := goodIn_app (goodIn_of _ (by decide +kernel)) ggX3_robotX_X3_robotOf
theorem dX3_robotX_0 : decode cX3_robotX 0 = .ok (.aload_n 0, 1) := by decide +kernel
theorem dX3_robotX_1 : decode cX3_robotX 1 = .ok (.iload_n 1, 1) := by decide +kernel
theorem dX3_robotX_2 : decode cX3_robotX 2 = .ok (.invokevirtual 59, 3) := by decide +kernel
theorem dX3_robotX_5 : decode cX3_robotX 5 = .ok (.astore_n 2, 1) := by decide +kernel
theorem dX3_robotX_6 : decode cX3_robotX 6 = .ok (.aload_n 2, 1) := by decide +kernel
theorem dX3_robotX_7 : decode cX3_robotX 7 = .ok (.ifnonnull 7, 3) := by decide +kernel
theorem dX3_robotX_10 : decode cX3_robotX 10 = .ok (.iconst (-1), 1) := by decide +kernel
theorem dX3_robotX_11 : decode cX3_robotX 11 = .ok (.goto 7, 3) := by decide +kernel
theorem dX3_robotX_14 : decode cX3_robotX 14 = .ok (.aload_n 2, 1) := by decide +kernel
theorem dX3_robotX_15 : decode cX3_robotX 15 = .ok (.getfield 98, 3) := by decide +kernel
theorem dX3_robotX_18 : decode cX3_robotX 18 = .ok (.ireturn, 1) := by decide +kernel
set_option maxRecDepth 20000 in
theorem ggX3_robotY_X3_robotOf : GoodIn wsX3_robotY wsX3_robotOf := goodIn_r _ [6, 7, 8, 9, 10, 11, 5, 12, 25, 26, 27, 28, 13, 14, 15, 16, 17, 18, 19, 20, 21, 22, 23, 24] (by decide +kernel) (by decide +kernel)
set_option maxRecDepth 20000 in
theorem gX3_robotY_X3_robotOf : GoodIn wsX3_robotY (wsV RX3 59 RX3 yX3_robotOf wsX3_robotOf) := goodIn_app (goodIn_of _ (by decide +kernel)) ggX3_robotY_X3_robotOf
theorem dX3_robotY_0 : decode cX3_robotY 0 = .ok (.aload_n 0, 1) := by decide +kernel
theorem dX3_robotY_1 : decode cX3_robotY 1 = .ok (.iload_n 1, 1) := by decide +kernel
theorem dX3_robotY_2 : decode cX3_robotY 2 = .ok (.invokevirtual 59, 3) := by decide +kernel
theorem dX3_robotY_5 : decode cX3_robotY 5 = .ok (.astore_n 2, 1) := by decide +kernel
theorem dX3_robotY_6 : decode cX3_robotY 6 = .ok (.aload_n 2, 1) := by decide +kernel
theorem dX3_robotY_7 : decode cX3_robotY 7 = .ok (.ifnonnull 7, 3) := by decide +kernel
theorem dX3_robotY_10 : decode cX3_robotY 10 = .ok (.iconst (-1), 1) := by decide +kernel
theorem dX3_robotY_11 : decode cX3_robotY 11 = .ok (.goto 7, 3) := by decide +kernel
theorem dX3_robotY_14 : decode cX3_robotY 14 = .ok (.aload_n 2, 1) := by decide +kernel
theorem dX3_robotY_15 : decode cX3_robotY 15 = .ok (.getfield 101, 3) := by decide +kernel
theorem dX3_robotY_18 : decode cX3_robotY 18 = .ok (.ireturn, 1) := by decide +kernel
set_option maxRecDepth 20000 in
theorem ggX3_robotState_X3_isNumber : GoodIn wsX3_robotState wsX3_isNumber := goodIn_r _ [7, 1, 8, 9, 10, 11] (by decide +kernel) (by decide +kernel)
set_option maxRecDepth 20000 in
theorem gX3_robotState_X3_isNumber : GoodIn wsX3_robotState (wsV RX3 104 RX3 yX3_isNumber wsX3_isNumber) := goodIn_app (goodIn_of _ (by decide +kernel)) ggX3_robotState_X3_isNumber
theorem dX3_robotState_0 : decode cX3_robotState 0 = .ok (.aload_n 0, 1) := by decide +kernel
theorem dX3_robotState_1 : decode cX3_robotState 1 = .ok (.iload_n 1, 1) := by decide +kernel
theorem dX3_robotState_2 : decode cX3_robotState 2 = .ok (.invokevirtual 104, 3) := by decide +kernel
theorem dX3_robotState_5 : decode cX3_robotState 5 = .ok (.ifCond .eq 15, 3) := by decide +kernel
theorem dX3_robotState_8 : decode cX3_robotState 8 = .ok (.aload_n 0, 1) := by decide +kernel
theorem dX3_robotState_9 : decode cX3_robotState 9 = .ok (.getfield 24, 3) := by decide +kernel
theorem dX3_robotState_12 : decode cX3_robotState 12 = .ok (.iload_n 1, 1) := by decide +kernel
theorem dX3_robotState_13 : decode cX3_robotState 13 = .ok (.aaload, 1) := by decide +kernel
theorem dX3_robotState_14 : decode cX3_robotState 14 = .ok (.getfield 52, 3) := by decide +kernel
theorem dX3_robotState_17 : decode cX3_robotState 17 = .ok (.goto 4, 3) := by decide +kernel
theorem dX3_robotState_20 : decode cX3_robotState 20 = .ok (.iconst (-1), 1) := by decide +kernel
theorem dX3_robotState_21 : decode cX3_robotState 21 = .ok (.ireturn, 1) := by decide +kernel
set_option maxRecDepth 20000 in
theorem ggX3_reg_X3_robotOf : GoodIn wsX3_reg wsX3_robotOf := goodIn_r _ [5, 6, 7, 8, 9, 10, 4, 11, 25, 26, 27, 28, 29, 30, 31, 32, 33, 34, 35, 36, 37, 38, 39, 40] (by decide +kernel) (by decide +kernel)
set_option maxRecDepth 20000 in
theorem gX3_reg_X3_robotOf : GoodIn wsX3_reg (wsV RX3 59 RX3 yX3_robotOf wsX3_robotOf) := goodIn_app (goodIn_of _ (by decide +kernel)) ggX3_reg_X3_robotOf
set_option maxRecDepth 20000 in
theorem ggX3_reg_X2_show : GoodIn wsX3_reg wsX2_show := goodIn_r _ [16, 17, 18, 19, 20, 21, 22, 23, 24, 29, 30, 31, 32, 33, 34, 35, 36, 37, 38, 39, 40, 41, 42] (by decide +kernel) (by decide +kernel)
set_option maxRecDepth 20000 in
theorem gX3_reg_X2_show : GoodIn wsX3_reg (wsV RX3 107 RX2 yX2_show wsX2_show) := goodIn_app (goodIn_of _ (by decide +kernel)) ggX3_reg_X2_show
theorem dX3_reg_0 : decode cX3_reg 0 = .ok (.aload_n 0, 1) := by decide +kernel
theorem dX3_reg_1 : decode cX3_reg 1 = .ok (.iload_n 1, 1) := by decide +kernel
theorem dX3_reg_2 : decode cX3_reg 2 = .ok (.invokevirtual 59, 3) := by decide +kernel
theorem dX3_reg_5 : decode cX3_reg 5 = .ok (.astore_n 3, 1) := by decide +kernel
theorem dX3_reg_6 : decode cX3_reg 6 = .ok (.aload_n 3, 1) := by decide +kernel
theorem dX3_reg_7 : decode cX3_reg 7 = .ok (.ifnonnull 7, 3) := by decide +kernel
theorem dX3_reg_10 : decode cX3_reg 10 = .ok (.iconst 0, 1) := by decide +kernel
theorem dX3_reg_11 : decode cX3_reg 11 = .ok (.goto 8, 3) := by decide +kernel
theorem dX3_reg_14 : decode cX3_reg 14 = .ok (.aload_n 3, 1) := by decide +kernel
theorem dX3_reg_15 : decode cX3_reg 15 = .ok (.iload_n 2, 1) := by decide +kernel
theorem dX3_reg_16 : decode cX3_reg 16 = .ok (.invokevirtual 107, 3) := by decide +kernel
theorem dX3_reg_19 : decode cX3_reg 19 = .ok (.ireturn, 1) := by decide +kernel
set_option maxRecDepth 20000 in
theorem ggX3_at_X3_robotOn : GoodIn wsX3_at wsX3_robotOn := goodIn_r _ [7, 8, 9, 10, 11, 24, 25, 26, 27, 28, 29, 30, 31, 32, 33, 34, 35, 36, 37, 38, 39] (by decide +kernel) (by decide +kernel)
set_option maxRecDepth 20000 in
theorem gX3_at_X3_robotOn : GoodIn wsX3_at (wsV RX3 38 RX3 yX3_robotOn wsX3_robotOn) := goodIn_app (goodIn_of _ (by decide +kernel)) ggX3_at_X3_robotOn
set_option maxRecDepth 20000 in
theorem ggX3_at_X1_contentOf : GoodIn wsX3_at wsX1_contentOf := goodIn_r _ [16, 17, 18, 19, 20, 21, 15, 22, 23, 40, 41, 42, 43, 44, 45] (by decide +kernel) (by decide +kernel)
set_option maxRecDepth 20000 in
theorem gX3_at_X1_contentOf : GoodIn wsX3_at (wsV RX3 111 RX1 yX1_contentOf wsX1_contentOf) := goodIn_app (goodIn_of _ (by decide +kernel)) ggX3_at_X1_contentOf
theorem dX3_at_0 : decode cX3_at 0 = .ok (.aload_n 0, 1) := by decide +kernel
theorem dX3_at_1 : decode cX3_at 1 = .ok (.iload_n 1, 1) := by decide +kernel
theorem dX3_at_2 : decode cX3_at 2 = .ok (.iload_n 2, 1) := by decide +kernel
theorem dX3_at_3 : decode cX3_at 3 = .ok (.invokevirtual 38, 3) := by decide +kernel
theorem dX3_at_6 : decode cX3_at 6 = .ok (.astore_n 3, 1) := by decide +kernel
theorem dX3_at_7 : decode cX3_at 7 = .ok (.aload_n 0, 1) := by decide +kernel
theorem dX3_at_8 : decode cX3_at 8 = .ok (.getfield 18, 3) := by decide +kernel
theorem dX3_at_11 : decode cX3_at 11 = .ok (.iload_n 1, 1) := by decide +kernel
theorem dX3_at_12 : decode cX3_at 12 = .ok (.iload_n 2, 1) := by decide +kernel
theorem dX3_at_13 : decode cX3_at 13 = .ok (.invokevirtual 111, 3) := by decide +kernel
theorem dX3_at_16 : decode cX3_at 16 = .ok (.istore 4, 2) := by decide +kernel
theorem dX3_at_18 : decode cX3_at 18 = .ok (.aload_n 3, 1) := by decide +kernel
theorem dX3_at_19 : decode cX3_at 19 = .ok (.ifnonnull 8, 3) := by decide +kernel
theorem dX3_at_22 : decode cX3_at 22 = .ok (.iload 4, 2) := by decide +kernel
theorem dX3_at_24 : decode cX3_at 24 = .ok (.goto 16, 3) := by decide +kernel
theorem dX3_at_27 : decode cX3_at 27 = .ok (.iload 4, 2) := by decide +kernel
theorem dX3_at_29 : decode cX3_at 29 = .ok (.sipush 256, 3) := by decide +kernel
theorem dX3_at_32 : decode cX3_at 32 = .ok (.aload_n 3, 1) := by decide +kernel
theorem dX3_at_33 : decode cX3_at 33 = .ok (.getfield 74, 3) := by decide +kernel
theorem dX3_at_36 : decode cX3_at 36 = .ok (.iconst 1, 1) := by decide +kernel
theorem dX3_at_37 : decode cX3_at 37 = .ok (.iadd, 1) := by decide +kernel
theorem dX3_at_38 : decode cX3_at 38 = .ok (.imul, 1) := by decide +kernel
theorem dX3_at_39 : decode cX3_at 39 = .ok (.iadd, 1) := by decide +kernel
theorem dX3_at_40 : decode cX3_at 40 = .ok (.ireturn, 1) := by decide +kernel
set_option maxRecDepth 20000 in
theorem ggX3_pathLength_X1_wayLength : GoodIn wsX3_pathLength wsX1_wayLength := goodIn_r _ [6, 7, 8, 9, 5, 10, 11, 12, 13, 14, 15, 16, 17, 18, 19, 20, 21, 22, 23, 24, 25, 26, 27, 28, 29, 30, 31, 32, 37, 38, 39, 40, 41, 42] (by decide +kernel) (by decide +kernel)
set_option maxRecDepth 20000 in
theorem gX3_pathLength_X1_wayLength : GoodIn wsX3_pathLength (wsV RX3 114 RX1 yX1_wayLength wsX1_wayLength) := goodIn_app (goodIn_of _ (by decide +kernel)) ggX3_pathLength_X1_wayLength
theorem dX3_pathLength_0 : decode cX3_pathLength 0 = .ok (.aload_n 0, 1) := by decide +kernel
theorem dX3_pathLength_1 : decode cX3_pathLength 1 = .ok (.getfield 18, 3) := by decide +kernel
theorem dX3_pathLength_4 : decode cX3_pathLength 4 = .ok (.iload_n 1, 1) := by decide +kernel
theorem dX3_pathLength_5 : decode cX3_pathLength 5 = .ok (.iload_n 2, 1) := by decide +kernel
theorem dX3_pathLength_6 : decode cX3_pathLength 6 = .ok (.iload_n 3, 1) := by decide +kernel
theorem dX3_pathLength_7 : decode cX3_pathLength 7 = .ok (.iload 4, 2) := by decide +kernel
theorem dX3_pathLength_9 : decode cX3_pathLength 9 = .ok (.invokevirtual 114, 3) := by decide +kernel
theorem dX3_pathLength_12 : decode cX3_pathLength 12 = .ok (.ireturn, 1) := by decide +kernel
theorem dX3_now_0 : decode cX3_now 0 = .ok (.aload_n 0, 1) := by decide +kernel
theorem dX3_now_1 : decode cX3_now 1 = .ok (.getfield 88, 3) := by decide +kernel
theorem dX3_now_4 : decode cX3_now 4 = .ok (.ireturn, 1) := by decide +kernel
theorem dX3_setClock_0 : decode cX3_setClock 0 = .ok (.aload_n 0, 1) := by decide +kernel
theorem dX3_setClock_1 : decode cX3_setClock 1 = .ok (.iload_n 1, 1) := by decide +kernel
theorem dX3_setClock_2 : decode cX3_setClock 2 = .ok (.putfield 88, 3) := by decide +kernel
theorem dX3_setClock_5 : decode cX3_setClock 5 = .ok (.return_, 1) := by decide +kernel
theorem dX3_bounded_0 : decode cX3_bounded 0 = .ok (.iconst 1, 1) := by decide +kernel
theorem dX3_bounded_1 : decode cX3_bounded 1 = .ok (.iload_n 0, 1) := by decide +kernel
theorem dX3_bounded_2 : decode cX3_bounded 2 = .ok (.iload_n 1, 1) := by decide +kernel
theorem dX3_bounded_3 : decode cX3_bounded 3 = .ok (.invokestatic 118, 3) := by decide +kernel
theorem dX3_bounded_6 : decode cX3_bounded 6 = .ok (.invokestatic 123, 3) := by decide +kernel
theorem dX3_bounded_9 : decode cX3_bounded 9 = .ok (.ireturn, 1) := by decide +kernel
set_option maxRecDepth 20000 in
theorem ggX3_startOver_X1_clear : GoodIn wsX3_startOver wsX1_clear := goodIn_r _ [10, 11, 12, 13, 14, 15, 16, 33, 34, 35, 36, 37, 38] (by decide +kernel) (by decide +kernel)
set_option maxRecDepth 20000 in
theorem gX3_startOver_X1_clear : GoodIn wsX3_startOver (wsV RX3 126 RX1 yX1_clear wsX1_clear) := goodIn_app (goodIn_of _ (by decide +kernel)) ggX3_startOver_X1_clear
theorem dX3_startOver_0 : decode cX3_startOver 0 = .ok (.aload_n 0, 1) := by decide +kernel
theorem dX3_startOver_1 : decode cX3_startOver 1 = .ok (.getfield 18, 3) := by decide +kernel
theorem dX3_startOver_4 : decode cX3_startOver 4 = .ok (.invokevirtual 126, 3) := by decide +kernel
theorem dX3_startOver_7 : decode cX3_startOver 7 = .ok (.iconst 0, 1) := by decide +kernel
theorem dX3_startOver_8 : decode cX3_startOver 8 = .ok (.istore_n 1, 1) := by decide +kernel
theorem dX3_startOver_9 : decode cX3_startOver 9 = .ok (.iload_n 1, 1) := by decide +kernel
theorem dX3_startOver_10 : decode cX3_startOver 10 = .ok (.aload_n 0, 1) := by decide +kernel
theorem dX3_startOver_11 : decode cX3_startOver 11 = .ok (.getfield 24, 3) := by decide +kernel
theorem dX3_startOver_14 : decode cX3_startOver 14 = .ok (.arraylength, 1) := by decide +kernel
theorem dX3_startOver_15 : decode cX3_startOver 15 = .ok (.if_icmp .ge 19, 3) := by decide +kernel
theorem dX3_startOver_18 : decode cX3_startOver 18 = .ok (.aload_n 0, 1) := by decide +kernel
theorem dX3_startOver_19 : decode cX3_startOver 19 = .ok (.getfield 24, 3) := by decide +kernel
theorem dX3_startOver_22 : decode cX3_startOver 22 = .ok (.iload_n 1, 1) := by decide +kernel
theorem dX3_startOver_23 : decode cX3_startOver 23 = .ok (.aaload, 1) := by decide +kernel
theorem dX3_startOver_24 : decode cX3_startOver 24 = .ok (.iconst 0, 1) := by decide +kernel
theorem dX3_startOver_25 : decode cX3_startOver 25 = .ok (.putfield 52, 3) := by decide +kernel
theorem dX3_startOver_28 : decode cX3_startOver 28 = .ok (.iinc 1 1, 3) := by decide +kernel
theorem dX3_startOver_31 : decode cX3_startOver 31 = .ok (.goto (-22), 3) := by decide +kernel
theorem dX3_startOver_34 : decode cX3_startOver 34 = .ok (.aload_n 0, 1) := by decide +kernel
theorem dX3_startOver_35 : decode cX3_startOver 35 = .ok (.iconst 0, 1) := by decide +kernel
theorem dX3_startOver_36 : decode cX3_startOver 36 = .ok (.putfield 88, 3) := by decide +kernel
theorem dX3_startOver_39 : decode cX3_startOver 39 = .ok (.aload_n 0, 1) := by decide +kernel
theorem dX3_startOver_40 : decode cX3_startOver 40 = .ok (.aload_n 0, 1) := by decide +kernel
theorem dX3_startOver_41 : decode cX3_startOver 41 = .ok (.getfield 24, 3) := by decide +kernel
theorem dX3_startOver_44 : decode cX3_startOver 44 = .ok (.arraylength, 1) := by decide +kernel
theorem dX3_startOver_45 : decode cX3_startOver 45 = .ok (.iconst 1, 1) := by decide +kernel
theorem dX3_startOver_46 : decode cX3_startOver 46 = .ok (.isub, 1) := by decide +kernel
theorem dX3_startOver_47 : decode cX3_startOver 47 = .ok (.putfield 77, 3) := by decide +kernel
theorem dX3_startOver_50 : decode cX3_startOver 50 = .ok (.return_, 1) := by decide +kernel
theorem dX3_isNumber_0 : decode cX3_isNumber 0 = .ok (.iload_n 1, 1) := by decide +kernel
theorem dX3_isNumber_1 : decode cX3_isNumber 1 = .ok (.ifCond .lt 16, 3) := by decide +kernel
theorem dX3_isNumber_4 : decode cX3_isNumber 4 = .ok (.iload_n 1, 1) := by decide +kernel
theorem dX3_isNumber_5 : decode cX3_isNumber 5 = .ok (.aload_n 0, 1) := by decide +kernel
theorem dX3_isNumber_6 : decode cX3_isNumber 6 = .ok (.getfield 24, 3) := by decide +kernel
theorem dX3_isNumber_9 : decode cX3_isNumber 9 = .ok (.arraylength, 1) := by decide +kernel
theorem dX3_isNumber_10 : decode cX3_isNumber 10 = .ok (.if_icmp .ge 7, 3) := by decide +kernel
theorem dX3_isNumber_13 : decode cX3_isNumber 13 = .ok (.iconst 1, 1) := by decide +kernel
theorem dX3_isNumber_14 : decode cX3_isNumber 14 = .ok (.goto 4, 3) := by decide +kernel
theorem dX3_isNumber_17 : decode cX3_isNumber 17 = .ok (.iconst 0, 1) := by decide +kernel
theorem dX3_isNumber_18 : decode cX3_isNumber 18 = .ok (.ireturn, 1) := by decide +kernel
set_option maxRecDepth 20000 in
theorem ggX3_robotOf_X3_isNumber : GoodIn wsX3_robotOf wsX3_isNumber := goodIn_r _ [7, 1, 8, 9, 10, 11] (by decide +kernel) (by decide +kernel)
set_option maxRecDepth 20000 in
theorem gX3_robotOf_X3_isNumber : GoodIn wsX3_robotOf (wsV RX3 104 RX3 yX3_isNumber wsX3_isNumber) := goodIn_app (goodIn_of _ (by decide +kernel)) ggX3_robotOf_X3_isNumber
theorem dX3_robotOf_0 : decode cX3_robotOf 0 = .ok (.aload_n 0, 1) := by decide +kernel
theorem dX3_robotOf_1 : decode cX3_robotOf 1 = .ok (.iload_n 1, 1) := by decide +kernel
theorem dX3_robotOf_2 : decode cX3_robotOf 2 = .ok (.invokevirtual 104, 3) := by decide +kernel
theorem dX3_robotOf_5 : decode cX3_robotOf 5 = .ok (.ifCond .eq 24, 3) := by decide +kernel
theorem dX3_robotOf_8 : decode cX3_robotOf 8 = .ok (.aload_n 0, 1) := by decide +kernel
theorem dX3_robotOf_9 : decode cX3_robotOf 9 = .ok (.getfield 24, 3) := by decide +kernel
theorem dX3_robotOf_12 : decode cX3_robotOf 12 = .ok (.iload_n 1, 1) := by decide +kernel
theorem dX3_robotOf_13 : decode cX3_robotOf 13 = .ok (.aaload, 1) := by decide +kernel
theorem dX3_robotOf_14 : decode cX3_robotOf 14 = .ok (.getfield 52, 3) := by decide +kernel
theorem dX3_robotOf_17 : decode cX3_robotOf 17 = .ok (.ifCond .eq 12, 3) := by decide +kernel
theorem dX3_robotOf_20 : decode cX3_robotOf 20 = .ok (.aload_n 0, 1) := by decide +kernel
theorem dX3_robotOf_21 : decode cX3_robotOf 21 = .ok (.getfield 24, 3) := by decide +kernel
theorem dX3_robotOf_24 : decode cX3_robotOf 24 = .ok (.iload_n 1, 1) := by decide +kernel
theorem dX3_robotOf_25 : decode cX3_robotOf 25 = .ok (.aaload, 1) := by decide +kernel
theorem dX3_robotOf_26 : decode cX3_robotOf 26 = .ok (.goto 4, 3) := by decide +kernel
theorem dX3_robotOf_29 : decode cX3_robotOf 29 = .ok (.aconst_null, 1) := by decide +kernel
theorem dX3_robotOf_30 : decode cX3_robotOf 30 = .ok (.areturn, 1) := by decide +kernel
theorem dX3_robotOn_0 : decode cX3_robotOn 0 = .ok (.iconst 0, 1) := by decide +kernel
theorem dX3_robotOn_1 : decode cX3_robotOn 1 = .ok (.istore_n 3, 1) := by decide +kernel
theorem dX3_robotOn_2 : decode cX3_robotOn 2 = .ok (.iload_n 3, 1) := by decide +kernel
theorem dX3_robotOn_3 : decode cX3_robotOn 3 = .ok (.aload_n 0, 1) := by decide +kernel
theorem dX3_robotOn_4 : decode cX3_robotOn 4 = .ok (.getfield 24, 3) := by decide +kernel
theorem dX3_robotOn_7 : decode cX3_robotOn 7 = .ok (.arraylength, 1) := by decide +kernel
theorem dX3_robotOn_8 : decode cX3_robotOn 8 = .ok (.if_icmp .ge 46, 3) := by decide +kernel
theorem dX3_robotOn_11 : decode cX3_robotOn 11 = .ok (.aload_n 0, 1) := by decide +kernel
theorem dX3_robotOn_12 : decode cX3_robotOn 12 = .ok (.getfield 24, 3) := by decide +kernel
theorem dX3_robotOn_15 : decode cX3_robotOn 15 = .ok (.iload_n 3, 1) := by decide +kernel
theorem dX3_robotOn_16 : decode cX3_robotOn 16 = .ok (.aaload, 1) := by decide +kernel
theorem dX3_robotOn_17 : decode cX3_robotOn 17 = .ok (.astore 4, 2) := by decide +kernel
theorem dX3_robotOn_19 : decode cX3_robotOn 19 = .ok (.aload 4, 2) := by decide +kernel
theorem dX3_robotOn_21 : decode cX3_robotOn 21 = .ok (.getfield 52, 3) := by decide +kernel
theorem dX3_robotOn_24 : decode cX3_robotOn 24 = .ok (.ifCond .eq 24, 3) := by decide +kernel
theorem dX3_robotOn_27 : decode cX3_robotOn 27 = .ok (.aload 4, 2) := by decide +kernel
theorem dX3_robotOn_29 : decode cX3_robotOn 29 = .ok (.getfield 98, 3) := by decide +kernel
theorem dX3_robotOn_32 : decode cX3_robotOn 32 = .ok (.iload_n 1, 1) := by decide +kernel
theorem dX3_robotOn_33 : decode cX3_robotOn 33 = .ok (.if_icmp .ne 15, 3) := by decide +kernel
theorem dX3_robotOn_36 : decode cX3_robotOn 36 = .ok (.aload 4, 2) := by decide +kernel
theorem dX3_robotOn_38 : decode cX3_robotOn 38 = .ok (.getfield 101, 3) := by decide +kernel
theorem dX3_robotOn_41 : decode cX3_robotOn 41 = .ok (.iload_n 2, 1) := by decide +kernel
theorem dX3_robotOn_42 : decode cX3_robotOn 42 = .ok (.if_icmp .ne 6, 3) := by decide +kernel
theorem dX3_robotOn_45 : decode cX3_robotOn 45 = .ok (.aload 4, 2) := by decide +kernel
theorem dX3_robotOn_47 : decode cX3_robotOn 47 = .ok (.areturn, 1) := by decide +kernel
theorem dX3_robotOn_48 : decode cX3_robotOn 48 = .ok (.iinc 3 1, 3) := by decide +kernel
theorem dX3_robotOn_51 : decode cX3_robotOn 51 = .ok (.goto (-49), 3) := by decide +kernel
theorem dX3_robotOn_54 : decode cX3_robotOn 54 = .ok (.aconst_null, 1) := by decide +kernel
theorem dX3_robotOn_55 : decode cX3_robotOn 55 = .ok (.areturn, 1) := by decide +kernel
set_option maxRecDepth 20000 in
theorem ggX3_nextReady_X3_isNumber : GoodIn wsX3_nextReady wsX3_isNumber := goodIn_r _ [8, 2, 9, 10, 11, 12] (by decide +kernel) (by decide +kernel)
set_option maxRecDepth 20000 in
theorem gX3_nextReady_X3_isNumber : GoodIn wsX3_nextReady (wsV RX3 104 RX3 yX3_isNumber wsX3_isNumber) := goodIn_app (goodIn_of _ (by decide +kernel)) ggX3_nextReady_X3_isNumber
theorem dX3_nextReady_0 : decode cX3_nextReady 0 = .ok (.aload_n 0, 1) := by decide +kernel
theorem dX3_nextReady_1 : decode cX3_nextReady 1 = .ok (.getfield 77, 3) := by decide +kernel
theorem dX3_nextReady_4 : decode cX3_nextReady 4 = .ok (.istore_n 1, 1) := by decide +kernel
theorem dX3_nextReady_5 : decode cX3_nextReady 5 = .ok (.iconst 0, 1) := by decide +kernel
theorem dX3_nextReady_6 : decode cX3_nextReady 6 = .ok (.istore_n 2, 1) := by decide +kernel
theorem dX3_nextReady_7 : decode cX3_nextReady 7 = .ok (.iload_n 2, 1) := by decide +kernel
theorem dX3_nextReady_8 : decode cX3_nextReady 8 = .ok (.aload_n 0, 1) := by decide +kernel
theorem dX3_nextReady_9 : decode cX3_nextReady 9 = .ok (.getfield 24, 3) := by decide +kernel
theorem dX3_nextReady_12 : decode cX3_nextReady 12 = .ok (.arraylength, 1) := by decide +kernel
theorem dX3_nextReady_13 : decode cX3_nextReady 13 = .ok (.if_icmp .ge 47, 3) := by decide +kernel
theorem dX3_nextReady_16 : decode cX3_nextReady 16 = .ok (.aload_n 0, 1) := by decide +kernel
theorem dX3_nextReady_17 : decode cX3_nextReady 17 = .ok (.iload_n 1, 1) := by decide +kernel
theorem dX3_nextReady_18 : decode cX3_nextReady 18 = .ok (.iconst 1, 1) := by decide +kernel
theorem dX3_nextReady_19 : decode cX3_nextReady 19 = .ok (.iadd, 1) := by decide +kernel
theorem dX3_nextReady_20 : decode cX3_nextReady 20 = .ok (.invokevirtual 104, 3) := by decide +kernel
theorem dX3_nextReady_23 : decode cX3_nextReady 23 = .ok (.ifCond .eq 9, 3) := by decide +kernel
theorem dX3_nextReady_26 : decode cX3_nextReady 26 = .ok (.iload_n 1, 1) := by decide +kernel
theorem dX3_nextReady_27 : decode cX3_nextReady 27 = .ok (.iconst 1, 1) := by decide +kernel
theorem dX3_nextReady_28 : decode cX3_nextReady 28 = .ok (.iadd, 1) := by decide +kernel
theorem dX3_nextReady_29 : decode cX3_nextReady 29 = .ok (.goto 4, 3) := by decide +kernel
theorem dX3_nextReady_32 : decode cX3_nextReady 32 = .ok (.iconst 0, 1) := by decide +kernel
theorem dX3_nextReady_33 : decode cX3_nextReady 33 = .ok (.istore_n 1, 1) := by decide +kernel
theorem dX3_nextReady_34 : decode cX3_nextReady 34 = .ok (.aload_n 0, 1) := by decide +kernel
theorem dX3_nextReady_35 : decode cX3_nextReady 35 = .ok (.getfield 24, 3) := by decide +kernel
theorem dX3_nextReady_38 : decode cX3_nextReady 38 = .ok (.iload_n 1, 1) := by decide +kernel
theorem dX3_nextReady_39 : decode cX3_nextReady 39 = .ok (.aaload, 1) := by decide +kernel
theorem dX3_nextReady_40 : decode cX3_nextReady 40 = .ok (.getfield 52, 3) := by decide +kernel
theorem dX3_nextReady_43 : decode cX3_nextReady 43 = .ok (.iconst 2, 1) := by decide +kernel
theorem dX3_nextReady_44 : decode cX3_nextReady 44 = .ok (.if_icmp .ne 10, 3) := by decide +kernel
theorem dX3_nextReady_47 : decode cX3_nextReady 47 = .ok (.aload_n 0, 1) := by decide +kernel
theorem dX3_nextReady_48 : decode cX3_nextReady 48 = .ok (.getfield 24, 3) := by decide +kernel
theorem dX3_nextReady_51 : decode cX3_nextReady 51 = .ok (.iload_n 1, 1) := by decide +kernel
theorem dX3_nextReady_52 : decode cX3_nextReady 52 = .ok (.aaload, 1) := by decide +kernel
theorem dX3_nextReady_53 : decode cX3_nextReady 53 = .ok (.areturn, 1) := by decide +kernel
theorem dX3_nextReady_54 : decode cX3_nextReady 54 = .ok (.iinc 2 1, 3) := by decide +kernel
theorem dX3_nextReady_57 : decode cX3_nextReady 57 = .ok (.goto (-50), 3) := by decide +kernel
theorem dX3_nextReady_60 : decode cX3_nextReady 60 = .ok (.aconst_null, 1) := by decide +kernel
theorem dX3_nextReady_61 : decode cX3_nextReady 61 = .ok (.areturn, 1) := by decide +kernel
set_option maxRecDepth 20000 in
theorem ggX3_doWord_X3_opOf : GoodIn wsX3_doWord wsX3_opOf := goodIn_r _ [15] (by decide +kernel) (by decide +kernel)
set_option maxRecDepth 20000 in
theorem gX3_doWord_X3_opOf : GoodIn wsX3_doWord (va_wsS RX3 139 yX3_opOf wsX3_opOf) := goodIn_app (goodIn_of _ (by decide +kernel)) ggX3_doWord_X3_opOf
set_option maxRecDepth 20000 in
theorem ggX3_doWord_X3_rOf : GoodIn wsX3_doWord wsX3_rOf := goodIn_r _ [18] (by decide +kernel) (by decide +kernel)
set_option maxRecDepth 20000 in
theorem gX3_doWord_X3_rOf : GoodIn wsX3_doWord (va_wsS RX3 142 yX3_rOf wsX3_rOf) := goodIn_app (goodIn_of _ (by decide +kernel)) ggX3_doWord_X3_rOf
set_option maxRecDepth 20000 in
theorem ggX3_doWord_X3_sOf : GoodIn wsX3_doWord wsX3_sOf := goodIn_r _ [21] (by decide +kernel) (by decide +kernel)
set_option maxRecDepth 20000 in
theorem gX3_doWord_X3_sOf : GoodIn wsX3_doWord (va_wsS RX3 145 yX3_sOf wsX3_sOf) := goodIn_app (goodIn_of _ (by decide +kernel)) ggX3_doWord_X3_sOf
set_option maxRecDepth 20000 in
theorem ggX3_doWord_X3_go_k0 : GoodIn wsX3_doWord ((wsX3_go.drop 0).take 20) := goodIn_r _ [25, 6, 26, 7, 27, 5, 28, 29, 30, 31, 32, 33, 34, 35, 36, 37, 38, 14, 39, 40] (by decide +kernel) (by decide +kernel)
set_option maxRecDepth 20000 in
theorem ggX3_doWord_X3_go_k1 : GoodIn wsX3_doWord ((wsX3_go.drop 20).take 20) := goodIn_r _ [4, 143, 144, 145, 146, 147, 148, 149, 150, 151, 152, 153, 154, 155, 156, 157, 158, 159, 160, 161] (by decide +kernel) (by decide +kernel)
set_option maxRecDepth 20000 in
theorem ggX3_doWord_X3_go_k2 : GoodIn wsX3_doWord (wsX3_go.drop 40) := goodIn_r _ [162, 163, 164] (by decide +kernel) (by decide +kernel)
set_option maxRecDepth 20000 in
theorem ggX3_doWord_X3_go : GoodIn wsX3_doWord wsX3_go := (goodIn_spl (a := 0) (b := 20) ggX3_doWord_X3_go_k0 (goodIn_spl (a := 20) (b := 20) ggX3_doWord_X3_go_k1 ggX3_doWord_X3_go_k2))
set_option maxRecDepth 20000 in
theorem gX3_doWord_X3_go : GoodIn wsX3_doWord (wsV RX3 148 RX3 yX3_go wsX3_go) := goodIn_app (goodIn_of _ (by decide +kernel)) ggX3_doWord_X3_go
set_option maxRecDepth 20000 in
theorem ggX3_doWord_X3_look_k0 : GoodIn wsX3_doWord ((wsX3_look.drop 0).take 20) := goodIn_r _ [44, 6, 26, 7, 27, 45, 46, 47, 14, 48, 5, 8, 36, 37, 38, 39, 40, 4, 49, 50] (by decide +kernel) (by decide +kernel)
set_option maxRecDepth 20000 in
theorem ggX3_doWord_X3_look_k1 : GoodIn wsX3_doWord ((wsX3_look.drop 20).take 20) := goodIn_r _ [51, 31, 52, 35, 33, 53, 54, 55, 56, 34, 143, 144, 145, 146, 147, 148, 149, 150, 151, 152] (by decide +kernel) (by decide +kernel)
set_option maxRecDepth 20000 in
theorem ggX3_doWord_X3_look_k2 : GoodIn wsX3_doWord (wsX3_look.drop 40) := goodIn_r _ [153, 154, 155, 156, 157, 158, 159, 160, 161, 162, 163, 164] (by decide +kernel) (by decide +kernel)
set_option maxRecDepth 20000 in
theorem ggX3_doWord_X3_look : GoodIn wsX3_doWord wsX3_look := (goodIn_spl (a := 0) (b := 20) ggX3_doWord_X3_look_k0 (goodIn_spl (a := 20) (b := 20) ggX3_doWord_X3_look_k1 ggX3_doWord_X3_look_k2))
set_option maxRecDepth 20000 in
theorem gX3_doWord_X3_look : GoodIn wsX3_doWord (wsV RX3 152 RX3 yX3_look wsX3_look) := goodIn_app (goodIn_of _ (by decide +kernel)) ggX3_doWord_X3_look
set_option maxRecDepth 20000 in
theorem ggX3_doWord_X3_take : GoodIn wsX3_doWord wsX3_take := goodIn_r _ [60, 10, 5, 6, 7, 61, 62, 63, 31, 64, 33, 35, 65, 29, 30, 32, 34, 143, 144, 145, 146, 147, 148, 149, 150, 151, 152, 153, 154, 155, 156, 157, 158, 159, 160, 161, 162, 163, 164] (by decide +kernel) (by decide +kernel)
set_option maxRecDepth 20000 in
theorem gX3_doWord_X3_take : GoodIn wsX3_doWord (wsV RX3 155 RX3 yX3_take wsX3_take) := goodIn_app (goodIn_of _ (by decide +kernel)) ggX3_doWord_X3_take
set_option maxRecDepth 20000 in
theorem ggX3_doWord_X3_lay : GoodIn wsX3_doWord wsX3_lay := goodIn_r _ [69, 10, 5, 6, 7, 70, 71, 72, 31, 73, 33, 35, 65, 29, 30, 32, 34, 143, 144, 145, 146, 147, 148, 149, 150, 151, 152, 153, 154, 155, 156, 157, 158, 159, 160, 161, 162, 163, 164] (by decide +kernel) (by decide +kernel)
set_option maxRecDepth 20000 in
theorem gX3_doWord_X3_lay : GoodIn wsX3_doWord (wsV RX3 159 RX3 yX3_lay wsX3_lay) := goodIn_app (goodIn_of _ (by decide +kernel)) ggX3_doWord_X3_lay
set_option maxRecDepth 20000 in
theorem ggX3_doWord_X3_send_k0 : GoodIn wsX3_doWord ((wsX3_send.drop 0).take 20) := goodIn_r _ [77, 78, 4, 79, 80, 81, 14, 82, 40, 83, 84, 85, 86, 87, 88, 89, 90, 91, 92, 93] (by decide +kernel) (by decide +kernel)
set_option maxRecDepth 20000 in
theorem ggX3_doWord_X3_send_k1 : GoodIn wsX3_doWord ((wsX3_send.drop 20).take 20) := goodIn_r _ [94, 95, 96, 97, 98, 99, 143, 144, 145, 146, 147, 148, 149, 150, 151, 152, 153, 154, 155, 156] (by decide +kernel) (by decide +kernel)
set_option maxRecDepth 20000 in
theorem ggX3_doWord_X3_send_k2 : GoodIn wsX3_doWord (wsX3_send.drop 40) := goodIn_r _ [157, 158, 165, 166] (by decide +kernel) (by decide +kernel)
set_option maxRecDepth 20000 in
theorem ggX3_doWord_X3_send : GoodIn wsX3_doWord wsX3_send := (goodIn_spl (a := 0) (b := 20) ggX3_doWord_X3_send_k0 (goodIn_spl (a := 20) (b := 20) ggX3_doWord_X3_send_k1 ggX3_doWord_X3_send_k2))
set_option maxRecDepth 20000 in
theorem gX3_doWord_X3_send : GoodIn wsX3_doWord (wsV RX3 162 RX3 yX3_send wsX3_send) := goodIn_app (goodIn_of _ (by decide +kernel)) ggX3_doWord_X3_send
set_option maxRecDepth 20000 in
theorem ggX3_doWord_X3_receive : GoodIn wsX3_doWord wsX3_receive := goodIn_r _ [102, 78, 103, 4, 3, 104, 105, 106, 96, 107, 98, 99, 108, 109, 110, 111, 143, 144, 145, 146, 147, 148, 149, 150, 151, 152, 153, 154, 165, 166] (by decide +kernel) (by decide +kernel)
set_option maxRecDepth 20000 in
theorem gX3_doWord_X3_receive : GoodIn wsX3_doWord (va_wsS RX3 165 yX3_receive wsX3_receive) := goodIn_app (goodIn_of _ (by decide +kernel)) ggX3_doWord_X3_receive
set_option maxRecDepth 20000 in
theorem ggX3_doWord_X2_fallAsleep : GoodIn wsX3_doWord wsX2_fallAsleep := goodIn_r _ [115, 92, 116, 143, 144, 145, 146, 147, 148, 149, 150, 151, 152, 153, 154] (by decide +kernel) (by decide +kernel)
set_option maxRecDepth 20000 in
theorem gX3_doWord_X2_fallAsleep : GoodIn wsX3_doWord (wsV RX3 169 RX2 yX2_fallAsleep wsX2_fallAsleep) := goodIn_app (goodIn_of _ (by decide +kernel)) ggX3_doWord_X2_fallAsleep
set_option maxRecDepth 20000 in
theorem ggX3_doWord_X1_firstStep : GoodIn wsX3_doWord wsX1_firstStep := goodIn_r _ [120, 121, 122, 123, 31, 124, 65, 29, 30, 32, 33, 34, 35, 125, 126, 127, 128, 129, 130, 131, 132, 133, 134, 135, 136, 137, 138, 139, 53, 54, 55, 56, 159, 160, 161, 162, 163, 164] (by decide +kernel) (by decide +kernel)
set_option maxRecDepth 20000 in
theorem gX3_doWord_X1_firstStep : GoodIn wsX3_doWord (wsV RX3 173 RX1 yX1_firstStep wsX1_firstStep) := goodIn_app (goodIn_of _ (by decide +kernel)) ggX3_doWord_X1_firstStep
set_option maxRecDepth 20000 in
theorem ggX3_doWord_X3_calculated : GoodIn wsX3_doWord wsX3_calculated := goodIn_r _ [142] (by decide +kernel) (by decide +kernel)
set_option maxRecDepth 20000 in
theorem gX3_doWord_X3_calculated : GoodIn wsX3_doWord (va_wsS RX3 176 yX3_calculated wsX3_calculated) := goodIn_app (goodIn_of _ (by decide +kernel)) ggX3_doWord_X3_calculated
theorem dX3_doWord_0 : decode cX3_doWord 0 = .ok (.aload_n 1, 1) := by decide +kernel
theorem dX3_doWord_1 : decode cX3_doWord 1 = .ok (.getfield 129, 3) := by decide +kernel
theorem dX3_doWord_4 : decode cX3_doWord 4 = .ok (.aload_n 1, 1) := by decide +kernel
theorem dX3_doWord_5 : decode cX3_doWord 5 = .ok (.getfield 133, 3) := by decide +kernel
theorem dX3_doWord_8 : decode cX3_doWord 8 = .ok (.iaload, 1) := by decide +kernel
theorem dX3_doWord_9 : decode cX3_doWord 9 = .ok (.istore_n 2, 1) := by decide +kernel
theorem dX3_doWord_10 : decode cX3_doWord 10 = .ok (.aload_n 1, 1) := by decide +kernel
theorem dX3_doWord_11 : decode cX3_doWord 11 = .ok (.getfield 136, 3) := by decide +kernel
theorem dX3_doWord_14 : decode cX3_doWord 14 = .ok (.astore_n 3, 1) := by decide +kernel
theorem dX3_doWord_15 : decode cX3_doWord 15 = .ok (.iload_n 2, 1) := by decide +kernel
theorem dX3_doWord_16 : decode cX3_doWord 16 = .ok (.invokestatic 139, 3) := by decide +kernel
theorem dX3_doWord_19 : decode cX3_doWord 19 = .ok (.istore 4, 2) := by decide +kernel
theorem dX3_doWord_21 : decode cX3_doWord 21 = .ok (.iload_n 2, 1) := by decide +kernel
theorem dX3_doWord_22 : decode cX3_doWord 22 = .ok (.invokestatic 142, 3) := by decide +kernel
theorem dX3_doWord_25 : decode cX3_doWord 25 = .ok (.istore 5, 2) := by decide +kernel
theorem dX3_doWord_27 : decode cX3_doWord 27 = .ok (.iload_n 2, 1) := by decide +kernel
theorem dX3_doWord_28 : decode cX3_doWord 28 = .ok (.invokestatic 145, 3) := by decide +kernel
theorem dX3_doWord_31 : decode cX3_doWord 31 = .ok (.istore 6, 2) := by decide +kernel
theorem dX3_doWord_33 : decode cX3_doWord 33 = .ok (.iload_n 2, 1) := by decide +kernel
theorem dX3_doWord_34 : decode cX3_doWord 34 = .ok (.bipush 16, 2) := by decide +kernel
theorem dX3_doWord_36 : decode cX3_doWord 36 = .ok (.ishr, 1) := by decide +kernel
theorem dX3_doWord_37 : decode cX3_doWord 37 = .ok (.istore 7, 2) := by decide +kernel
theorem dX3_doWord_39 : decode cX3_doWord 39 = .ok (.aload_n 3, 1) := by decide +kernel
theorem dX3_doWord_40 : decode cX3_doWord 40 = .ok (.iload 5, 2) := by decide +kernel
theorem dX3_doWord_42 : decode cX3_doWord 42 = .ok (.iaload, 1) := by decide +kernel
theorem dX3_doWord_43 : decode cX3_doWord 43 = .ok (.istore 8, 2) := by decide +kernel
theorem dX3_doWord_45 : decode cX3_doWord 45 = .ok (.aload_n 3, 1) := by decide +kernel
theorem dX3_doWord_46 : decode cX3_doWord 46 = .ok (.iload 6, 2) := by decide +kernel
theorem dX3_doWord_48 : decode cX3_doWord 48 = .ok (.iaload, 1) := by decide +kernel
theorem dX3_doWord_49 : decode cX3_doWord 49 = .ok (.istore 9, 2) := by decide +kernel
theorem dX3_doWord_51 : decode cX3_doWord 51 = .ok (.aload_n 1, 1) := by decide +kernel
theorem dX3_doWord_52 : decode cX3_doWord 52 = .ok (.getfield 133, 3) := by decide +kernel
theorem dX3_doWord_55 : decode cX3_doWord 55 = .ok (.iconst 1, 1) := by decide +kernel
theorem dX3_doWord_56 : decode cX3_doWord 56 = .ok (.iadd, 1) := by decide +kernel
theorem dX3_doWord_57 : decode cX3_doWord 57 = .ok (.istore 10, 2) := by decide +kernel
theorem dX3_doWord_59 : decode cX3_doWord 59 = .ok (.iload 4, 2) := by decide +kernel
theorem dX3_doWord_61 : decode cX3_doWord 61 = .ok (.tableswitch 345 0 24 #[115, 345, 345, 345, 345, 345, 345, 345, 345, 345, 123, 130, 147, 164, 180, 196, 208, 220, 235, 258, 267, 293, 312, 323, 334], 115) := by decide +kernel
theorem dX3_doWord_176 : decode cX3_doWord 176 = .ok (.aload_n 1, 1) := by decide +kernel
theorem dX3_doWord_177 : decode cX3_doWord 177 = .ok (.iconst 5, 1) := by decide +kernel
theorem dX3_doWord_178 : decode cX3_doWord 178 = .ok (.putfield 52, 3) := by decide +kernel
theorem dX3_doWord_181 : decode cX3_doWord 181 = .ok (.goto 240, 3) := by decide +kernel
theorem dX3_doWord_184 : decode cX3_doWord 184 = .ok (.iload 7, 2) := by decide +kernel
theorem dX3_doWord_186 : decode cX3_doWord 186 = .ok (.istore 10, 2) := by decide +kernel
theorem dX3_doWord_188 : decode cX3_doWord 188 = .ok (.goto 233, 3) := by decide +kernel
theorem dX3_doWord_191 : decode cX3_doWord 191 = .ok (.iload 8, 2) := by decide +kernel
theorem dX3_doWord_193 : decode cX3_doWord 193 = .ok (.ifCond .ne 8, 3) := by decide +kernel
theorem dX3_doWord_196 : decode cX3_doWord 196 = .ok (.iload 7, 2) := by decide +kernel
theorem dX3_doWord_198 : decode cX3_doWord 198 = .ok (.goto 5, 3) := by decide +kernel
theorem dX3_doWord_201 : decode cX3_doWord 201 = .ok (.iload 10, 2) := by decide +kernel
theorem dX3_doWord_203 : decode cX3_doWord 203 = .ok (.istore 10, 2) := by decide +kernel
theorem dX3_doWord_205 : decode cX3_doWord 205 = .ok (.goto 216, 3) := by decide +kernel
theorem dX3_doWord_208 : decode cX3_doWord 208 = .ok (.iload 8, 2) := by decide +kernel
theorem dX3_doWord_210 : decode cX3_doWord 210 = .ok (.ifCond .eq 8, 3) := by decide +kernel
theorem dX3_doWord_213 : decode cX3_doWord 213 = .ok (.iload 7, 2) := by decide +kernel
theorem dX3_doWord_215 : decode cX3_doWord 215 = .ok (.goto 5, 3) := by decide +kernel
theorem dX3_doWord_218 : decode cX3_doWord 218 = .ok (.iload 10, 2) := by decide +kernel
theorem dX3_doWord_220 : decode cX3_doWord 220 = .ok (.istore 10, 2) := by decide +kernel
theorem dX3_doWord_222 : decode cX3_doWord 222 = .ok (.goto 199, 3) := by decide +kernel
theorem dX3_doWord_225 : decode cX3_doWord 225 = .ok (.aload_n 3, 1) := by decide +kernel
theorem dX3_doWord_226 : decode cX3_doWord 226 = .ok (.iload 6, 2) := by decide +kernel
theorem dX3_doWord_228 : decode cX3_doWord 228 = .ok (.aload_n 0, 1) := by decide +kernel
theorem dX3_doWord_229 : decode cX3_doWord 229 = .ok (.aload_n 1, 1) := by decide +kernel
theorem dX3_doWord_230 : decode cX3_doWord 230 = .ok (.iload 8, 2) := by decide +kernel
theorem dX3_doWord_232 : decode cX3_doWord 232 = .ok (.iconst 3, 1) := by decide +kernel
theorem dX3_doWord_233 : decode cX3_doWord 233 = .ok (.iand, 1) := by decide +kernel
theorem dX3_doWord_234 : decode cX3_doWord 234 = .ok (.invokevirtual 148, 3) := by decide +kernel
theorem dX3_doWord_237 : decode cX3_doWord 237 = .ok (.iastore, 1) := by decide +kernel
theorem dX3_doWord_238 : decode cX3_doWord 238 = .ok (.goto 183, 3) := by decide +kernel
theorem dX3_doWord_241 : decode cX3_doWord 241 = .ok (.aload_n 3, 1) := by decide +kernel
theorem dX3_doWord_242 : decode cX3_doWord 242 = .ok (.iload 6, 2) := by decide +kernel
theorem dX3_doWord_244 : decode cX3_doWord 244 = .ok (.aload_n 0, 1) := by decide +kernel
theorem dX3_doWord_245 : decode cX3_doWord 245 = .ok (.aload_n 1, 1) := by decide +kernel
theorem dX3_doWord_246 : decode cX3_doWord 246 = .ok (.iload 8, 2) := by decide +kernel
theorem dX3_doWord_248 : decode cX3_doWord 248 = .ok (.iconst 3, 1) := by decide +kernel
theorem dX3_doWord_249 : decode cX3_doWord 249 = .ok (.iand, 1) := by decide +kernel
theorem dX3_doWord_250 : decode cX3_doWord 250 = .ok (.invokevirtual 152, 3) := by decide +kernel
theorem dX3_doWord_253 : decode cX3_doWord 253 = .ok (.iastore, 1) := by decide +kernel
theorem dX3_doWord_254 : decode cX3_doWord 254 = .ok (.goto 167, 3) := by decide +kernel
theorem dX3_doWord_257 : decode cX3_doWord 257 = .ok (.aload_n 3, 1) := by decide +kernel
theorem dX3_doWord_258 : decode cX3_doWord 258 = .ok (.iload 5, 2) := by decide +kernel
theorem dX3_doWord_260 : decode cX3_doWord 260 = .ok (.aload_n 0, 1) := by decide +kernel
theorem dX3_doWord_261 : decode cX3_doWord 261 = .ok (.aload_n 1, 1) := by decide +kernel
theorem dX3_doWord_262 : decode cX3_doWord 262 = .ok (.invokevirtual 155, 3) := by decide +kernel
theorem dX3_doWord_265 : decode cX3_doWord 265 = .ok (.iastore, 1) := by decide +kernel
theorem dX3_doWord_266 : decode cX3_doWord 266 = .ok (.goto 155, 3) := by decide +kernel
theorem dX3_doWord_269 : decode cX3_doWord 269 = .ok (.aload_n 3, 1) := by decide +kernel
theorem dX3_doWord_270 : decode cX3_doWord 270 = .ok (.iload 5, 2) := by decide +kernel
theorem dX3_doWord_272 : decode cX3_doWord 272 = .ok (.aload_n 0, 1) := by decide +kernel
theorem dX3_doWord_273 : decode cX3_doWord 273 = .ok (.aload_n 1, 1) := by decide +kernel
theorem dX3_doWord_274 : decode cX3_doWord 274 = .ok (.invokevirtual 159, 3) := by decide +kernel
theorem dX3_doWord_277 : decode cX3_doWord 277 = .ok (.iastore, 1) := by decide +kernel
theorem dX3_doWord_278 : decode cX3_doWord 278 = .ok (.goto 143, 3) := by decide +kernel
theorem dX3_doWord_281 : decode cX3_doWord 281 = .ok (.aload_n 3, 1) := by decide +kernel
theorem dX3_doWord_282 : decode cX3_doWord 282 = .ok (.iload 5, 2) := by decide +kernel
theorem dX3_doWord_284 : decode cX3_doWord 284 = .ok (.aload_n 0, 1) := by decide +kernel
theorem dX3_doWord_285 : decode cX3_doWord 285 = .ok (.iload 8, 2) := by decide +kernel
theorem dX3_doWord_287 : decode cX3_doWord 287 = .ok (.iload 9, 2) := by decide +kernel
theorem dX3_doWord_289 : decode cX3_doWord 289 = .ok (.invokevirtual 162, 3) := by decide +kernel
theorem dX3_doWord_292 : decode cX3_doWord 292 = .ok (.iastore, 1) := by decide +kernel
theorem dX3_doWord_293 : decode cX3_doWord 293 = .ok (.goto 128, 3) := by decide +kernel
theorem dX3_doWord_296 : decode cX3_doWord 296 = .ok (.aload_n 1, 1) := by decide +kernel
theorem dX3_doWord_297 : decode cX3_doWord 297 = .ok (.iload 5, 2) := by decide +kernel
theorem dX3_doWord_299 : decode cX3_doWord 299 = .ok (.invokestatic 165, 3) := by decide +kernel
theorem dX3_doWord_302 : decode cX3_doWord 302 = .ok (.ifCond .eq 8, 3) := by decide +kernel
theorem dX3_doWord_305 : decode cX3_doWord 305 = .ok (.iload 10, 2) := by decide +kernel
theorem dX3_doWord_307 : decode cX3_doWord 307 = .ok (.goto 7, 3) := by decide +kernel
theorem dX3_doWord_310 : decode cX3_doWord 310 = .ok (.aload_n 1, 1) := by decide +kernel
theorem dX3_doWord_311 : decode cX3_doWord 311 = .ok (.getfield 133, 3) := by decide +kernel
theorem dX3_doWord_314 : decode cX3_doWord 314 = .ok (.istore 10, 2) := by decide +kernel
theorem dX3_doWord_316 : decode cX3_doWord 316 = .ok (.goto 105, 3) := by decide +kernel
theorem dX3_doWord_319 : decode cX3_doWord 319 = .ok (.aload_n 1, 1) := by decide +kernel
theorem dX3_doWord_320 : decode cX3_doWord 320 = .ok (.iload 8, 2) := by decide +kernel
theorem dX3_doWord_322 : decode cX3_doWord 322 = .ok (.invokevirtual 169, 3) := by decide +kernel
theorem dX3_doWord_325 : decode cX3_doWord 325 = .ok (.goto 96, 3) := by decide +kernel
theorem dX3_doWord_328 : decode cX3_doWord 328 = .ok (.aload_n 3, 1) := by decide +kernel
theorem dX3_doWord_329 : decode cX3_doWord 329 = .ok (.iload 5, 2) := by decide +kernel
theorem dX3_doWord_331 : decode cX3_doWord 331 = .ok (.aload_n 0, 1) := by decide +kernel
theorem dX3_doWord_332 : decode cX3_doWord 332 = .ok (.getfield 18, 3) := by decide +kernel
theorem dX3_doWord_335 : decode cX3_doWord 335 = .ok (.aload_n 1, 1) := by decide +kernel
theorem dX3_doWord_336 : decode cX3_doWord 336 = .ok (.getfield 98, 3) := by decide +kernel
theorem dX3_doWord_339 : decode cX3_doWord 339 = .ok (.aload_n 1, 1) := by decide +kernel
theorem dX3_doWord_340 : decode cX3_doWord 340 = .ok (.getfield 101, 3) := by decide +kernel
theorem dX3_doWord_343 : decode cX3_doWord 343 = .ok (.iload 8, 2) := by decide +kernel
theorem dX3_doWord_345 : decode cX3_doWord 345 = .ok (.iload 9, 2) := by decide +kernel
theorem dX3_doWord_347 : decode cX3_doWord 347 = .ok (.invokevirtual 173, 3) := by decide +kernel
theorem dX3_doWord_350 : decode cX3_doWord 350 = .ok (.iastore, 1) := by decide +kernel
theorem dX3_doWord_351 : decode cX3_doWord 351 = .ok (.goto 70, 3) := by decide +kernel
theorem dX3_doWord_354 : decode cX3_doWord 354 = .ok (.aload_n 3, 1) := by decide +kernel
theorem dX3_doWord_355 : decode cX3_doWord 355 = .ok (.iload 5, 2) := by decide +kernel
theorem dX3_doWord_357 : decode cX3_doWord 357 = .ok (.aload_n 1, 1) := by decide +kernel
theorem dX3_doWord_358 : decode cX3_doWord 358 = .ok (.getfield 98, 3) := by decide +kernel
theorem dX3_doWord_361 : decode cX3_doWord 361 = .ok (.iastore, 1) := by decide +kernel
theorem dX3_doWord_362 : decode cX3_doWord 362 = .ok (.aload_n 3, 1) := by decide +kernel
theorem dX3_doWord_363 : decode cX3_doWord 363 = .ok (.iload 6, 2) := by decide +kernel
theorem dX3_doWord_365 : decode cX3_doWord 365 = .ok (.aload_n 1, 1) := by decide +kernel
theorem dX3_doWord_366 : decode cX3_doWord 366 = .ok (.getfield 101, 3) := by decide +kernel
theorem dX3_doWord_369 : decode cX3_doWord 369 = .ok (.iastore, 1) := by decide +kernel
theorem dX3_doWord_370 : decode cX3_doWord 370 = .ok (.goto 51, 3) := by decide +kernel
theorem dX3_doWord_373 : decode cX3_doWord 373 = .ok (.aload_n 3, 1) := by decide +kernel
theorem dX3_doWord_374 : decode cX3_doWord 374 = .ok (.iload 5, 2) := by decide +kernel
theorem dX3_doWord_376 : decode cX3_doWord 376 = .ok (.aload_n 1, 1) := by decide +kernel
theorem dX3_doWord_377 : decode cX3_doWord 377 = .ok (.getfield 74, 3) := by decide +kernel
theorem dX3_doWord_380 : decode cX3_doWord 380 = .ok (.iastore, 1) := by decide +kernel
theorem dX3_doWord_381 : decode cX3_doWord 381 = .ok (.goto 40, 3) := by decide +kernel
theorem dX3_doWord_384 : decode cX3_doWord 384 = .ok (.aload_n 3, 1) := by decide +kernel
theorem dX3_doWord_385 : decode cX3_doWord 385 = .ok (.iload 5, 2) := by decide +kernel
theorem dX3_doWord_387 : decode cX3_doWord 387 = .ok (.aload_n 0, 1) := by decide +kernel
theorem dX3_doWord_388 : decode cX3_doWord 388 = .ok (.getfield 88, 3) := by decide +kernel
theorem dX3_doWord_391 : decode cX3_doWord 391 = .ok (.iastore, 1) := by decide +kernel
theorem dX3_doWord_392 : decode cX3_doWord 392 = .ok (.goto 29, 3) := by decide +kernel
theorem dX3_doWord_395 : decode cX3_doWord 395 = .ok (.aload_n 3, 1) := by decide +kernel
theorem dX3_doWord_396 : decode cX3_doWord 396 = .ok (.iload 5, 2) := by decide +kernel
theorem dX3_doWord_398 : decode cX3_doWord 398 = .ok (.aload_n 1, 1) := by decide +kernel
theorem dX3_doWord_399 : decode cX3_doWord 399 = .ok (.getfield 95, 3) := by decide +kernel
theorem dX3_doWord_402 : decode cX3_doWord 402 = .ok (.iastore, 1) := by decide +kernel
theorem dX3_doWord_403 : decode cX3_doWord 403 = .ok (.goto 18, 3) := by decide +kernel
theorem dX3_doWord_406 : decode cX3_doWord 406 = .ok (.aload_n 3, 1) := by decide +kernel
theorem dX3_doWord_407 : decode cX3_doWord 407 = .ok (.iload 5, 2) := by decide +kernel
theorem dX3_doWord_409 : decode cX3_doWord 409 = .ok (.iload 4, 2) := by decide +kernel
theorem dX3_doWord_411 : decode cX3_doWord 411 = .ok (.iload 8, 2) := by decide +kernel
theorem dX3_doWord_413 : decode cX3_doWord 413 = .ok (.iload 9, 2) := by decide +kernel
theorem dX3_doWord_415 : decode cX3_doWord 415 = .ok (.iload 7, 2) := by decide +kernel
theorem dX3_doWord_417 : decode cX3_doWord 417 = .ok (.invokestatic 176, 3) := by decide +kernel
theorem dX3_doWord_420 : decode cX3_doWord 420 = .ok (.iastore, 1) := by decide +kernel
theorem dX3_doWord_421 : decode cX3_doWord 421 = .ok (.aload_n 1, 1) := by decide +kernel
theorem dX3_doWord_422 : decode cX3_doWord 422 = .ok (.iload 10, 2) := by decide +kernel
theorem dX3_doWord_424 : decode cX3_doWord 424 = .ok (.putfield 133, 3) := by decide +kernel
theorem dX3_doWord_427 : decode cX3_doWord 427 = .ok (.aload_n 1, 1) := by decide +kernel
theorem dX3_doWord_428 : decode cX3_doWord 428 = .ok (.dup, 1) := by decide +kernel
theorem dX3_doWord_429 : decode cX3_doWord 429 = .ok (.getfield 179, 3) := by decide +kernel
theorem dX3_doWord_432 : decode cX3_doWord 432 = .ok (.iconst 1, 1) := by decide +kernel
theorem dX3_doWord_433 : decode cX3_doWord 433 = .ok (.iadd, 1) := by decide +kernel
theorem dX3_doWord_434 : decode cX3_doWord 434 = .ok (.putfield 179, 3) := by decide +kernel
theorem dX3_doWord_437 : decode cX3_doWord 437 = .ok (.return_, 1) := by decide +kernel
theorem dX3_opOf_0 : decode cX3_opOf 0 = .ok (.iload_n 0, 1) := by decide +kernel
theorem dX3_opOf_1 : decode cX3_opOf 1 = .ok (.sipush 255, 3) := by decide +kernel
theorem dX3_opOf_4 : decode cX3_opOf 4 = .ok (.iand, 1) := by decide +kernel
theorem dX3_opOf_5 : decode cX3_opOf 5 = .ok (.ireturn, 1) := by decide +kernel
theorem dX3_rOf_0 : decode cX3_rOf 0 = .ok (.iload_n 0, 1) := by decide +kernel
theorem dX3_rOf_1 : decode cX3_rOf 1 = .ok (.bipush 8, 2) := by decide +kernel
theorem dX3_rOf_3 : decode cX3_rOf 3 = .ok (.ishr, 1) := by decide +kernel
theorem dX3_rOf_4 : decode cX3_rOf 4 = .ok (.bipush 15, 2) := by decide +kernel
theorem dX3_rOf_6 : decode cX3_rOf 6 = .ok (.iand, 1) := by decide +kernel
theorem dX3_rOf_7 : decode cX3_rOf 7 = .ok (.ireturn, 1) := by decide +kernel
theorem dX3_sOf_0 : decode cX3_sOf 0 = .ok (.iload_n 0, 1) := by decide +kernel
theorem dX3_sOf_1 : decode cX3_sOf 1 = .ok (.bipush 12, 2) := by decide +kernel
theorem dX3_sOf_3 : decode cX3_sOf 3 = .ok (.ishr, 1) := by decide +kernel
theorem dX3_sOf_4 : decode cX3_sOf 4 = .ok (.bipush 15, 2) := by decide +kernel
theorem dX3_sOf_6 : decode cX3_sOf 6 = .ok (.iand, 1) := by decide +kernel
theorem dX3_sOf_7 : decode cX3_sOf 7 = .ok (.ireturn, 1) := by decide +kernel
theorem dX3_calculated_0 : decode cX3_calculated 0 = .ok (.iload_n 0, 1) := by decide +kernel
theorem dX3_calculated_1 : decode cX3_calculated 1 = .ok (.tableswitch 115 1 9 #[51, 55, 59, 65, 71, 77, 83, 89, 102], 51) := by decide +kernel
theorem dX3_calculated_52 : decode cX3_calculated 52 = .ok (.iload_n 3, 1) := by decide +kernel
theorem dX3_calculated_53 : decode cX3_calculated 53 = .ok (.goto 64, 3) := by decide +kernel
theorem dX3_calculated_56 : decode cX3_calculated 56 = .ok (.iload_n 2, 1) := by decide +kernel
theorem dX3_calculated_57 : decode cX3_calculated 57 = .ok (.goto 60, 3) := by decide +kernel
theorem dX3_calculated_60 : decode cX3_calculated 60 = .ok (.iload_n 1, 1) := by decide +kernel
theorem dX3_calculated_61 : decode cX3_calculated 61 = .ok (.iload_n 2, 1) := by decide +kernel
theorem dX3_calculated_62 : decode cX3_calculated 62 = .ok (.iadd, 1) := by decide +kernel
theorem dX3_calculated_63 : decode cX3_calculated 63 = .ok (.goto 54, 3) := by decide +kernel
theorem dX3_calculated_66 : decode cX3_calculated 66 = .ok (.iload_n 1, 1) := by decide +kernel
theorem dX3_calculated_67 : decode cX3_calculated 67 = .ok (.iload_n 2, 1) := by decide +kernel
theorem dX3_calculated_68 : decode cX3_calculated 68 = .ok (.isub, 1) := by decide +kernel
theorem dX3_calculated_69 : decode cX3_calculated 69 = .ok (.goto 48, 3) := by decide +kernel
theorem dX3_calculated_72 : decode cX3_calculated 72 = .ok (.iload_n 1, 1) := by decide +kernel
theorem dX3_calculated_73 : decode cX3_calculated 73 = .ok (.iload_n 2, 1) := by decide +kernel
theorem dX3_calculated_74 : decode cX3_calculated 74 = .ok (.imul, 1) := by decide +kernel
theorem dX3_calculated_75 : decode cX3_calculated 75 = .ok (.goto 42, 3) := by decide +kernel
theorem dX3_calculated_78 : decode cX3_calculated 78 = .ok (.iload_n 1, 1) := by decide +kernel
theorem dX3_calculated_79 : decode cX3_calculated 79 = .ok (.iload_n 2, 1) := by decide +kernel
theorem dX3_calculated_80 : decode cX3_calculated 80 = .ok (.idiv, 1) := by decide +kernel
theorem dX3_calculated_81 : decode cX3_calculated 81 = .ok (.goto 36, 3) := by decide +kernel
theorem dX3_calculated_84 : decode cX3_calculated 84 = .ok (.iload_n 1, 1) := by decide +kernel
theorem dX3_calculated_85 : decode cX3_calculated 85 = .ok (.iload_n 2, 1) := by decide +kernel
theorem dX3_calculated_86 : decode cX3_calculated 86 = .ok (.irem, 1) := by decide +kernel
theorem dX3_calculated_87 : decode cX3_calculated 87 = .ok (.goto 30, 3) := by decide +kernel
theorem dX3_calculated_90 : decode cX3_calculated 90 = .ok (.iload_n 1, 1) := by decide +kernel
theorem dX3_calculated_91 : decode cX3_calculated 91 = .ok (.iload_n 2, 1) := by decide +kernel
theorem dX3_calculated_92 : decode cX3_calculated 92 = .ok (.if_icmp .ge 7, 3) := by decide +kernel
theorem dX3_calculated_95 : decode cX3_calculated 95 = .ok (.iconst 1, 1) := by decide +kernel
theorem dX3_calculated_96 : decode cX3_calculated 96 = .ok (.goto 21, 3) := by decide +kernel
theorem dX3_calculated_99 : decode cX3_calculated 99 = .ok (.iconst 0, 1) := by decide +kernel
theorem dX3_calculated_100 : decode cX3_calculated 100 = .ok (.goto 17, 3) := by decide +kernel
theorem dX3_calculated_103 : decode cX3_calculated 103 = .ok (.iload_n 1, 1) := by decide +kernel
theorem dX3_calculated_104 : decode cX3_calculated 104 = .ok (.iload_n 2, 1) := by decide +kernel
theorem dX3_calculated_105 : decode cX3_calculated 105 = .ok (.if_icmp .ne 7, 3) := by decide +kernel
theorem dX3_calculated_108 : decode cX3_calculated 108 = .ok (.iconst 1, 1) := by decide +kernel
theorem dX3_calculated_109 : decode cX3_calculated 109 = .ok (.goto 8, 3) := by decide +kernel
theorem dX3_calculated_112 : decode cX3_calculated 112 = .ok (.iconst 0, 1) := by decide +kernel
theorem dX3_calculated_113 : decode cX3_calculated 113 = .ok (.goto 4, 3) := by decide +kernel
theorem dX3_calculated_116 : decode cX3_calculated 116 = .ok (.iload_n 1, 1) := by decide +kernel
theorem dX3_calculated_117 : decode cX3_calculated 117 = .ok (.ireturn, 1) := by decide +kernel
set_option maxRecDepth 20000 in
theorem ggX3_go_X1_isOpen : GoodIn wsX3_go wsX1_isOpen := goodIn_r _ [10, 11, 12, 13, 37, 38, 39, 40, 41, 42] (by decide +kernel) (by decide +kernel)
set_option maxRecDepth 20000 in
theorem gX3_go_X1_isOpen : GoodIn wsX3_go (wsV RX3 49 RX1 yX1_isOpen wsX1_isOpen) := goodIn_app (goodIn_of _ (by decide +kernel)) ggX3_go_X1_isOpen
set_option maxRecDepth 20000 in
theorem ggX3_go_X3_robotOn : GoodIn wsX3_go wsX3_robotOn := goodIn_r _ [18, 19, 20, 1, 3, 33, 34, 35, 36, 21, 22, 23, 24, 25, 26, 27, 28, 29, 30, 31, 32] (by decide +kernel) (by decide +kernel)
set_option maxRecDepth 20000 in
theorem gX3_go_X3_robotOn : GoodIn wsX3_go (wsV RX3 38 RX3 yX3_robotOn wsX3_robotOn) := goodIn_app (goodIn_of _ (by decide +kernel)) ggX3_go_X3_robotOn
theorem dX3_go_0 : decode cX3_go 0 = .ok (.aload_n 1, 1) := by decide +kernel
theorem dX3_go_1 : decode cX3_go 1 = .ok (.getfield 98, 3) := by decide +kernel
theorem dX3_go_4 : decode cX3_go 4 = .ok (.getstatic 182, 3) := by decide +kernel
theorem dX3_go_7 : decode cX3_go 7 = .ok (.iload_n 2, 1) := by decide +kernel
theorem dX3_go_8 : decode cX3_go 8 = .ok (.iaload, 1) := by decide +kernel
theorem dX3_go_9 : decode cX3_go 9 = .ok (.iadd, 1) := by decide +kernel
theorem dX3_go_10 : decode cX3_go 10 = .ok (.istore_n 3, 1) := by decide +kernel
theorem dX3_go_11 : decode cX3_go 11 = .ok (.aload_n 1, 1) := by decide +kernel
theorem dX3_go_12 : decode cX3_go 12 = .ok (.getfield 101, 3) := by decide +kernel
theorem dX3_go_15 : decode cX3_go 15 = .ok (.getstatic 185, 3) := by decide +kernel
theorem dX3_go_18 : decode cX3_go 18 = .ok (.iload_n 2, 1) := by decide +kernel
theorem dX3_go_19 : decode cX3_go 19 = .ok (.iaload, 1) := by decide +kernel
theorem dX3_go_20 : decode cX3_go 20 = .ok (.iadd, 1) := by decide +kernel
theorem dX3_go_21 : decode cX3_go 21 = .ok (.istore 4, 2) := by decide +kernel
theorem dX3_go_23 : decode cX3_go 23 = .ok (.aload_n 0, 1) := by decide +kernel
theorem dX3_go_24 : decode cX3_go 24 = .ok (.getfield 18, 3) := by decide +kernel
theorem dX3_go_27 : decode cX3_go 27 = .ok (.iload_n 3, 1) := by decide +kernel
theorem dX3_go_28 : decode cX3_go 28 = .ok (.iload 4, 2) := by decide +kernel
theorem dX3_go_30 : decode cX3_go 30 = .ok (.invokevirtual 49, 3) := by decide +kernel
theorem dX3_go_33 : decode cX3_go 33 = .ok (.ifCond .ne 5, 3) := by decide +kernel
theorem dX3_go_36 : decode cX3_go 36 = .ok (.iconst 0, 1) := by decide +kernel
theorem dX3_go_37 : decode cX3_go 37 = .ok (.ireturn, 1) := by decide +kernel
theorem dX3_go_38 : decode cX3_go 38 = .ok (.aload_n 0, 1) := by decide +kernel
theorem dX3_go_39 : decode cX3_go 39 = .ok (.iload_n 3, 1) := by decide +kernel
theorem dX3_go_40 : decode cX3_go 40 = .ok (.iload 4, 2) := by decide +kernel
theorem dX3_go_42 : decode cX3_go 42 = .ok (.invokevirtual 38, 3) := by decide +kernel
theorem dX3_go_45 : decode cX3_go 45 = .ok (.ifnull 5, 3) := by decide +kernel
theorem dX3_go_48 : decode cX3_go 48 = .ok (.iconst 2, 1) := by decide +kernel
theorem dX3_go_49 : decode cX3_go 49 = .ok (.ireturn, 1) := by decide +kernel
theorem dX3_go_50 : decode cX3_go 50 = .ok (.aload_n 1, 1) := by decide +kernel
theorem dX3_go_51 : decode cX3_go 51 = .ok (.iload_n 3, 1) := by decide +kernel
theorem dX3_go_52 : decode cX3_go 52 = .ok (.putfield 98, 3) := by decide +kernel
theorem dX3_go_55 : decode cX3_go 55 = .ok (.aload_n 1, 1) := by decide +kernel
theorem dX3_go_56 : decode cX3_go 56 = .ok (.iload 4, 2) := by decide +kernel
theorem dX3_go_58 : decode cX3_go 58 = .ok (.putfield 101, 3) := by decide +kernel
theorem dX3_go_61 : decode cX3_go 61 = .ok (.iconst 1, 1) := by decide +kernel
theorem dX3_go_62 : decode cX3_go 62 = .ok (.ireturn, 1) := by decide +kernel
set_option maxRecDepth 20000 in
theorem ggX3_look_X3_at_k0 : GoodIn wsX3_look ((wsX3_at.drop 0).take 20) := goodIn_r _ [9, 10, 11, 12, 13, 14, 8, 15, 16, 17, 1, 3, 18, 19, 20, 21, 22, 23, 24, 25] (by decide +kernel) (by decide +kernel)
set_option maxRecDepth 20000 in
theorem ggX3_look_X3_at_k1 : GoodIn wsX3_look ((wsX3_at.drop 20).take 20) := goodIn_r _ [26, 27, 28, 29, 42, 43, 44, 45, 30, 31, 32, 33, 34, 35, 36, 37, 38, 39, 40, 41] (by decide +kernel) (by decide +kernel)
set_option maxRecDepth 20000 in
theorem ggX3_look_X3_at_k2 : GoodIn wsX3_look (wsX3_at.drop 40) := goodIn_r _ [46, 47, 48, 49, 50, 51] (by decide +kernel) (by decide +kernel)
set_option maxRecDepth 20000 in
theorem ggX3_look_X3_at : GoodIn wsX3_look wsX3_at := (goodIn_spl (a := 0) (b := 20) ggX3_look_X3_at_k0 (goodIn_spl (a := 20) (b := 20) ggX3_look_X3_at_k1 ggX3_look_X3_at_k2))
set_option maxRecDepth 20000 in
theorem gX3_look_X3_at : GoodIn wsX3_look (wsV RX3 188 RX3 yX3_at wsX3_at) := goodIn_app (goodIn_of _ (by decide +kernel)) ggX3_look_X3_at
theorem dX3_look_0 : decode cX3_look 0 = .ok (.aload_n 0, 1) := by decide +kernel
theorem dX3_look_1 : decode cX3_look 1 = .ok (.aload_n 1, 1) := by decide +kernel
theorem dX3_look_2 : decode cX3_look 2 = .ok (.getfield 98, 3) := by decide +kernel
theorem dX3_look_5 : decode cX3_look 5 = .ok (.getstatic 182, 3) := by decide +kernel
theorem dX3_look_8 : decode cX3_look 8 = .ok (.iload_n 2, 1) := by decide +kernel
theorem dX3_look_9 : decode cX3_look 9 = .ok (.iaload, 1) := by decide +kernel
theorem dX3_look_10 : decode cX3_look 10 = .ok (.iadd, 1) := by decide +kernel
theorem dX3_look_11 : decode cX3_look 11 = .ok (.aload_n 1, 1) := by decide +kernel
theorem dX3_look_12 : decode cX3_look 12 = .ok (.getfield 101, 3) := by decide +kernel
theorem dX3_look_15 : decode cX3_look 15 = .ok (.getstatic 185, 3) := by decide +kernel
theorem dX3_look_18 : decode cX3_look 18 = .ok (.iload_n 2, 1) := by decide +kernel
theorem dX3_look_19 : decode cX3_look 19 = .ok (.iaload, 1) := by decide +kernel
theorem dX3_look_20 : decode cX3_look 20 = .ok (.iadd, 1) := by decide +kernel
theorem dX3_look_21 : decode cX3_look 21 = .ok (.invokevirtual 188, 3) := by decide +kernel
theorem dX3_look_24 : decode cX3_look 24 = .ok (.ireturn, 1) := by decide +kernel
set_option maxRecDepth 20000 in
theorem ggX3_take_X1_removeItem : GoodIn wsX3_take wsX1_removeItem := goodIn_r _ [9, 10, 11, 12, 13, 14, 8, 15, 16, 33, 34, 35, 36, 37, 38] (by decide +kernel) (by decide +kernel)
set_option maxRecDepth 20000 in
theorem gX3_take_X1_removeItem : GoodIn wsX3_take (wsV RX3 191 RX1 yX1_removeItem wsX1_removeItem) := goodIn_app (goodIn_of _ (by decide +kernel)) ggX3_take_X1_removeItem
theorem dX3_take_0 : decode cX3_take 0 = .ok (.aload_n 1, 1) := by decide +kernel
theorem dX3_take_1 : decode cX3_take 1 = .ok (.getfield 95, 3) := by decide +kernel
theorem dX3_take_4 : decode cX3_take 4 = .ok (.bipush 9, 2) := by decide +kernel
theorem dX3_take_6 : decode cX3_take 6 = .ok (.if_icmp .ge 21, 3) := by decide +kernel
theorem dX3_take_9 : decode cX3_take 9 = .ok (.aload_n 0, 1) := by decide +kernel
theorem dX3_take_10 : decode cX3_take 10 = .ok (.getfield 18, 3) := by decide +kernel
theorem dX3_take_13 : decode cX3_take 13 = .ok (.aload_n 1, 1) := by decide +kernel
theorem dX3_take_14 : decode cX3_take 14 = .ok (.getfield 98, 3) := by decide +kernel
theorem dX3_take_17 : decode cX3_take 17 = .ok (.aload_n 1, 1) := by decide +kernel
theorem dX3_take_18 : decode cX3_take 18 = .ok (.getfield 101, 3) := by decide +kernel
theorem dX3_take_21 : decode cX3_take 21 = .ok (.invokevirtual 191, 3) := by decide +kernel
theorem dX3_take_24 : decode cX3_take 24 = .ok (.ifCond .ne 5, 3) := by decide +kernel
theorem dX3_take_27 : decode cX3_take 27 = .ok (.iconst 0, 1) := by decide +kernel
theorem dX3_take_28 : decode cX3_take 28 = .ok (.ireturn, 1) := by decide +kernel
theorem dX3_take_29 : decode cX3_take 29 = .ok (.aload_n 1, 1) := by decide +kernel
theorem dX3_take_30 : decode cX3_take 30 = .ok (.dup, 1) := by decide +kernel
theorem dX3_take_31 : decode cX3_take 31 = .ok (.getfield 95, 3) := by decide +kernel
theorem dX3_take_34 : decode cX3_take 34 = .ok (.iconst 1, 1) := by decide +kernel
theorem dX3_take_35 : decode cX3_take 35 = .ok (.iadd, 1) := by decide +kernel
theorem dX3_take_36 : decode cX3_take 36 = .ok (.putfield 95, 3) := by decide +kernel
theorem dX3_take_39 : decode cX3_take 39 = .ok (.iconst 1, 1) := by decide +kernel
theorem dX3_take_40 : decode cX3_take 40 = .ok (.ireturn, 1) := by decide +kernel
set_option maxRecDepth 20000 in
theorem ggX3_lay_X1_addItem : GoodIn wsX3_lay wsX1_addItem := goodIn_r _ [9, 10, 11, 12, 13, 14, 8, 15, 16, 33, 34, 35, 36, 37, 38] (by decide +kernel) (by decide +kernel)
set_option maxRecDepth 20000 in
theorem gX3_lay_X1_addItem : GoodIn wsX3_lay (wsV RX3 46 RX1 yX1_addItem wsX1_addItem) := goodIn_app (goodIn_of _ (by decide +kernel)) ggX3_lay_X1_addItem
theorem dX3_lay_0 : decode cX3_lay 0 = .ok (.aload_n 1, 1) := by decide +kernel
theorem dX3_lay_1 : decode cX3_lay 1 = .ok (.getfield 95, 3) := by decide +kernel
theorem dX3_lay_4 : decode cX3_lay 4 = .ok (.ifCond .le 21, 3) := by decide +kernel
theorem dX3_lay_7 : decode cX3_lay 7 = .ok (.aload_n 0, 1) := by decide +kernel
theorem dX3_lay_8 : decode cX3_lay 8 = .ok (.getfield 18, 3) := by decide +kernel
theorem dX3_lay_11 : decode cX3_lay 11 = .ok (.aload_n 1, 1) := by decide +kernel
theorem dX3_lay_12 : decode cX3_lay 12 = .ok (.getfield 98, 3) := by decide +kernel
theorem dX3_lay_15 : decode cX3_lay 15 = .ok (.aload_n 1, 1) := by decide +kernel
theorem dX3_lay_16 : decode cX3_lay 16 = .ok (.getfield 101, 3) := by decide +kernel
theorem dX3_lay_19 : decode cX3_lay 19 = .ok (.invokevirtual 46, 3) := by decide +kernel
theorem dX3_lay_22 : decode cX3_lay 22 = .ok (.ifCond .ne 5, 3) := by decide +kernel
theorem dX3_lay_25 : decode cX3_lay 25 = .ok (.iconst 0, 1) := by decide +kernel
theorem dX3_lay_26 : decode cX3_lay 26 = .ok (.ireturn, 1) := by decide +kernel
theorem dX3_lay_27 : decode cX3_lay 27 = .ok (.aload_n 1, 1) := by decide +kernel
theorem dX3_lay_28 : decode cX3_lay 28 = .ok (.dup, 1) := by decide +kernel
theorem dX3_lay_29 : decode cX3_lay 29 = .ok (.getfield 95, 3) := by decide +kernel
theorem dX3_lay_32 : decode cX3_lay 32 = .ok (.iconst 1, 1) := by decide +kernel
theorem dX3_lay_33 : decode cX3_lay 33 = .ok (.isub, 1) := by decide +kernel
theorem dX3_lay_34 : decode cX3_lay 34 = .ok (.putfield 95, 3) := by decide +kernel
theorem dX3_lay_37 : decode cX3_lay 37 = .ok (.iconst 1, 1) := by decide +kernel
theorem dX3_lay_38 : decode cX3_lay 38 = .ok (.ireturn, 1) := by decide +kernel
set_option maxRecDepth 20000 in
theorem ggX3_send_X3_robotOf : GoodIn wsX3_send wsX3_robotOf := goodIn_r _ [7, 8, 2, 9, 10, 11, 6, 12, 38, 39, 40, 41, 26, 27, 28, 29, 30, 31, 32, 33, 34, 35, 36, 37] (by decide +kernel) (by decide +kernel)
set_option maxRecDepth 20000 in
theorem gX3_send_X3_robotOf : GoodIn wsX3_send (wsV RX3 59 RX3 yX3_robotOf wsX3_robotOf) := goodIn_app (goodIn_of _ (by decide +kernel)) ggX3_send_X3_robotOf
set_option maxRecDepth 20000 in
theorem ggX3_send_X2_takesMail : GoodIn wsX3_send wsX2_takesMail := goodIn_r _ [17, 18, 26, 27, 28, 29, 30, 31, 32, 33, 34, 35, 36, 37] (by decide +kernel) (by decide +kernel)
set_option maxRecDepth 20000 in
theorem gX3_send_X2_takesMail : GoodIn wsX3_send (wsV RX3 194 RX2 yX2_takesMail wsX2_takesMail) := goodIn_app (goodIn_of _ (by decide +kernel)) ggX3_send_X2_takesMail
set_option maxRecDepth 20000 in
theorem ggX3_send_X0_add : GoodIn wsX3_send wsX0_add := goodIn_r _ [23, 24, 25, 42, 43] (by decide +kernel) (by decide +kernel)
set_option maxRecDepth 20000 in
theorem gX3_send_X0_add : GoodIn wsX3_send (wsV RX3 201 RX0 yX0_add wsX0_add) := goodIn_app (goodIn_of _ (by decide +kernel)) ggX3_send_X0_add
theorem dX3_send_0 : decode cX3_send 0 = .ok (.aload_n 0, 1) := by decide +kernel
theorem dX3_send_1 : decode cX3_send 1 = .ok (.iload_n 1, 1) := by decide +kernel
theorem dX3_send_2 : decode cX3_send 2 = .ok (.invokevirtual 59, 3) := by decide +kernel
theorem dX3_send_5 : decode cX3_send 5 = .ok (.astore_n 3, 1) := by decide +kernel
theorem dX3_send_6 : decode cX3_send 6 = .ok (.aload_n 3, 1) := by decide +kernel
theorem dX3_send_7 : decode cX3_send 7 = .ok (.ifnull 21, 3) := by decide +kernel
theorem dX3_send_10 : decode cX3_send 10 = .ok (.aload_n 3, 1) := by decide +kernel
theorem dX3_send_11 : decode cX3_send 11 = .ok (.invokevirtual 194, 3) := by decide +kernel
theorem dX3_send_14 : decode cX3_send 14 = .ok (.ifCond .eq 14, 3) := by decide +kernel
theorem dX3_send_17 : decode cX3_send 17 = .ok (.aload_n 3, 1) := by decide +kernel
theorem dX3_send_18 : decode cX3_send 18 = .ok (.getfield 197, 3) := by decide +kernel
theorem dX3_send_21 : decode cX3_send 21 = .ok (.iload_n 2, 1) := by decide +kernel
theorem dX3_send_22 : decode cX3_send 22 = .ok (.invokevirtual 201, 3) := by decide +kernel
theorem dX3_send_25 : decode cX3_send 25 = .ok (.ifCond .ne 5, 3) := by decide +kernel
theorem dX3_send_28 : decode cX3_send 28 = .ok (.iconst 0, 1) := by decide +kernel
theorem dX3_send_29 : decode cX3_send 29 = .ok (.ireturn, 1) := by decide +kernel
theorem dX3_send_30 : decode cX3_send 30 = .ok (.aload_n 3, 1) := by decide +kernel
theorem dX3_send_31 : decode cX3_send 31 = .ok (.getfield 52, 3) := by decide +kernel
theorem dX3_send_34 : decode cX3_send 34 = .ok (.iconst 4, 1) := by decide +kernel
theorem dX3_send_35 : decode cX3_send 35 = .ok (.if_icmp .ne 8, 3) := by decide +kernel
theorem dX3_send_38 : decode cX3_send 38 = .ok (.aload_n 3, 1) := by decide +kernel
theorem dX3_send_39 : decode cX3_send 39 = .ok (.iconst 2, 1) := by decide +kernel
theorem dX3_send_40 : decode cX3_send 40 = .ok (.putfield 52, 3) := by decide +kernel
theorem dX3_send_43 : decode cX3_send 43 = .ok (.iconst 1, 1) := by decide +kernel
theorem dX3_send_44 : decode cX3_send 44 = .ok (.ireturn, 1) := by decide +kernel
set_option maxRecDepth 20000 in
theorem ggX3_receive_X0_removeFirst : GoodIn wsX3_receive wsX0_removeFirst := goodIn_r _ [9, 10, 11, 12, 13, 14, 15, 28, 29] (by decide +kernel) (by decide +kernel)
set_option maxRecDepth 20000 in
theorem gX3_receive_X0_removeFirst : GoodIn wsX3_receive (wsV RX3 209 RX0 yX0_removeFirst wsX0_removeFirst) := goodIn_app (goodIn_of _ (by decide +kernel)) ggX3_receive_X0_removeFirst
theorem dX3_receive_0 : decode cX3_receive 0 = .ok (.aload_n 0, 1) := by decide +kernel
theorem dX3_receive_1 : decode cX3_receive 1 = .ok (.getfield 197, 3) := by decide +kernel
theorem dX3_receive_4 : decode cX3_receive 4 = .ok (.getfield 206, 3) := by decide +kernel
theorem dX3_receive_7 : decode cX3_receive 7 = .ok (.ifCond .ne 10, 3) := by decide +kernel
theorem dX3_receive_10 : decode cX3_receive 10 = .ok (.aload_n 0, 1) := by decide +kernel
theorem dX3_receive_11 : decode cX3_receive 11 = .ok (.iconst 4, 1) := by decide +kernel
theorem dX3_receive_12 : decode cX3_receive 12 = .ok (.putfield 52, 3) := by decide +kernel
theorem dX3_receive_15 : decode cX3_receive 15 = .ok (.iconst 0, 1) := by decide +kernel
theorem dX3_receive_16 : decode cX3_receive 16 = .ok (.ireturn, 1) := by decide +kernel
theorem dX3_receive_17 : decode cX3_receive 17 = .ok (.aload_n 0, 1) := by decide +kernel
theorem dX3_receive_18 : decode cX3_receive 18 = .ok (.getfield 136, 3) := by decide +kernel
theorem dX3_receive_21 : decode cX3_receive 21 = .ok (.iload_n 1, 1) := by decide +kernel
theorem dX3_receive_22 : decode cX3_receive 22 = .ok (.aload_n 0, 1) := by decide +kernel
theorem dX3_receive_23 : decode cX3_receive 23 = .ok (.getfield 197, 3) := by decide +kernel
theorem dX3_receive_26 : decode cX3_receive 26 = .ok (.invokevirtual 209, 3) := by decide +kernel
theorem dX3_receive_29 : decode cX3_receive 29 = .ok (.iastore, 1) := by decide +kernel
theorem dX3_receive_30 : decode cX3_receive 30 = .ok (.iconst 1, 1) := by decide +kernel
theorem dX3_receive_31 : decode cX3_receive 31 = .ok (.ireturn, 1) := by decide +kernel
