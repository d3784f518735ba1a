theorem dX0_init_0 : decode cX0_init 0 = .ok (.aload_n 0, 1) := by decide +kernel
theorem dX0_init_1 : decode cX0_init 1 = .ok (.invokespecial 1, 3) := by decide +kernel
theorem dX0_init_4 : decode cX0_init 4 = .ok (.aload_n 0, 1) := by decide +kernel
theorem dX0_init_5 : decode cX0_init 5 = .ok (.iload_n 1, 1) := by decide +kernel
theorem dX0_init_6 : decode cX0_init 6 = .ok (.newarray .int, 2) := by decide +kernel
theorem dX0_init_8 : decode cX0_init 8 = .ok (.putfield 7, 3) := by decide +kernel
theorem dX0_init_11 : decode cX0_init 11 = .ok (.return_, 1) := by decide +kernel
theorem dX0_add_0 : decode cX0_add 0 = .ok (.aload_n 0, 1) := by decide +kernel
theorem dX0_add_1 : decode cX0_add 1 = .ok (.getfield 13, 3) := by decide +kernel
theorem dX0_add_4 : decode cX0_add 4 = .ok (.aload_n 0, 1) := by decide +kernel
theorem dX0_add_5 : decode cX0_add 5 = .ok (.getfield 7, 3) := by decide +kernel
theorem dX0_add_8 : decode cX0_add 8 = .ok (.arraylength, 1) := by decide +kernel
theorem dX0_add_9 : decode cX0_add 9 = .ok (.if_icmp .lt 5, 3) := by decide +kernel
theorem dX0_add_12 : decode cX0_add 12 = .ok (.iconst 0, 1) := by decide +kernel
theorem dX0_add_13 : decode cX0_add 13 = .ok (.ireturn, 1) := by decide +kernel
theorem dX0_add_14 : decode cX0_add 14 = .ok (.aload_n 0, 1) := by decide +kernel
theorem dX0_add_15 : decode cX0_add 15 = .ok (.getfield 7, 3) := by decide +kernel
theorem dX0_add_18 : decode cX0_add 18 = .ok (.aload_n 0, 1) := by decide +kernel
theorem dX0_add_19 : decode cX0_add 19 = .ok (.getfield 13, 3) := by decide +kernel
theorem dX0_add_22 : decode cX0_add 22 = .ok (.iload_n 1, 1) := by decide +kernel
theorem dX0_add_23 : decode cX0_add 23 = .ok (.iastore, 1) := by decide +kernel
theorem dX0_add_24 : decode cX0_add 24 = .ok (.aload_n 0, 1) := by decide +kernel
theorem dX0_add_25 : decode cX0_add 25 = .ok (.dup, 1) := by decide +kernel
theorem dX0_add_26 : decode cX0_add 26 = .ok (.getfield 13, 3) := by decide +kernel
theorem dX0_add_29 : decode cX0_add 29 = .ok (.iconst 1, 1) := by decide +kernel
theorem dX0_add_30 : decode cX0_add 30 = .ok (.iadd, 1) := by decide +kernel
theorem dX0_add_31 : decode cX0_add 31 = .ok (.putfield 13, 3) := by decide +kernel
theorem dX0_add_34 : decode cX0_add 34 = .ok (.iconst 1, 1) := by decide +kernel
theorem dX0_add_35 : decode cX0_add 35 = .ok (.ireturn, 1) := by decide +kernel
theorem dX0_removeFirst_0 : decode cX0_removeFirst 0 = .ok (.aload_n 0, 1) := by decide +kernel
theorem dX0_removeFirst_1 : decode cX0_removeFirst 1 = .ok (.getfield 13, 3) := by decide +kernel
theorem dX0_removeFirst_4 : decode cX0_removeFirst 4 = .ok (.ifCond .le 15, 3) := by decide +kernel
theorem dX0_removeFirst_7 : decode cX0_removeFirst 7 = .ok (.aload_n 0, 1) := by decide +kernel
theorem dX0_removeFirst_8 : decode cX0_removeFirst 8 = .ok (.getfield 13, 3) := by decide +kernel
theorem dX0_removeFirst_11 : decode cX0_removeFirst 11 = .ok (.aload_n 0, 1) := by decide +kernel
theorem dX0_removeFirst_12 : decode cX0_removeFirst 12 = .ok (.getfield 7, 3) := by decide +kernel
theorem dX0_removeFirst_15 : decode cX0_removeFirst 15 = .ok (.arraylength, 1) := by decide +kernel
theorem dX0_removeFirst_16 : decode cX0_removeFirst 16 = .ok (.if_icmp .le 5, 3) := by decide +kernel
theorem dX0_removeFirst_19 : decode cX0_removeFirst 19 = .ok (.iconst 0, 1) := by decide +kernel
theorem dX0_removeFirst_20 : decode cX0_removeFirst 20 = .ok (.ireturn, 1) := by decide +kernel
theorem dX0_removeFirst_21 : decode cX0_removeFirst 21 = .ok (.aload_n 0, 1) := by decide +kernel
theorem dX0_removeFirst_22 : decode cX0_removeFirst 22 = .ok (.getfield 7, 3) := by decide +kernel
theorem dX0_removeFirst_25 : decode cX0_removeFirst 25 = .ok (.iconst 0, 1) := by decide +kernel
theorem dX0_removeFirst_26 : decode cX0_removeFirst 26 = .ok (.iaload, 1) := by decide +kernel
theorem dX0_removeFirst_27 : decode cX0_removeFirst 27 = .ok (.istore_n 1, 1) := by decide +kernel
theorem dX0_removeFirst_28 : decode cX0_removeFirst 28 = .ok (.aload_n 0, 1) := by decide +kernel
theorem dX0_removeFirst_29 : decode cX0_removeFirst 29 = .ok (.dup, 1) := by decide +kernel
theorem dX0_removeFirst_30 : decode cX0_removeFirst 30 = .ok (.getfield 13, 3) := by decide +kernel
theorem dX0_removeFirst_33 : decode cX0_removeFirst 33 = .ok (.iconst 1, 1) := by decide +kernel
theorem dX0_removeFirst_34 : decode cX0_removeFirst 34 = .ok (.isub, 1) := by decide +kernel
theorem dX0_removeFirst_35 : decode cX0_removeFirst 35 = .ok (.putfield 13, 3) := by decide +kernel
theorem dX0_removeFirst_38 : decode cX0_removeFirst 38 = .ok (.aload_n 0, 1) := by decide +kernel
theorem dX0_removeFirst_39 : decode cX0_removeFirst 39 = .ok (.getfield 7, 3) := by decide +kernel
theorem dX0_removeFirst_42 : decode cX0_removeFirst 42 = .ok (.iconst 1, 1) := by decide +kernel
theorem dX0_removeFirst_43 : decode cX0_removeFirst 43 = .ok (.aload_n 0, 1) := by decide +kernel
theorem dX0_removeFirst_44 : decode cX0_removeFirst 44 = .ok (.getfield 7, 3) := by decide +kernel
theorem dX0_removeFirst_47 : decode cX0_removeFirst 47 = .ok (.iconst 0, 1) := by decide +kernel
theorem dX0_removeFirst_48 : decode cX0_removeFirst 48 = .ok (.aload_n 0, 1) := by decide +kernel
theorem dX0_removeFirst_49 : decode cX0_removeFirst 49 = .ok (.getfield 13, 3) := by decide +kernel
theorem dX0_removeFirst_52 : decode cX0_removeFirst 52 = .ok (.invokestatic 17, 3) := by decide +kernel
theorem dX0_removeFirst_55 : decode cX0_removeFirst 55 = .ok (.iload_n 1, 1) := by decide +kernel
theorem dX0_removeFirst_56 : decode cX0_removeFirst 56 = .ok (.ireturn, 1) := by decide +kernel
theorem dX1_init_0 : decode cX1_init 0 = .ok (.aload_n 0, 1) := by decide +kernel
theorem dX1_init_1 : decode cX1_init 1 = .ok (.invokespecial 3, 3) := by decide +kernel
theorem dX1_init_4 : decode cX1_init 4 = .ok (.aload_n 0, 1) := by decide +kernel
theorem dX1_init_5 : decode cX1_init 5 = .ok (.iload_n 1, 1) := by decide +kernel
theorem dX1_init_6 : decode cX1_init 6 = .ok (.putfield 9, 3) := by decide +kernel
theorem dX1_init_9 : decode cX1_init 9 = .ok (.aload_n 0, 1) := by decide +kernel
theorem dX1_init_10 : decode cX1_init 10 = .ok (.iload_n 2, 1) := by decide +kernel
theorem dX1_init_11 : decode cX1_init 11 = .ok (.putfield 15, 3) := by decide +kernel
theorem dX1_init_14 : decode cX1_init 14 = .ok (.aload_n 0, 1) := by decide +kernel
theorem dX1_init_15 : decode cX1_init 15 = .ok (.iload_n 1, 1) := by decide +kernel
theorem dX1_init_16 : decode cX1_init 16 = .ok (.iload_n 2, 1) := by decide +kernel
theorem dX1_init_17 : decode cX1_init 17 = .ok (.imul, 1) := by decide +kernel
theorem dX1_init_18 : decode cX1_init 18 = .ok (.newarray .int, 2) := by decide +kernel
theorem dX1_init_20 : decode cX1_init 20 = .ok (.putfield 18, 3) := by decide +kernel
theorem dX1_init_23 : decode cX1_init 23 = .ok (.aload_n 0, 1) := by decide +kernel
theorem dX1_init_24 : decode cX1_init 24 = .ok (.iload_n 1, 1) := by decide +kernel
theorem dX1_init_25 : decode cX1_init 25 = .ok (.iload_n 2, 1) := by decide +kernel
theorem dX1_init_26 : decode cX1_init 26 = .ok (.imul, 1) := by decide +kernel
theorem dX1_init_27 : decode cX1_init 27 = .ok (.newarray .int, 2) := by decide +kernel
theorem dX1_init_29 : decode cX1_init 29 = .ok (.putfield 22, 3) := by decide +kernel
theorem dX1_init_32 : decode cX1_init 32 = .ok (.aload_n 0, 1) := by decide +kernel
theorem dX1_init_33 : decode cX1_init 33 = .ok (.iload_n 1, 1) := by decide +kernel
theorem dX1_init_34 : decode cX1_init 34 = .ok (.iload_n 2, 1) := by decide +kernel
theorem dX1_init_35 : decode cX1_init 35 = .ok (.imul, 1) := by decide +kernel
theorem dX1_init_36 : decode cX1_init 36 = .ok (.newarray .int, 2) := by decide +kernel
theorem dX1_init_38 : decode cX1_init 38 = .ok (.putfield 25, 3) := by decide +kernel
theorem dX1_init_41 : decode cX1_init 41 = .ok (.aload_n 0, 1) := by decide +kernel
theorem dX1_init_42 : decode cX1_init 42 = .ok (.iconst (-1), 1) := by decide +kernel
theorem dX1_init_43 : decode cX1_init 43 = .ok (.putfield 28, 3) := by decide +kernel
theorem dX1_init_46 : decode cX1_init 46 = .ok (.return_, 1) := by decide +kernel
set_option maxRecDepth 20000 in
theorem ggX1_clear_J7_fill_53178 : GoodIn wsX1_clear wsJ7_fill_53178 := goodIn_r _ [6] (by decide +kernel) (by decide +kernel)
set_option maxRecDepth 20000 in
theorem gX1_clear_J7_fill_53178 : GoodIn wsX1_clear (va_wsS RX1 31 yJ7_fill_53178 wsJ7_fill_53178) := goodIn_app (goodIn_of _ (by decide +kernel)) ggX1_clear_J7_fill_53178
theorem dX1_clear_0 : decode cX1_clear 0 = .ok (.aload_n 0, 1) := by decide +kernel
theorem dX1_clear_1 : decode cX1_clear 1 = .ok (.getfield 18, 3) := by decide +kernel
theorem dX1_clear_4 : decode cX1_clear 4 = .ok (.iconst 0, 1) := by decide +kernel
theorem dX1_clear_5 : decode cX1_clear 5 = .ok (.invokestatic 31, 3) := by decide +kernel
theorem dX1_clear_8 : decode cX1_clear 8 = .ok (.aload_n 0, 1) := by decide +kernel
theorem dX1_clear_9 : decode cX1_clear 9 = .ok (.iconst (-1), 1) := by decide +kernel
theorem dX1_clear_10 : decode cX1_clear 10 = .ok (.putfield 28, 3) := by decide +kernel
theorem dX1_clear_13 : decode cX1_clear 13 = .ok (.return_, 1) := by decide +kernel
theorem dX1_isInside_0 : decode cX1_isInside 0 = .ok (.iload_n 1, 1) := by decide +kernel
theorem dX1_isInside_1 : decode cX1_isInside 1 = .ok (.ifCond .lt 27, 3) := by decide +kernel
theorem dX1_isInside_4 : decode cX1_isInside 4 = .ok (.iload_n 1, 1) := by decide +kernel
theorem dX1_isInside_5 : decode cX1_isInside 5 = .ok (.aload_n 0, 1) := by decide +kernel
theorem dX1_isInside_6 : decode cX1_isInside 6 = .ok (.getfield 9, 3) := by decide +kernel
theorem dX1_isInside_9 : decode cX1_isInside 9 = .ok (.if_icmp .ge 19, 3) := by decide +kernel
theorem dX1_isInside_12 : decode cX1_isInside 12 = .ok (.iload_n 2, 1) := by decide +kernel
theorem dX1_isInside_13 : decode cX1_isInside 13 = .ok (.ifCond .lt 15, 3) := by decide +kernel
theorem dX1_isInside_16 : decode cX1_isInside 16 = .ok (.iload_n 2, 1) := by decide +kernel
theorem dX1_isInside_17 : decode cX1_isInside 17 = .ok (.aload_n 0, 1) := by decide +kernel
theorem dX1_isInside_18 : decode cX1_isInside 18 = .ok (.getfield 15, 3) := by decide +kernel
theorem dX1_isInside_21 : decode cX1_isInside 21 = .ok (.if_icmp .ge 7, 3) := by decide +kernel
theorem dX1_isInside_24 : decode cX1_isInside 24 = .ok (.iconst 1, 1) := by decide +kernel
theorem dX1_isInside_25 : decode cX1_isInside 25 = .ok (.goto 4, 3) := by decide +kernel
theorem dX1_isInside_28 : decode cX1_isInside 28 = .ok (.iconst 0, 1) := by decide +kernel
theorem dX1_isInside_29 : decode cX1_isInside 29 = .ok (.ireturn, 1) := by decide +kernel
theorem dX1_isOpen_0 : decode cX1_isOpen 0 = .ok (.iload_n 1, 1) := by decide +kernel
theorem dX1_isOpen_1 : decode cX1_isOpen 1 = .ok (.ifCond .lt 44, 3) := by decide +kernel
theorem dX1_isOpen_4 : decode cX1_isOpen 4 = .ok (.iload_n 1, 1) := by decide +kernel
theorem dX1_isOpen_5 : decode cX1_isOpen 5 = .ok (.aload_n 0, 1) := by decide +kernel
theorem dX1_isOpen_6 : decode cX1_isOpen 6 = .ok (.getfield 9, 3) := by decide +kernel
theorem dX1_isOpen_9 : decode cX1_isOpen 9 = .ok (.if_icmp .ge 36, 3) := by decide +kernel
theorem dX1_isOpen_12 : decode cX1_isOpen 12 = .ok (.iload_n 2, 1) := by decide +kernel
theorem dX1_isOpen_13 : decode cX1_isOpen 13 = .ok (.ifCond .lt 32, 3) := by decide +kernel
theorem dX1_isOpen_16 : decode cX1_isOpen 16 = .ok (.iload_n 2, 1) := by decide +kernel
theorem dX1_isOpen_17 : decode cX1_isOpen 17 = .ok (.aload_n 0, 1) := by decide +kernel
theorem dX1_isOpen_18 : decode cX1_isOpen 18 = .ok (.getfield 15, 3) := by decide +kernel
theorem dX1_isOpen_21 : decode cX1_isOpen 21 = .ok (.if_icmp .ge 24, 3) := by decide +kernel
theorem dX1_isOpen_24 : decode cX1_isOpen 24 = .ok (.aload_n 0, 1) := by decide +kernel
theorem dX1_isOpen_25 : decode cX1_isOpen 25 = .ok (.getfield 18, 3) := by decide +kernel
theorem dX1_isOpen_28 : decode cX1_isOpen 28 = .ok (.iload_n 2, 1) := by decide +kernel
theorem dX1_isOpen_29 : decode cX1_isOpen 29 = .ok (.aload_n 0, 1) := by decide +kernel
theorem dX1_isOpen_30 : decode cX1_isOpen 30 = .ok (.getfield 9, 3) := by decide +kernel
theorem dX1_isOpen_33 : decode cX1_isOpen 33 = .ok (.imul, 1) := by decide +kernel
theorem dX1_isOpen_34 : decode cX1_isOpen 34 = .ok (.iload_n 1, 1) := by decide +kernel
theorem dX1_isOpen_35 : decode cX1_isOpen 35 = .ok (.iadd, 1) := by decide +kernel
theorem dX1_isOpen_36 : decode cX1_isOpen 36 = .ok (.iaload, 1) := by decide +kernel
theorem dX1_isOpen_37 : decode cX1_isOpen 37 = .ok (.iconst (-1), 1) := by decide +kernel
theorem dX1_isOpen_38 : decode cX1_isOpen 38 = .ok (.if_icmp .eq 7, 3) := by decide +kernel
theorem dX1_isOpen_41 : decode cX1_isOpen 41 = .ok (.iconst 1, 1) := by decide +kernel
theorem dX1_isOpen_42 : decode cX1_isOpen 42 = .ok (.goto 4, 3) := by decide +kernel
theorem dX1_isOpen_45 : decode cX1_isOpen 45 = .ok (.iconst 0, 1) := by decide +kernel
theorem dX1_isOpen_46 : decode cX1_isOpen 46 = .ok (.ireturn, 1) := by decide +kernel
set_option maxRecDepth 20000 in
theorem ggX1_contentOf_X1_isInside : GoodIn wsX1_contentOf wsX1_isInside := goodIn_r _ [7, 2, 8, 9, 10, 11, 12, 13, 14] (by decide +kernel) (by decide +kernel)
set_option maxRecDepth 20000 in
theorem gX1_contentOf_X1_isInside : GoodIn wsX1_contentOf (wsV RX1 37 RX1 yX1_isInside wsX1_isInside) := goodIn_app (goodIn_of _ (by decide +kernel)) ggX1_contentOf_X1_isInside
theorem dX1_contentOf_0 : decode cX1_contentOf 0 = .ok (.aload_n 0, 1) := by decide +kernel
theorem dX1_contentOf_1 : decode cX1_contentOf 1 = .ok (.iload_n 1, 1) := by decide +kernel
theorem dX1_contentOf_2 : decode cX1_contentOf 2 = .ok (.iload_n 2, 1) := by decide +kernel
theorem dX1_contentOf_3 : decode cX1_contentOf 3 = .ok (.invokevirtual 37, 3) := by decide +kernel
theorem dX1_contentOf_6 : decode cX1_contentOf 6 = .ok (.ifCond .eq 19, 3) := by decide +kernel
theorem dX1_contentOf_9 : decode cX1_contentOf 9 = .ok (.aload_n 0, 1) := by decide +kernel
theorem dX1_contentOf_10 : decode cX1_contentOf 10 = .ok (.getfield 18, 3) := by decide +kernel
theorem dX1_contentOf_13 : decode cX1_contentOf 13 = .ok (.iload_n 2, 1) := by decide +kernel
theorem dX1_contentOf_14 : decode cX1_contentOf 14 = .ok (.aload_n 0, 1) := by decide +kernel
theorem dX1_contentOf_15 : decode cX1_contentOf 15 = .ok (.getfield 9, 3) := by decide +kernel
theorem dX1_contentOf_18 : decode cX1_contentOf 18 = .ok (.imul, 1) := by decide +kernel
theorem dX1_contentOf_19 : decode cX1_contentOf 19 = .ok (.iload_n 1, 1) := by decide +kernel
theorem dX1_contentOf_20 : decode cX1_contentOf 20 = .ok (.iadd, 1) := by decide +kernel
theorem dX1_contentOf_21 : decode cX1_contentOf 21 = .ok (.iaload, 1) := by decide +kernel
theorem dX1_contentOf_22 : decode cX1_contentOf 22 = .ok (.goto 5, 3) := by decide +kernel
theorem dX1_contentOf_25 : decode cX1_contentOf 25 = .ok (.bipush (-2), 2) := by decide +kernel
theorem dX1_contentOf_27 : decode cX1_contentOf 27 = .ok (.ireturn, 1) := by decide +kernel
set_option maxRecDepth 20000 in
theorem ggX1_changeWall_X1_isInside : GoodIn wsX1_changeWall wsX1_isInside := goodIn_r _ [8, 1, 9, 10, 11, 12, 13, 14, 15] (by decide +kernel) (by decide +kernel)
set_option maxRecDepth 20000 in
theorem gX1_changeWall_X1_isInside : GoodIn wsX1_changeWall (wsV RX1 37 RX1 yX1_isInside wsX1_isInside) := goodIn_app (goodIn_of _ (by decide +kernel)) ggX1_changeWall_X1_isInside
theorem dX1_changeWall_0 : decode cX1_changeWall 0 = .ok (.aload_n 0, 1) := by decide +kernel
theorem dX1_changeWall_1 : decode cX1_changeWall 1 = .ok (.iload_n 1, 1) := by decide +kernel
theorem dX1_changeWall_2 : decode cX1_changeWall 2 = .ok (.iload_n 2, 1) := by decide +kernel
theorem dX1_changeWall_3 : decode cX1_changeWall 3 = .ok (.invokevirtual 37, 3) := by decide +kernel
theorem dX1_changeWall_6 : decode cX1_changeWall 6 = .ok (.ifCond .ne 4, 3) := by decide +kernel
theorem dX1_changeWall_9 : decode cX1_changeWall 9 = .ok (.return_, 1) := by decide +kernel
theorem dX1_changeWall_10 : decode cX1_changeWall 10 = .ok (.iload_n 2, 1) := by decide +kernel
theorem dX1_changeWall_11 : decode cX1_changeWall 11 = .ok (.aload_n 0, 1) := by decide +kernel
theorem dX1_changeWall_12 : decode cX1_changeWall 12 = .ok (.getfield 9, 3) := by decide +kernel
theorem dX1_changeWall_15 : decode cX1_changeWall 15 = .ok (.imul, 1) := by decide +kernel
theorem dX1_changeWall_16 : decode cX1_changeWall 16 = .ok (.iload_n 1, 1) := by decide +kernel
theorem dX1_changeWall_17 : decode cX1_changeWall 17 = .ok (.iadd, 1) := by decide +kernel
theorem dX1_changeWall_18 : decode cX1_changeWall 18 = .ok (.istore 4, 2) := by decide +kernel
theorem dX1_changeWall_20 : decode cX1_changeWall 20 = .ok (.iload_n 3, 1) := by decide +kernel
theorem dX1_changeWall_21 : decode cX1_changeWall 21 = .ok (.ifCond .eq 14, 3) := by decide +kernel
theorem dX1_changeWall_24 : decode cX1_changeWall 24 = .ok (.aload_n 0, 1) := by decide +kernel
theorem dX1_changeWall_25 : decode cX1_changeWall 25 = .ok (.getfield 18, 3) := by decide +kernel
theorem dX1_changeWall_28 : decode cX1_changeWall 28 = .ok (.iload 4, 2) := by decide +kernel
theorem dX1_changeWall_30 : decode cX1_changeWall 30 = .ok (.iconst (-1), 1) := by decide +kernel
theorem dX1_changeWall_31 : decode cX1_changeWall 31 = .ok (.iastore, 1) := by decide +kernel
theorem dX1_changeWall_32 : decode cX1_changeWall 32 = .ok (.goto 22, 3) := by decide +kernel
theorem dX1_changeWall_35 : decode cX1_changeWall 35 = .ok (.aload_n 0, 1) := by decide +kernel
theorem dX1_changeWall_36 : decode cX1_changeWall 36 = .ok (.getfield 18, 3) := by decide +kernel
theorem dX1_changeWall_39 : decode cX1_changeWall 39 = .ok (.iload 4, 2) := by decide +kernel
theorem dX1_changeWall_41 : decode cX1_changeWall 41 = .ok (.iaload, 1) := by decide +kernel
theorem dX1_changeWall_42 : decode cX1_changeWall 42 = .ok (.iconst (-1), 1) := by decide +kernel
theorem dX1_changeWall_43 : decode cX1_changeWall 43 = .ok (.if_icmp .ne 11, 3) := by decide +kernel
theorem dX1_changeWall_46 : decode cX1_changeWall 46 = .ok (.aload_n 0, 1) := by decide +kernel
theorem dX1_changeWall_47 : decode cX1_changeWall 47 = .ok (.getfield 18, 3) := by decide +kernel
theorem dX1_changeWall_50 : decode cX1_changeWall 50 = .ok (.iload 4, 2) := by decide +kernel
theorem dX1_changeWall_52 : decode cX1_changeWall 52 = .ok (.iconst 0, 1) := by decide +kernel
theorem dX1_changeWall_53 : decode cX1_changeWall 53 = .ok (.iastore, 1) := by decide +kernel
theorem dX1_changeWall_54 : decode cX1_changeWall 54 = .ok (.aload_n 0, 1) := by decide +kernel
theorem dX1_changeWall_55 : decode cX1_changeWall 55 = .ok (.iconst (-1), 1) := by decide +kernel
theorem dX1_changeWall_56 : decode cX1_changeWall 56 = .ok (.putfield 28, 3) := by decide +kernel
theorem dX1_changeWall_59 : decode cX1_changeWall 59 = .ok (.return_, 1) := by decide +kernel
set_option maxRecDepth 20000 in
theorem ggX1_addItem_X1_isOpen : GoodIn wsX1_addItem wsX1_isOpen := goodIn_r _ [7, 1, 8, 2, 9, 10, 11, 12, 13, 14] (by decide +kernel) (by decide +kernel)
set_option maxRecDepth 20000 in
theorem gX1_addItem_X1_isOpen : GoodIn wsX1_addItem (wsV RX1 41 RX1 yX1_isOpen wsX1_isOpen) := goodIn_app (goodIn_of _ (by decide +kernel)) ggX1_addItem_X1_isOpen
theorem dX1_addItem_0 : decode cX1_addItem 0 = .ok (.aload_n 0, 1) := by decide +kernel
theorem dX1_addItem_1 : decode cX1_addItem 1 = .ok (.iload_n 1, 1) := by decide +kernel
theorem dX1_addItem_2 : decode cX1_addItem 2 = .ok (.iload_n 2, 1) := by decide +kernel
theorem dX1_addItem_3 : decode cX1_addItem 3 = .ok (.invokevirtual 41, 3) := by decide +kernel
theorem dX1_addItem_6 : decode cX1_addItem 6 = .ok (.ifCond .ne 5, 3) := by decide +kernel
theorem dX1_addItem_9 : decode cX1_addItem 9 = .ok (.iconst 0, 1) := by decide +kernel
theorem dX1_addItem_10 : decode cX1_addItem 10 = .ok (.ireturn, 1) := by decide +kernel
theorem dX1_addItem_11 : decode cX1_addItem 11 = .ok (.iload_n 2, 1) := by decide +kernel
theorem dX1_addItem_12 : decode cX1_addItem 12 = .ok (.aload_n 0, 1) := by decide +kernel
theorem dX1_addItem_13 : decode cX1_addItem 13 = .ok (.getfield 9, 3) := by decide +kernel
theorem dX1_addItem_16 : decode cX1_addItem 16 = .ok (.imul, 1) := by decide +kernel
theorem dX1_addItem_17 : decode cX1_addItem 17 = .ok (.iload_n 1, 1) := by decide +kernel
theorem dX1_addItem_18 : decode cX1_addItem 18 = .ok (.iadd, 1) := by decide +kernel
theorem dX1_addItem_19 : decode cX1_addItem 19 = .ok (.istore_n 3, 1) := by decide +kernel
theorem dX1_addItem_20 : decode cX1_addItem 20 = .ok (.aload_n 0, 1) := by decide +kernel
theorem dX1_addItem_21 : decode cX1_addItem 21 = .ok (.getfield 18, 3) := by decide +kernel
theorem dX1_addItem_24 : decode cX1_addItem 24 = .ok (.iload_n 3, 1) := by decide +kernel
theorem dX1_addItem_25 : decode cX1_addItem 25 = .ok (.iaload, 1) := by decide +kernel
theorem dX1_addItem_26 : decode cX1_addItem 26 = .ok (.bipush 99, 2) := by decide +kernel
theorem dX1_addItem_28 : decode cX1_addItem 28 = .ok (.if_icmp .lt 5, 3) := by decide +kernel
theorem dX1_addItem_31 : decode cX1_addItem 31 = .ok (.iconst 0, 1) := by decide +kernel
theorem dX1_addItem_32 : decode cX1_addItem 32 = .ok (.ireturn, 1) := by decide +kernel
theorem dX1_addItem_33 : decode cX1_addItem 33 = .ok (.aload_n 0, 1) := by decide +kernel
theorem dX1_addItem_34 : decode cX1_addItem 34 = .ok (.getfield 18, 3) := by decide +kernel
theorem dX1_addItem_37 : decode cX1_addItem 37 = .ok (.iload_n 3, 1) := by decide +kernel
theorem dX1_addItem_38 : decode cX1_addItem 38 = .ok (.dup2, 1) := by decide +kernel
theorem dX1_addItem_39 : decode cX1_addItem 39 = .ok (.iaload, 1) := by decide +kernel
theorem dX1_addItem_40 : decode cX1_addItem 40 = .ok (.iconst 1, 1) := by decide +kernel
theorem dX1_addItem_41 : decode cX1_addItem 41 = .ok (.iadd, 1) := by decide +kernel
theorem dX1_addItem_42 : decode cX1_addItem 42 = .ok (.iastore, 1) := by decide +kernel
theorem dX1_addItem_43 : decode cX1_addItem 43 = .ok (.iconst 1, 1) := by decide +kernel
theorem dX1_addItem_44 : decode cX1_addItem 44 = .ok (.ireturn, 1) := by decide +kernel
set_option maxRecDepth 20000 in
theorem ggX1_removeItem_X1_isOpen : GoodIn wsX1_removeItem wsX1_isOpen := goodIn_r _ [7, 1, 8, 2, 9, 10, 11, 12, 13, 14] (by decide +kernel) (by decide +kernel)
set_option maxRecDepth 20000 in
theorem gX1_removeItem_X1_isOpen : GoodIn wsX1_removeItem (wsV RX1 41 RX1 yX1_isOpen wsX1_isOpen) := goodIn_app (goodIn_of _ (by decide +kernel)) ggX1_removeItem_X1_isOpen
theorem dX1_removeItem_0 : decode cX1_removeItem 0 = .ok (.aload_n 0, 1) := by decide +kernel
theorem dX1_removeItem_1 : decode cX1_removeItem 1 = .ok (.iload_n 1, 1) := by decide +kernel
theorem dX1_removeItem_2 : decode cX1_removeItem 2 = .ok (.iload_n 2, 1) := by decide +kernel
theorem dX1_removeItem_3 : decode cX1_removeItem 3 = .ok (.invokevirtual 41, 3) := by decide +kernel
theorem dX1_removeItem_6 : decode cX1_removeItem 6 = .ok (.ifCond .ne 5, 3) := by decide +kernel
theorem dX1_removeItem_9 : decode cX1_removeItem 9 = .ok (.iconst 0, 1) := by decide +kernel
theorem dX1_removeItem_10 : decode cX1_removeItem 10 = .ok (.ireturn, 1) := by decide +kernel
theorem dX1_removeItem_11 : decode cX1_removeItem 11 = .ok (.iload_n 2, 1) := by decide +kernel
theorem dX1_removeItem_12 : decode cX1_removeItem 12 = .ok (.aload_n 0, 1) := by decide +kernel
theorem dX1_removeItem_13 : decode cX1_removeItem 13 = .ok (.getfield 9, 3) := by decide +kernel
theorem dX1_removeItem_16 : decode cX1_removeItem 16 = .ok (.imul, 1) := by decide +kernel
theorem dX1_removeItem_17 : decode cX1_removeItem 17 = .ok (.iload_n 1, 1) := by decide +kernel
theorem dX1_removeItem_18 : decode cX1_removeItem 18 = .ok (.iadd, 1) := by decide +kernel
theorem dX1_removeItem_19 : decode cX1_removeItem 19 = .ok (.istore_n 3, 1) := by decide +kernel
theorem dX1_removeItem_20 : decode cX1_removeItem 20 = .ok (.aload_n 0, 1) := by decide +kernel
theorem dX1_removeItem_21 : decode cX1_removeItem 21 = .ok (.getfield 18, 3) := by decide +kernel
theorem dX1_removeItem_24 : decode cX1_removeItem 24 = .ok (.iload_n 3, 1) := by decide +kernel
theorem dX1_removeItem_25 : decode cX1_removeItem 25 = .ok (.iaload, 1) := by decide +kernel
theorem dX1_removeItem_26 : decode cX1_removeItem 26 = .ok (.ifCond .gt 5, 3) := by decide +kernel
theorem dX1_removeItem_29 : decode cX1_removeItem 29 = .ok (.iconst 0, 1) := by decide +kernel
theorem dX1_removeItem_30 : decode cX1_removeItem 30 = .ok (.ireturn, 1) := by decide +kernel
theorem dX1_removeItem_31 : decode cX1_removeItem 31 = .ok (.aload_n 0, 1) := by decide +kernel
theorem dX1_removeItem_32 : decode cX1_removeItem 32 = .ok (.getfield 18, 3) := by decide +kernel
theorem dX1_removeItem_35 : decode cX1_removeItem 35 = .ok (.iload_n 3, 1) := by decide +kernel
theorem dX1_removeItem_36 : decode cX1_removeItem 36 = .ok (.dup2, 1) := by decide +kernel
theorem dX1_removeItem_37 : decode cX1_removeItem 37 = .ok (.iaload, 1) := by decide +kernel
theorem dX1_removeItem_38 : decode cX1_removeItem 38 = .ok (.iconst 1, 1) := by decide +kernel
theorem dX1_removeItem_39 : decode cX1_removeItem 39 = .ok (.isub, 1) := by decide +kernel
theorem dX1_removeItem_40 : decode cX1_removeItem 40 = .ok (.iastore, 1) := by decide +kernel
theorem dX1_removeItem_41 : decode cX1_removeItem 41 = .ok (.iconst 1, 1) := by decide +kernel
theorem dX1_removeItem_42 : decode cX1_removeItem 42 = .ok (.ireturn, 1) := by decide +kernel
set_option maxRecDepth 20000 in
theorem ggX1_wayLength_X1_isOpen : GoodIn wsX1_wayLength wsX1_isOpen := goodIn_r _ [5, 6, 7, 8, 28, 29, 30, 31, 32, 33] (by decide +kernel) (by decide +kernel)
set_option maxRecDepth 20000 in
theorem gX1_wayLength_X1_isOpen : GoodIn wsX1_wayLength (wsV RX1 41 RX1 yX1_isOpen wsX1_isOpen) := goodIn_app (goodIn_of _ (by decide +kernel)) ggX1_wayLength_X1_isOpen
set_option maxRecDepth 20000 in
theorem ggX1_wayLength_X1_measureFrom : GoodIn wsX1_wayLength wsX1_measureFrom := goodIn_r _ [12, 13, 14, 6, 15, 16, 17, 18, 19, 1, 2, 3, 4, 5, 7, 8, 28, 29, 30, 31, 32, 33] (by decide +kernel) (by decide +kernel)
set_option maxRecDepth 20000 in
theorem gX1_wayLength_X1_measureFrom : GoodIn wsX1_wayLength (wsV RX1 44 RX1 yX1_measureFrom wsX1_measureFrom) := goodIn_app (goodIn_of _ (by decide +kernel)) ggX1_wayLength_X1_measureFrom
set_option maxRecDepth 20000 in
theorem ggX1_wayLength_X1_stepsOf : GoodIn wsX1_wayLength wsX1_stepsOf := goodIn_r _ [23, 14, 6, 24, 25, 26, 4, 27, 7, 28, 29, 30, 31, 32, 33] (by decide +kernel) (by decide +kernel)
set_option maxRecDepth 20000 in
theorem gX1_wayLength_X1_stepsOf : GoodIn wsX1_wayLength (wsV RX1 48 RX1 yX1_stepsOf wsX1_stepsOf) := goodIn_app (goodIn_of _ (by decide +kernel)) ggX1_wayLength_X1_stepsOf
theorem dX1_wayLength_0 : decode cX1_wayLength 0 = .ok (.aload_n 0, 1) := by decide +kernel
theorem dX1_wayLength_1 : decode cX1_wayLength 1 = .ok (.iload_n 3, 1) := by decide +kernel
theorem dX1_wayLength_2 : decode cX1_wayLength 2 = .ok (.iload 4, 2) := by decide +kernel
theorem dX1_wayLength_4 : decode cX1_wayLength 4 = .ok (.invokevirtual 41, 3) := by decide +kernel
theorem dX1_wayLength_7 : decode cX1_wayLength 7 = .ok (.ifCond .ne 5, 3) := by decide +kernel
theorem dX1_wayLength_10 : decode cX1_wayLength 10 = .ok (.iconst (-1), 1) := by decide +kernel
theorem dX1_wayLength_11 : decode cX1_wayLength 11 = .ok (.ireturn, 1) := by decide +kernel
theorem dX1_wayLength_12 : decode cX1_wayLength 12 = .ok (.aload_n 0, 1) := by decide +kernel
theorem dX1_wayLength_13 : decode cX1_wayLength 13 = .ok (.iload_n 3, 1) := by decide +kernel
theorem dX1_wayLength_14 : decode cX1_wayLength 14 = .ok (.iload 4, 2) := by decide +kernel
theorem dX1_wayLength_16 : decode cX1_wayLength 16 = .ok (.invokevirtual 44, 3) := by decide +kernel
theorem dX1_wayLength_19 : decode cX1_wayLength 19 = .ok (.aload_n 0, 1) := by decide +kernel
theorem dX1_wayLength_20 : decode cX1_wayLength 20 = .ok (.iload_n 1, 1) := by decide +kernel
theorem dX1_wayLength_21 : decode cX1_wayLength 21 = .ok (.iload_n 2, 1) := by decide +kernel
theorem dX1_wayLength_22 : decode cX1_wayLength 22 = .ok (.invokevirtual 48, 3) := by decide +kernel
theorem dX1_wayLength_25 : decode cX1_wayLength 25 = .ok (.ireturn, 1) := by decide +kernel
set_option maxRecDepth 20000 in
theorem ggX1_firstStep_X1_wayLength : GoodIn wsX1_firstStep wsX1_wayLength := goodIn_r _ [5, 6, 7, 8, 4, 9, 10, 11, 12, 13, 14, 15, 16, 17, 18, 19, 20, 21, 22, 23, 24, 25, 26, 27, 28, 29, 30, 31, 32, 33, 34, 35, 36, 37] (by decide +kernel) (by decide +kernel)
set_option maxRecDepth 20000 in
theorem gX1_firstStep_X1_wayLength : GoodIn wsX1_firstStep (wsV RX1 52 RX1 yX1_wayLength wsX1_wayLength) := goodIn_app (goodIn_of _ (by decide +kernel)) ggX1_firstStep_X1_wayLength
set_option maxRecDepth 20000 in
theorem ggX1_firstStep_X1_stepsOf : GoodIn wsX1_firstStep wsX1_stepsOf := goodIn_r _ [27, 18, 10, 28, 29, 30, 4, 31, 11, 32, 33, 34, 35, 36, 37] (by decide +kernel) (by decide +kernel)
set_option maxRecDepth 20000 in
theorem gX1_firstStep_X1_stepsOf : GoodIn wsX1_firstStep (wsV RX1 48 RX1 yX1_stepsOf wsX1_stepsOf) := goodIn_app (goodIn_of _ (by decide +kernel)) ggX1_firstStep_X1_stepsOf
theorem dX1_firstStep_0 : decode cX1_firstStep 0 = .ok (.aload_n 0, 1) := by decide +kernel
theorem dX1_firstStep_1 : decode cX1_firstStep 1 = .ok (.iload_n 1, 1) := by decide +kernel
theorem dX1_firstStep_2 : decode cX1_firstStep 2 = .ok (.iload_n 2, 1) := by decide +kernel
theorem dX1_firstStep_3 : decode cX1_firstStep 3 = .ok (.iload_n 3, 1) := by decide +kernel
theorem dX1_firstStep_4 : decode cX1_firstStep 4 = .ok (.iload 4, 2) := by decide +kernel
theorem dX1_firstStep_6 : decode cX1_firstStep 6 = .ok (.invokevirtual 52, 3) := by decide +kernel
theorem dX1_firstStep_9 : decode cX1_firstStep 9 = .ok (.istore 5, 2) := by decide +kernel
theorem dX1_firstStep_11 : decode cX1_firstStep 11 = .ok (.iload 5, 2) := by decide +kernel
theorem dX1_firstStep_13 : decode cX1_firstStep 13 = .ok (.ifCond .ne 5, 3) := by decide +kernel
theorem dX1_firstStep_16 : decode cX1_firstStep 16 = .ok (.iconst 4, 1) := by decide +kernel
theorem dX1_firstStep_17 : decode cX1_firstStep 17 = .ok (.ireturn, 1) := by decide +kernel
theorem dX1_firstStep_18 : decode cX1_firstStep 18 = .ok (.iconst 0, 1) := by decide +kernel
theorem dX1_firstStep_19 : decode cX1_firstStep 19 = .ok (.istore 6, 2) := by decide +kernel
theorem dX1_firstStep_21 : decode cX1_firstStep 21 = .ok (.iload 5, 2) := by decide +kernel
theorem dX1_firstStep_23 : decode cX1_firstStep 23 = .ok (.ifCond .le 45, 3) := by decide +kernel
theorem dX1_firstStep_26 : decode cX1_firstStep 26 = .ok (.iload 6, 2) := by decide +kernel
theorem dX1_firstStep_28 : decode cX1_firstStep 28 = .ok (.iconst 4, 1) := by decide +kernel
theorem dX1_firstStep_29 : decode cX1_firstStep 29 = .ok (.if_icmp .ge 39, 3) := by decide +kernel
theorem dX1_firstStep_32 : decode cX1_firstStep 32 = .ok (.aload_n 0, 1) := by decide +kernel
theorem dX1_firstStep_33 : decode cX1_firstStep 33 = .ok (.iload_n 1, 1) := by decide +kernel
theorem dX1_firstStep_34 : decode cX1_firstStep 34 = .ok (.getstatic 56, 3) := by decide +kernel
theorem dX1_firstStep_37 : decode cX1_firstStep 37 = .ok (.iload 6, 2) := by decide +kernel
theorem dX1_firstStep_39 : decode cX1_firstStep 39 = .ok (.iaload, 1) := by decide +kernel
theorem dX1_firstStep_40 : decode cX1_firstStep 40 = .ok (.iadd, 1) := by decide +kernel
theorem dX1_firstStep_41 : decode cX1_firstStep 41 = .ok (.iload_n 2, 1) := by decide +kernel
theorem dX1_firstStep_42 : decode cX1_firstStep 42 = .ok (.getstatic 59, 3) := by decide +kernel
theorem dX1_firstStep_45 : decode cX1_firstStep 45 = .ok (.iload 6, 2) := by decide +kernel
theorem dX1_firstStep_47 : decode cX1_firstStep 47 = .ok (.iaload, 1) := by decide +kernel
theorem dX1_firstStep_48 : decode cX1_firstStep 48 = .ok (.iadd, 1) := by decide +kernel
theorem dX1_firstStep_49 : decode cX1_firstStep 49 = .ok (.invokevirtual 48, 3) := by decide +kernel
theorem dX1_firstStep_52 : decode cX1_firstStep 52 = .ok (.iload 5, 2) := by decide +kernel
theorem dX1_firstStep_54 : decode cX1_firstStep 54 = .ok (.iconst 1, 1) := by decide +kernel
theorem dX1_firstStep_55 : decode cX1_firstStep 55 = .ok (.isub, 1) := by decide +kernel
theorem dX1_firstStep_56 : decode cX1_firstStep 56 = .ok (.if_icmp .ne 6, 3) := by decide +kernel
theorem dX1_firstStep_59 : decode cX1_firstStep 59 = .ok (.iload 6, 2) := by decide +kernel
theorem dX1_firstStep_61 : decode cX1_firstStep 61 = .ok (.ireturn, 1) := by decide +kernel
theorem dX1_firstStep_62 : decode cX1_firstStep 62 = .ok (.iinc 6 1, 3) := by decide +kernel
theorem dX1_firstStep_65 : decode cX1_firstStep 65 = .ok (.goto (-44), 3) := by decide +kernel
theorem dX1_firstStep_68 : decode cX1_firstStep 68 = .ok (.iconst (-1), 1) := by decide +kernel
theorem dX1_firstStep_69 : decode cX1_firstStep 69 = .ok (.ireturn, 1) := by decide +kernel
set_option maxRecDepth 20000 in
theorem ggX1_stepsOf_X1_isInside : GoodIn wsX1_stepsOf wsX1_isInside := goodIn_r _ [7, 2, 8, 9, 10, 11, 12, 13, 14] (by decide +kernel) (by decide +kernel)
set_option maxRecDepth 20000 in
theorem gX1_stepsOf_X1_isInside : GoodIn wsX1_stepsOf (wsV RX1 37 RX1 yX1_isInside wsX1_isInside) := goodIn_app (goodIn_of _ (by decide +kernel)) ggX1_stepsOf_X1_isInside
theorem dX1_stepsOf_0 : decode cX1_stepsOf 0 = .ok (.aload_n 0, 1) := by decide +kernel
theorem dX1_stepsOf_1 : decode cX1_stepsOf 1 = .ok (.iload_n 1, 1) := by decide +kernel
theorem dX1_stepsOf_2 : decode cX1_stepsOf 2 = .ok (.iload_n 2, 1) := by decide +kernel
theorem dX1_stepsOf_3 : decode cX1_stepsOf 3 = .ok (.invokevirtual 37, 3) := by decide +kernel
theorem dX1_stepsOf_6 : decode cX1_stepsOf 6 = .ok (.ifCond .eq 19, 3) := by decide +kernel
theorem dX1_stepsOf_9 : decode cX1_stepsOf 9 = .ok (.aload_n 0, 1) := by decide +kernel
theorem dX1_stepsOf_10 : decode cX1_stepsOf 10 = .ok (.getfield 22, 3) := by decide +kernel
theorem dX1_stepsOf_13 : decode cX1_stepsOf 13 = .ok (.iload_n 2, 1) := by decide +kernel
theorem dX1_stepsOf_14 : decode cX1_stepsOf 14 = .ok (.aload_n 0, 1) := by decide +kernel
theorem dX1_stepsOf_15 : decode cX1_stepsOf 15 = .ok (.getfield 9, 3) := by decide +kernel
theorem dX1_stepsOf_18 : decode cX1_stepsOf 18 = .ok (.imul, 1) := by decide +kernel
theorem dX1_stepsOf_19 : decode cX1_stepsOf 19 = .ok (.iload_n 1, 1) := by decide +kernel
theorem dX1_stepsOf_20 : decode cX1_stepsOf 20 = .ok (.iadd, 1) := by decide +kernel
theorem dX1_stepsOf_21 : decode cX1_stepsOf 21 = .ok (.iaload, 1) := by decide +kernel
theorem dX1_stepsOf_22 : decode cX1_stepsOf 22 = .ok (.goto 4, 3) := by decide +kernel
theorem dX1_stepsOf_25 : decode cX1_stepsOf 25 = .ok (.iconst (-1), 1) := by decide +kernel
theorem dX1_stepsOf_26 : decode cX1_stepsOf 26 = .ok (.ireturn, 1) := by decide +kernel
set_option maxRecDepth 20000 in
theorem ggX1_measureFrom_J7_fill_53178 : GoodIn wsX1_measureFrom wsJ7_fill_53178 := goodIn_r _ [8] (by decide +kernel) (by decide +kernel)
set_option maxRecDepth 20000 in
theorem gX1_measureFrom_J7_fill_53178 : GoodIn wsX1_measureFrom (va_wsS RX1 31 yJ7_fill_53178 wsJ7_fill_53178) := goodIn_app (goodIn_of _ (by decide +kernel)) ggX1_measureFrom_J7_fill_53178
set_option maxRecDepth 20000 in
theorem ggX1_measureFrom_X1_isOpen : GoodIn wsX1_measureFrom wsX1_isOpen := goodIn_r _ [13, 3, 14, 15, 16, 17, 18, 19, 20, 21] (by decide +kernel) (by decide +kernel)
set_option maxRecDepth 20000 in
theorem gX1_measureFrom_X1_isOpen : GoodIn wsX1_measureFrom (wsV RX1 41 RX1 yX1_isOpen wsX1_isOpen) := goodIn_app (goodIn_of _ (by decide +kernel)) ggX1_measureFrom_X1_isOpen
theorem dX1_measureFrom_0 : decode cX1_measureFrom 0 = .ok (.iload_n 2, 1) := by decide +kernel
theorem dX1_measureFrom_1 : decode cX1_measureFrom 1 = .ok (.iconst 5, 1) := by decide +kernel
theorem dX1_measureFrom_2 : decode cX1_measureFrom 2 = .ok (.ishl, 1) := by decide +kernel
theorem dX1_measureFrom_3 : decode cX1_measureFrom 3 = .ok (.iload_n 1, 1) := by decide +kernel
theorem dX1_measureFrom_4 : decode cX1_measureFrom 4 = .ok (.ior, 1) := by decide +kernel
theorem dX1_measureFrom_5 : decode cX1_measureFrom 5 = .ok (.istore_n 3, 1) := by decide +kernel
theorem dX1_measureFrom_6 : decode cX1_measureFrom 6 = .ok (.aload_n 0, 1) := by decide +kernel
theorem dX1_measureFrom_7 : decode cX1_measureFrom 7 = .ok (.getfield 28, 3) := by decide +kernel
theorem dX1_measureFrom_10 : decode cX1_measureFrom 10 = .ok (.iload_n 3, 1) := by decide +kernel
theorem dX1_measureFrom_11 : decode cX1_measureFrom 11 = .ok (.if_icmp .ne 4, 3) := by decide +kernel
theorem dX1_measureFrom_14 : decode cX1_measureFrom 14 = .ok (.return_, 1) := by decide +kernel
theorem dX1_measureFrom_15 : decode cX1_measureFrom 15 = .ok (.aload_n 0, 1) := by decide +kernel
theorem dX1_measureFrom_16 : decode cX1_measureFrom 16 = .ok (.iload_n 3, 1) := by decide +kernel
theorem dX1_measureFrom_17 : decode cX1_measureFrom 17 = .ok (.putfield 28, 3) := by decide +kernel
theorem dX1_measureFrom_20 : decode cX1_measureFrom 20 = .ok (.aload_n 0, 1) := by decide +kernel
theorem dX1_measureFrom_21 : decode cX1_measureFrom 21 = .ok (.getfield 22, 3) := by decide +kernel
theorem dX1_measureFrom_24 : decode cX1_measureFrom 24 = .ok (.iconst (-1), 1) := by decide +kernel
theorem dX1_measureFrom_25 : decode cX1_measureFrom 25 = .ok (.invokestatic 31, 3) := by decide +kernel
theorem dX1_measureFrom_28 : decode cX1_measureFrom 28 = .ok (.aload_n 0, 1) := by decide +kernel
theorem dX1_measureFrom_29 : decode cX1_measureFrom 29 = .ok (.getfield 22, 3) := by decide +kernel
theorem dX1_measureFrom_32 : decode cX1_measureFrom 32 = .ok (.iload_n 2, 1) := by decide +kernel
theorem dX1_measureFrom_33 : decode cX1_measureFrom 33 = .ok (.aload_n 0, 1) := by decide +kernel
theorem dX1_measureFrom_34 : decode cX1_measureFrom 34 = .ok (.getfield 9, 3) := by decide +kernel
theorem dX1_measureFrom_37 : decode cX1_measureFrom 37 = .ok (.imul, 1) := by decide +kernel
theorem dX1_measureFrom_38 : decode cX1_measureFrom 38 = .ok (.iload_n 1, 1) := by decide +kernel
theorem dX1_measureFrom_39 : decode cX1_measureFrom 39 = .ok (.iadd, 1) := by decide +kernel
theorem dX1_measureFrom_40 : decode cX1_measureFrom 40 = .ok (.iconst 0, 1) := by decide +kernel
theorem dX1_measureFrom_41 : decode cX1_measureFrom 41 = .ok (.iastore, 1) := by decide +kernel
theorem dX1_measureFrom_42 : decode cX1_measureFrom 42 = .ok (.aload_n 0, 1) := by decide +kernel
theorem dX1_measureFrom_43 : decode cX1_measureFrom 43 = .ok (.getfield 25, 3) := by decide +kernel
theorem dX1_measureFrom_46 : decode cX1_measureFrom 46 = .ok (.iconst 0, 1) := by decide +kernel
theorem dX1_measureFrom_47 : decode cX1_measureFrom 47 = .ok (.iload_n 3, 1) := by decide +kernel
theorem dX1_measureFrom_48 : decode cX1_measureFrom 48 = .ok (.iastore, 1) := by decide +kernel
theorem dX1_measureFrom_49 : decode cX1_measureFrom 49 = .ok (.iconst 1, 1) := by decide +kernel
theorem dX1_measureFrom_50 : decode cX1_measureFrom 50 = .ok (.istore 4, 2) := by decide +kernel
theorem dX1_measureFrom_52 : decode cX1_measureFrom 52 = .ok (.iconst 0, 1) := by decide +kernel
theorem dX1_measureFrom_53 : decode cX1_measureFrom 53 = .ok (.istore 5, 2) := by decide +kernel
theorem dX1_measureFrom_55 : decode cX1_measureFrom 55 = .ok (.iload 5, 2) := by decide +kernel
theorem dX1_measureFrom_57 : decode cX1_measureFrom 57 = .ok (.iload 4, 2) := by decide +kernel
theorem dX1_measureFrom_59 : decode cX1_measureFrom 59 = .ok (.if_icmp .ge 172, 3) := by decide +kernel
theorem dX1_measureFrom_62 : decode cX1_measureFrom 62 = .ok (.iload 5, 2) := by decide +kernel
theorem dX1_measureFrom_64 : decode cX1_measureFrom 64 = .ok (.aload_n 0, 1) := by decide +kernel
theorem dX1_measureFrom_65 : decode cX1_measureFrom 65 = .ok (.getfield 25, 3) := by decide +kernel
theorem dX1_measureFrom_68 : decode cX1_measureFrom 68 = .ok (.arraylength, 1) := by decide +kernel
theorem dX1_measureFrom_69 : decode cX1_measureFrom 69 = .ok (.if_icmp .ge 162, 3) := by decide +kernel
theorem dX1_measureFrom_72 : decode cX1_measureFrom 72 = .ok (.aload_n 0, 1) := by decide +kernel
theorem dX1_measureFrom_73 : decode cX1_measureFrom 73 = .ok (.getfield 25, 3) := by decide +kernel
theorem dX1_measureFrom_76 : decode cX1_measureFrom 76 = .ok (.iload 5, 2) := by decide +kernel
theorem dX1_measureFrom_78 : decode cX1_measureFrom 78 = .ok (.iaload, 1) := by decide +kernel
theorem dX1_measureFrom_79 : decode cX1_measureFrom 79 = .ok (.bipush 31, 2) := by decide +kernel
theorem dX1_measureFrom_81 : decode cX1_measureFrom 81 = .ok (.iand, 1) := by decide +kernel
theorem dX1_measureFrom_82 : decode cX1_measureFrom 82 = .ok (.istore 6, 2) := by decide +kernel
theorem dX1_measureFrom_84 : decode cX1_measureFrom 84 = .ok (.aload_n 0, 1) := by decide +kernel
theorem dX1_measureFrom_85 : decode cX1_measureFrom 85 = .ok (.getfield 25, 3) := by decide +kernel
theorem dX1_measureFrom_88 : decode cX1_measureFrom 88 = .ok (.iload 5, 2) := by decide +kernel
theorem dX1_measureFrom_90 : decode cX1_measureFrom 90 = .ok (.iaload, 1) := by decide +kernel
theorem dX1_measureFrom_91 : decode cX1_measureFrom 91 = .ok (.iconst 5, 1) := by decide +kernel
theorem dX1_measureFrom_92 : decode cX1_measureFrom 92 = .ok (.ishr, 1) := by decide +kernel
theorem dX1_measureFrom_93 : decode cX1_measureFrom 93 = .ok (.istore 7, 2) := by decide +kernel
theorem dX1_measureFrom_95 : decode cX1_measureFrom 95 = .ok (.aload_n 0, 1) := by decide +kernel
theorem dX1_measureFrom_96 : decode cX1_measureFrom 96 = .ok (.getfield 22, 3) := by decide +kernel
theorem dX1_measureFrom_99 : decode cX1_measureFrom 99 = .ok (.iload 7, 2) := by decide +kernel
theorem dX1_measureFrom_101 : decode cX1_measureFrom 101 = .ok (.aload_n 0, 1) := by decide +kernel
theorem dX1_measureFrom_102 : decode cX1_measureFrom 102 = .ok (.getfield 9, 3) := by decide +kernel
theorem dX1_measureFrom_105 : decode cX1_measureFrom 105 = .ok (.imul, 1) := by decide +kernel
theorem dX1_measureFrom_106 : decode cX1_measureFrom 106 = .ok (.iload 6, 2) := by decide +kernel
theorem dX1_measureFrom_108 : decode cX1_measureFrom 108 = .ok (.iadd, 1) := by decide +kernel
theorem dX1_measureFrom_109 : decode cX1_measureFrom 109 = .ok (.iaload, 1) := by decide +kernel
theorem dX1_measureFrom_110 : decode cX1_measureFrom 110 = .ok (.iconst 1, 1) := by decide +kernel
theorem dX1_measureFrom_111 : decode cX1_measureFrom 111 = .ok (.iadd, 1) := by decide +kernel
theorem dX1_measureFrom_112 : decode cX1_measureFrom 112 = .ok (.istore 8, 2) := by decide +kernel
theorem dX1_measureFrom_114 : decode cX1_measureFrom 114 = .ok (.iconst 0, 1) := by decide +kernel
theorem dX1_measureFrom_115 : decode cX1_measureFrom 115 = .ok (.istore 9, 2) := by decide +kernel
theorem dX1_measureFrom_117 : decode cX1_measureFrom 117 = .ok (.iload 9, 2) := by decide +kernel
theorem dX1_measureFrom_119 : decode cX1_measureFrom 119 = .ok (.iconst 4, 1) := by decide +kernel
theorem dX1_measureFrom_120 : decode cX1_measureFrom 120 = .ok (.if_icmp .ge 105, 3) := by decide +kernel
theorem dX1_measureFrom_123 : decode cX1_measureFrom 123 = .ok (.iload 6, 2) := by decide +kernel
theorem dX1_measureFrom_125 : decode cX1_measureFrom 125 = .ok (.getstatic 56, 3) := by decide +kernel
theorem dX1_measureFrom_128 : decode cX1_measureFrom 128 = .ok (.iload 9, 2) := by decide +kernel
theorem dX1_measureFrom_130 : decode cX1_measureFrom 130 = .ok (.iaload, 1) := by decide +kernel
theorem dX1_measureFrom_131 : decode cX1_measureFrom 131 = .ok (.iadd, 1) := by decide +kernel
theorem dX1_measureFrom_132 : decode cX1_measureFrom 132 = .ok (.istore 10, 2) := by decide +kernel
theorem dX1_measureFrom_134 : decode cX1_measureFrom 134 = .ok (.iload 7, 2) := by decide +kernel
theorem dX1_measureFrom_136 : decode cX1_measureFrom 136 = .ok (.getstatic 59, 3) := by decide +kernel
theorem dX1_measureFrom_139 : decode cX1_measureFrom 139 = .ok (.iload 9, 2) := by decide +kernel
theorem dX1_measureFrom_141 : decode cX1_measureFrom 141 = .ok (.iaload, 1) := by decide +kernel
theorem dX1_measureFrom_142 : decode cX1_measureFrom 142 = .ok (.iadd, 1) := by decide +kernel
theorem dX1_measureFrom_143 : decode cX1_measureFrom 143 = .ok (.istore 11, 2) := by decide +kernel
theorem dX1_measureFrom_145 : decode cX1_measureFrom 145 = .ok (.aload_n 0, 1) := by decide +kernel
theorem dX1_measureFrom_146 : decode cX1_measureFrom 146 = .ok (.iload 10, 2) := by decide +kernel
theorem dX1_measureFrom_148 : decode cX1_measureFrom 148 = .ok (.iload 11, 2) := by decide +kernel
theorem dX1_measureFrom_150 : decode cX1_measureFrom 150 = .ok (.invokevirtual 41, 3) := by decide +kernel
theorem dX1_measureFrom_153 : decode cX1_measureFrom 153 = .ok (.ifCond .eq 66, 3) := by decide +kernel
theorem dX1_measureFrom_156 : decode cX1_measureFrom 156 = .ok (.iload 4, 2) := by decide +kernel
theorem dX1_measureFrom_158 : decode cX1_measureFrom 158 = .ok (.aload_n 0, 1) := by decide +kernel
theorem dX1_measureFrom_159 : decode cX1_measureFrom 159 = .ok (.getfield 25, 3) := by decide +kernel
theorem dX1_measureFrom_162 : decode cX1_measureFrom 162 = .ok (.arraylength, 1) := by decide +kernel
theorem dX1_measureFrom_163 : decode cX1_measureFrom 163 = .ok (.if_icmp .ge 56, 3) := by decide +kernel
theorem dX1_measureFrom_166 : decode cX1_measureFrom 166 = .ok (.aload_n 0, 1) := by decide +kernel
theorem dX1_measureFrom_167 : decode cX1_measureFrom 167 = .ok (.getfield 22, 3) := by decide +kernel
theorem dX1_measureFrom_170 : decode cX1_measureFrom 170 = .ok (.iload 11, 2) := by decide +kernel
theorem dX1_measureFrom_172 : decode cX1_measureFrom 172 = .ok (.aload_n 0, 1) := by decide +kernel
theorem dX1_measureFrom_173 : decode cX1_measureFrom 173 = .ok (.getfield 9, 3) := by decide +kernel
theorem dX1_measureFrom_176 : decode cX1_measureFrom 176 = .ok (.imul, 1) := by decide +kernel
theorem dX1_measureFrom_177 : decode cX1_measureFrom 177 = .ok (.iload 10, 2) := by decide +kernel
theorem dX1_measureFrom_179 : decode cX1_measureFrom 179 = .ok (.iadd, 1) := by decide +kernel
theorem dX1_measureFrom_180 : decode cX1_measureFrom 180 = .ok (.iaload, 1) := by decide +kernel
theorem dX1_measureFrom_181 : decode cX1_measureFrom 181 = .ok (.iconst (-1), 1) := by decide +kernel
theorem dX1_measureFrom_182 : decode cX1_measureFrom 182 = .ok (.if_icmp .ne 37, 3) := by decide +kernel
theorem dX1_measureFrom_185 : decode cX1_measureFrom 185 = .ok (.aload_n 0, 1) := by decide +kernel
theorem dX1_measureFrom_186 : decode cX1_measureFrom 186 = .ok (.getfield 22, 3) := by decide +kernel
theorem dX1_measureFrom_189 : decode cX1_measureFrom 189 = .ok (.iload 11, 2) := by decide +kernel
theorem dX1_measureFrom_191 : decode cX1_measureFrom 191 = .ok (.aload_n 0, 1) := by decide +kernel
theorem dX1_measureFrom_192 : decode cX1_measureFrom 192 = .ok (.getfield 9, 3) := by decide +kernel
theorem dX1_measureFrom_195 : decode cX1_measureFrom 195 = .ok (.imul, 1) := by decide +kernel
theorem dX1_measureFrom_196 : decode cX1_measureFrom 196 = .ok (.iload 10, 2) := by decide +kernel
theorem dX1_measureFrom_198 : decode cX1_measureFrom 198 = .ok (.iadd, 1) := by decide +kernel
theorem dX1_measureFrom_199 : decode cX1_measureFrom 199 = .ok (.iload 8, 2) := by decide +kernel
theorem dX1_measureFrom_201 : decode cX1_measureFrom 201 = .ok (.iastore, 1) := by decide +kernel
theorem dX1_measureFrom_202 : decode cX1_measureFrom 202 = .ok (.aload_n 0, 1) := by decide +kernel
theorem dX1_measureFrom_203 : decode cX1_measureFrom 203 = .ok (.getfield 25, 3) := by decide +kernel
theorem dX1_measureFrom_206 : decode cX1_measureFrom 206 = .ok (.iload 4, 2) := by decide +kernel
theorem dX1_measureFrom_208 : decode cX1_measureFrom 208 = .ok (.iload 11, 2) := by decide +kernel
theorem dX1_measureFrom_210 : decode cX1_measureFrom 210 = .ok (.iconst 5, 1) := by decide +kernel
theorem dX1_measureFrom_211 : decode cX1_measureFrom 211 = .ok (.ishl, 1) := by decide +kernel
theorem dX1_measureFrom_212 : decode cX1_measureFrom 212 = .ok (.iload 10, 2) := by decide +kernel
theorem dX1_measureFrom_214 : decode cX1_measureFrom 214 = .ok (.ior, 1) := by decide +kernel
theorem dX1_measureFrom_215 : decode cX1_measureFrom 215 = .ok (.iastore, 1) := by decide +kernel
theorem dX1_measureFrom_216 : decode cX1_measureFrom 216 = .ok (.iinc 4 1, 3) := by decide +kernel
theorem dX1_measureFrom_219 : decode cX1_measureFrom 219 = .ok (.iinc 9 1, 3) := by decide +kernel
theorem dX1_measureFrom_222 : decode cX1_measureFrom 222 = .ok (.goto (-105), 3) := by decide +kernel
theorem dX1_measureFrom_225 : decode cX1_measureFrom 225 = .ok (.iinc 5 1, 3) := by decide +kernel
theorem dX1_measureFrom_228 : decode cX1_measureFrom 228 = .ok (.goto (-173), 3) := by decide +kernel
theorem dX1_measureFrom_231 : decode cX1_measureFrom 231 = .ok (.return_, 1) := by decide +kernel
set_option maxRecDepth 20000 in
theorem ggX2_init_X0_init : GoodIn wsX2_init wsX0_init := goodIn_r _ [14, 15, 2, 3, 5, 16, 29, 30] (by decide +kernel) (by decide +kernel)
set_option maxRecDepth 20000 in
theorem gX2_init_X0_init : GoodIn wsX2_init (wsX0_init) := ggX2_init_X0_init
theorem dX2_init_0 : decode cX2_init 0 = .ok (.aload_n 0, 1) := by decide +kernel
theorem dX2_init_1 : decode cX2_init 1 = .ok (.invokespecial 3, 3) := by decide +kernel
theorem dX2_init_4 : decode cX2_init 4 = .ok (.aload_n 0, 1) := by decide +kernel
theorem dX2_init_5 : decode cX2_init 5 = .ok (.iload_n 1, 1) := by decide +kernel
theorem dX2_init_6 : decode cX2_init 6 = .ok (.putfield 9, 3) := by decide +kernel
theorem dX2_init_9 : decode cX2_init 9 = .ok (.aload_n 0, 1) := by decide +kernel
theorem dX2_init_10 : decode cX2_init 10 = .ok (.iload_n 2, 1) := by decide +kernel
theorem dX2_init_11 : decode cX2_init 11 = .ok (.newarray .int, 2) := by decide +kernel
theorem dX2_init_13 : decode cX2_init 13 = .ok (.putfield 15, 3) := by decide +kernel
theorem dX2_init_16 : decode cX2_init 16 = .ok (.aload_n 0, 1) := by decide +kernel
theorem dX2_init_17 : decode cX2_init 17 = .ok (.bipush 8, 2) := by decide +kernel
theorem dX2_init_19 : decode cX2_init 19 = .ok (.newarray .int, 2) := by decide +kernel
theorem dX2_init_21 : decode cX2_init 21 = .ok (.putfield 19, 3) := by decide +kernel
theorem dX2_init_24 : decode cX2_init 24 = .ok (.aload_n 0, 1) := by decide +kernel
theorem dX2_init_25 : decode cX2_init 25 = .ok (.new 22, 3) := by decide +kernel
theorem dX2_init_28 : decode cX2_init 28 = .ok (.dup, 1) := by decide +kernel
theorem dX2_init_29 : decode cX2_init 29 = .ok (.iload_n 3, 1) := by decide +kernel
theorem dX2_init_30 : decode cX2_init 30 = .ok (.invokespecial 24, 3) := by decide +kernel
theorem dX2_init_33 : decode cX2_init 33 = .ok (.putfield 27, 3) := by decide +kernel
theorem dX2_init_36 : decode cX2_init 36 = .ok (.return_, 1) := by decide +kernel
set_option maxRecDepth 20000 in
theorem ggX2_appear_J7_fill_53178 : GoodIn wsX2_appear wsJ7_fill_53178 := goodIn_r _ [15] (by decide +kernel) (by decide +kernel)
set_option maxRecDepth 20000 in
theorem gX2_appear_J7_fill_53178 : GoodIn wsX2_appear (va_wsS RX2 55 yJ7_fill_53178 wsJ7_fill_53178) := goodIn_app (goodIn_of _ (by decide +kernel)) ggX2_appear_J7_fill_53178
theorem dX2_appear_0 : decode cX2_appear 0 = .ok (.aload_n 0, 1) := by decide +kernel
theorem dX2_appear_1 : decode cX2_appear 1 = .ok (.iload_n 1, 1) := by decide +kernel
theorem dX2_appear_2 : decode cX2_appear 2 = .ok (.putfield 31, 3) := by decide +kernel
theorem dX2_appear_5 : decode cX2_appear 5 = .ok (.aload_n 0, 1) := by decide +kernel
theorem dX2_appear_6 : decode cX2_appear 6 = .ok (.iload_n 2, 1) := by decide +kernel
theorem dX2_appear_7 : decode cX2_appear 7 = .ok (.putfield 34, 3) := by decide +kernel
theorem dX2_appear_10 : decode cX2_appear 10 = .ok (.aload_n 0, 1) := by decide +kernel
theorem dX2_appear_11 : decode cX2_appear 11 = .ok (.iconst 1, 1) := by decide +kernel
theorem dX2_appear_12 : decode cX2_appear 12 = .ok (.putfield 37, 3) := by decide +kernel
theorem dX2_appear_15 : decode cX2_appear 15 = .ok (.aload_n 0, 1) := by decide +kernel
theorem dX2_appear_16 : decode cX2_appear 16 = .ok (.iconst 0, 1) := by decide +kernel
theorem dX2_appear_17 : decode cX2_appear 17 = .ok (.putfield 40, 3) := by decide +kernel
theorem dX2_appear_20 : decode cX2_appear 20 = .ok (.aload_n 0, 1) := by decide +kernel
theorem dX2_appear_21 : decode cX2_appear 21 = .ok (.iconst 0, 1) := by decide +kernel
theorem dX2_appear_22 : decode cX2_appear 22 = .ok (.putfield 43, 3) := by decide +kernel
theorem dX2_appear_25 : decode cX2_appear 25 = .ok (.aload_n 0, 1) := by decide +kernel
theorem dX2_appear_26 : decode cX2_appear 26 = .ok (.iconst 0, 1) := by decide +kernel
theorem dX2_appear_27 : decode cX2_appear 27 = .ok (.putfield 46, 3) := by decide +kernel
theorem dX2_appear_30 : decode cX2_appear 30 = .ok (.aload_n 0, 1) := by decide +kernel
theorem dX2_appear_31 : decode cX2_appear 31 = .ok (.iconst 0, 1) := by decide +kernel
theorem dX2_appear_32 : decode cX2_appear 32 = .ok (.putfield 49, 3) := by decide +kernel
theorem dX2_appear_35 : decode cX2_appear 35 = .ok (.aload_n 0, 1) := by decide +kernel
theorem dX2_appear_36 : decode cX2_appear 36 = .ok (.iconst 0, 1) := by decide +kernel
theorem dX2_appear_37 : decode cX2_appear 37 = .ok (.putfield 52, 3) := by decide +kernel
theorem dX2_appear_40 : decode cX2_appear 40 = .ok (.aload_n 0, 1) := by decide +kernel
theorem dX2_appear_41 : decode cX2_appear 41 = .ok (.getfield 19, 3) := by decide +kernel
theorem dX2_appear_44 : decode cX2_appear 44 = .ok (.iconst 0, 1) := by decide +kernel
theorem dX2_appear_45 : decode cX2_appear 45 = .ok (.invokestatic 55, 3) := by decide +kernel
theorem dX2_appear_48 : decode cX2_appear 48 = .ok (.aload_n 0, 1) := by decide +kernel
theorem dX2_appear_49 : decode cX2_appear 49 = .ok (.getfield 27, 3) := by decide +kernel
theorem dX2_appear_52 : decode cX2_appear 52 = .ok (.iconst 0, 1) := by decide +kernel
theorem dX2_appear_53 : decode cX2_appear 53 = .ok (.putfield 61, 3) := by decide +kernel
theorem dX2_appear_56 : decode cX2_appear 56 = .ok (.return_, 1) := by decide +kernel
theorem dX2_addWord_0 : decode cX2_addWord 0 = .ok (.aload_n 0, 1) := by decide +kernel
theorem dX2_addWord_1 : decode cX2_addWord 1 = .ok (.getfield 43, 3) := by decide +kernel
theorem dX2_addWord_4 : decode cX2_addWord 4 = .ok (.aload_n 0, 1) := by decide +kernel
theorem dX2_addWord_5 : decode cX2_addWord 5 = .ok (.getfield 15, 3) := by decide +kernel
theorem dX2_addWord_8 : decode cX2_addWord 8 = .ok (.arraylength, 1) := by decide +kernel
theorem dX2_addWord_9 : decode cX2_addWord 9 = .ok (.if_icmp .lt 5, 3) := by decide +kernel
theorem dX2_addWord_12 : decode cX2_addWord 12 = .ok (.iconst 0, 1) := by decide +kernel
theorem dX2_addWord_13 : decode cX2_addWord 13 = .ok (.ireturn, 1) := by decide +kernel
theorem dX2_addWord_14 : decode cX2_addWord 14 = .ok (.aload_n 0, 1) := by decide +kernel
theorem dX2_addWord_15 : decode cX2_addWord 15 = .ok (.getfield 15, 3) := by decide +kernel
theorem dX2_addWord_18 : decode cX2_addWord 18 = .ok (.aload_n 0, 1) := by decide +kernel
theorem dX2_addWord_19 : decode cX2_addWord 19 = .ok (.getfield 43, 3) := by decide +kernel
theorem dX2_addWord_22 : decode cX2_addWord 22 = .ok (.iload_n 1, 1) := by decide +kernel
theorem dX2_addWord_23 : decode cX2_addWord 23 = .ok (.iastore, 1) := by decide +kernel
theorem dX2_addWord_24 : decode cX2_addWord 24 = .ok (.aload_n 0, 1) := by decide +kernel
theorem dX2_addWord_25 : decode cX2_addWord 25 = .ok (.dup, 1) := by decide +kernel
theorem dX2_addWord_26 : decode cX2_addWord 26 = .ok (.getfield 43, 3) := by decide +kernel
theorem dX2_addWord_29 : decode cX2_addWord 29 = .ok (.iconst 1, 1) := by decide +kernel
theorem dX2_addWord_30 : decode cX2_addWord 30 = .ok (.iadd, 1) := by decide +kernel
theorem dX2_addWord_31 : decode cX2_addWord 31 = .ok (.putfield 43, 3) := by decide +kernel
theorem dX2_addWord_34 : decode cX2_addWord 34 = .ok (.iconst 1, 1) := by decide +kernel
theorem dX2_addWord_35 : decode cX2_addWord 35 = .ok (.ireturn, 1) := by decide +kernel
set_option maxRecDepth 20000 in
theorem ggX2_mustFail_X3_opOf : GoodIn wsX2_mustFail wsX3_opOf := goodIn_r _ [7] (by decide +kernel) (by decide +kernel)
set_option maxRecDepth 20000 in
theorem gX2_mustFail_X3_opOf_n64 : GoodIn wsX2_mustFail (wsX3_opOf) := ggX2_mustFail_X3_opOf
set_option maxRecDepth 20000 in
theorem ggX2_mustFail_X3_sOf : GoodIn wsX2_mustFail wsX3_sOf := goodIn_r _ [9] (by decide +kernel) (by decide +kernel)
set_option maxRecDepth 20000 in
theorem gX2_mustFail_X3_sOf_n68 : GoodIn wsX2_mustFail (wsX3_sOf) := ggX2_mustFail_X3_sOf
set_option maxRecDepth 20000 in
theorem ggX2_mustFail_X3_rOf : GoodIn wsX2_mustFail wsX3_rOf := goodIn_r _ [11] (by decide +kernel) (by decide +kernel)
set_option maxRecDepth 20000 in
theorem gX2_mustFail_X3_rOf_n71 : GoodIn wsX2_mustFail (wsX3_rOf) := ggX2_mustFail_X3_rOf
theorem dX2_mustFail_0 : decode cX2_mustFail 0 = .ok (.aload_n 0, 1) := by decide +kernel
theorem dX2_mustFail_1 : decode cX2_mustFail 1 = .ok (.getfield 40, 3) := by decide +kernel
theorem dX2_mustFail_4 : decode cX2_mustFail 4 = .ok (.ifCond .lt 26, 3) := by decide +kernel
theorem dX2_mustFail_7 : decode cX2_mustFail 7 = .ok (.aload_n 0, 1) := by decide +kernel
theorem dX2_mustFail_8 : decode cX2_mustFail 8 = .ok (.getfield 40, 3) := by decide +kernel
theorem dX2_mustFail_11 : decode cX2_mustFail 11 = .ok (.aload_n 0, 1) := by decide +kernel
theorem dX2_mustFail_12 : decode cX2_mustFail 12 = .ok (.getfield 43, 3) := by decide +kernel
theorem dX2_mustFail_15 : decode cX2_mustFail 15 = .ok (.if_icmp .ge 15, 3) := by decide +kernel
theorem dX2_mustFail_18 : decode cX2_mustFail 18 = .ok (.aload_n 0, 1) := by decide +kernel
theorem dX2_mustFail_19 : decode cX2_mustFail 19 = .ok (.getfield 40, 3) := by decide +kernel
theorem dX2_mustFail_22 : decode cX2_mustFail 22 = .ok (.aload_n 0, 1) := by decide +kernel
theorem dX2_mustFail_23 : decode cX2_mustFail 23 = .ok (.getfield 15, 3) := by decide +kernel
theorem dX2_mustFail_26 : decode cX2_mustFail 26 = .ok (.arraylength, 1) := by decide +kernel
theorem dX2_mustFail_27 : decode cX2_mustFail 27 = .ok (.if_icmp .lt 5, 3) := by decide +kernel
theorem dX2_mustFail_30 : decode cX2_mustFail 30 = .ok (.iconst 1, 1) := by decide +kernel
theorem dX2_mustFail_31 : decode cX2_mustFail 31 = .ok (.ireturn, 1) := by decide +kernel
theorem dX2_mustFail_32 : decode cX2_mustFail 32 = .ok (.aload_n 0, 1) := by decide +kernel
theorem dX2_mustFail_33 : decode cX2_mustFail 33 = .ok (.getfield 15, 3) := by decide +kernel
theorem dX2_mustFail_36 : decode cX2_mustFail 36 = .ok (.aload_n 0, 1) := by decide +kernel
theorem dX2_mustFail_37 : decode cX2_mustFail 37 = .ok (.getfield 40, 3) := by decide +kernel
theorem dX2_mustFail_40 : decode cX2_mustFail 40 = .ok (.iaload, 1) := by decide +kernel
theorem dX2_mustFail_41 : decode cX2_mustFail 41 = .ok (.istore_n 1, 1) := by decide +kernel
theorem dX2_mustFail_42 : decode cX2_mustFail 42 = .ok (.iload_n 1, 1) := by decide +kernel
theorem dX2_mustFail_43 : decode cX2_mustFail 43 = .ok (.invokestatic 64, 3) := by decide +kernel
theorem dX2_mustFail_46 : decode cX2_mustFail 46 = .ok (.istore_n 2, 1) := by decide +kernel
theorem dX2_mustFail_47 : decode cX2_mustFail 47 = .ok (.iload_n 1, 1) := by decide +kernel
theorem dX2_mustFail_48 : decode cX2_mustFail 48 = .ok (.invokestatic 68, 3) := by decide +kernel
theorem dX2_mustFail_51 : decode cX2_mustFail 51 = .ok (.istore_n 3, 1) := by decide +kernel
theorem dX2_mustFail_52 : decode cX2_mustFail 52 = .ok (.iload_n 2, 1) := by decide +kernel
theorem dX2_mustFail_53 : decode cX2_mustFail 53 = .ok (.bipush 24, 2) := by decide +kernel
theorem dX2_mustFail_55 : decode cX2_mustFail 55 = .ok (.if_icmp .gt 18, 3) := by decide +kernel
theorem dX2_mustFail_58 : decode cX2_mustFail 58 = .ok (.iload_n 1, 1) := by decide +kernel
theorem dX2_mustFail_59 : decode cX2_mustFail 59 = .ok (.invokestatic 71, 3) := by decide +kernel
theorem dX2_mustFail_62 : decode cX2_mustFail 62 = .ok (.bipush 8, 2) := by decide +kernel
theorem dX2_mustFail_64 : decode cX2_mustFail 64 = .ok (.if_icmp .ge 9, 3) := by decide +kernel
theorem dX2_mustFail_67 : decode cX2_mustFail 67 = .ok (.iload_n 3, 1) := by decide +kernel
theorem dX2_mustFail_68 : decode cX2_mustFail 68 = .ok (.bipush 8, 2) := by decide +kernel
theorem dX2_mustFail_70 : decode cX2_mustFail 70 = .ok (.if_icmp .lt 5, 3) := by decide +kernel
theorem dX2_mustFail_73 : decode cX2_mustFail 73 = .ok (.iconst 1, 1) := by decide +kernel
theorem dX2_mustFail_74 : decode cX2_mustFail 74 = .ok (.ireturn, 1) := by decide +kernel
theorem dX2_mustFail_75 : decode cX2_mustFail 75 = .ok (.iload_n 2, 1) := by decide +kernel
theorem dX2_mustFail_76 : decode cX2_mustFail 76 = .ok (.bipush 6, 2) := by decide +kernel
theorem dX2_mustFail_78 : decode cX2_mustFail 78 = .ok (.if_icmp .eq 9, 3) := by decide +kernel
theorem dX2_mustFail_81 : decode cX2_mustFail 81 = .ok (.iload_n 2, 1) := by decide +kernel
theorem dX2_mustFail_82 : decode cX2_mustFail 82 = .ok (.bipush 7, 2) := by decide +kernel
theorem dX2_mustFail_84 : decode cX2_mustFail 84 = .ok (.if_icmp .ne 16, 3) := by decide +kernel
theorem dX2_mustFail_87 : decode cX2_mustFail 87 = .ok (.aload_n 0, 1) := by decide +kernel
theorem dX2_mustFail_88 : decode cX2_mustFail 88 = .ok (.getfield 19, 3) := by decide +kernel
theorem dX2_mustFail_91 : decode cX2_mustFail 91 = .ok (.iload_n 3, 1) := by decide +kernel
theorem dX2_mustFail_92 : decode cX2_mustFail 92 = .ok (.iaload, 1) := by decide +kernel
theorem dX2_mustFail_93 : decode cX2_mustFail 93 = .ok (.ifCond .ne 7, 3) := by decide +kernel
theorem dX2_mustFail_96 : decode cX2_mustFail 96 = .ok (.iconst 1, 1) := by decide +kernel
theorem dX2_mustFail_97 : decode cX2_mustFail 97 = .ok (.goto 4, 3) := by decide +kernel
theorem dX2_mustFail_100 : decode cX2_mustFail 100 = .ok (.iconst 0, 1) := by decide +kernel
theorem dX2_mustFail_101 : decode cX2_mustFail 101 = .ok (.ireturn, 1) := by decide +kernel
theorem dX2_takesMail_0 : decode cX2_takesMail 0 = .ok (.aload_n 0, 1) := by decide +kernel
theorem dX2_takesMail_1 : decode cX2_takesMail 1 = .ok (.getfield 37, 3) := by decide +kernel
theorem dX2_takesMail_4 : decode cX2_takesMail 4 = .ok (.iconst 2, 1) := by decide +kernel
theorem dX2_takesMail_5 : decode cX2_takesMail 5 = .ok (.if_icmp .eq 19, 3) := by decide +kernel
theorem dX2_takesMail_8 : decode cX2_takesMail 8 = .ok (.aload_n 0, 1) := by decide +kernel
theorem dX2_takesMail_9 : decode cX2_takesMail 9 = .ok (.getfield 37, 3) := by decide +kernel
theorem dX2_takesMail_12 : decode cX2_takesMail 12 = .ok (.iconst 3, 1) := by decide +kernel
theorem dX2_takesMail_13 : decode cX2_takesMail 13 = .ok (.if_icmp .eq 11, 3) := by decide +kernel
theorem dX2_takesMail_16 : decode cX2_takesMail 16 = .ok (.aload_n 0, 1) := by decide +kernel
theorem dX2_takesMail_17 : decode cX2_takesMail 17 = .ok (.getfield 37, 3) := by decide +kernel
theorem dX2_takesMail_20 : decode cX2_takesMail 20 = .ok (.iconst 4, 1) := by decide +kernel
theorem dX2_takesMail_21 : decode cX2_takesMail 21 = .ok (.if_icmp .ne 7, 3) := by decide +kernel
theorem dX2_takesMail_24 : decode cX2_takesMail 24 = .ok (.iconst 1, 1) := by decide +kernel
theorem dX2_takesMail_25 : decode cX2_takesMail 25 = .ok (.goto 4, 3) := by decide +kernel
theorem dX2_takesMail_28 : decode cX2_takesMail 28 = .ok (.iconst 0, 1) := by decide +kernel
theorem dX2_takesMail_29 : decode cX2_takesMail 29 = .ok (.ireturn, 1) := by decide +kernel
theorem dX2_fallAsleep_0 : decode cX2_fallAsleep 0 = .ok (.iload_n 1, 1) := by decide +kernel
theorem dX2_fallAsleep_1 : decode cX2_fallAsleep 1 = .ok (.ifCond .le 13, 3) := by decide +kernel
theorem dX2_fallAsleep_4 : decode cX2_fallAsleep 4 = .ok (.aload_n 0, 1) := by decide +kernel
theorem dX2_fallAsleep_5 : decode cX2_fallAsleep 5 = .ok (.iconst 3, 1) := by decide +kernel
theorem dX2_fallAsleep_6 : decode cX2_fallAsleep 6 = .ok (.putfield 37, 3) := by decide +kernel
theorem dX2_fallAsleep_9 : decode cX2_fallAsleep 9 = .ok (.aload_n 0, 1) := by decide +kernel
theorem dX2_fallAsleep_10 : decode cX2_fallAsleep 10 = .ok (.iload_n 1, 1) := by decide +kernel
theorem dX2_fallAsleep_11 : decode cX2_fallAsleep 11 = .ok (.putfield 52, 3) := by decide +kernel
theorem dX2_fallAsleep_14 : decode cX2_fallAsleep 14 = .ok (.return_, 1) := by decide +kernel
theorem dX2_sleepOn_0 : decode cX2_sleepOn 0 = .ok (.aload_n 0, 1) := by decide +kernel
theorem dX2_sleepOn_1 : decode cX2_sleepOn 1 = .ok (.getfield 37, 3) := by decide +kernel
theorem dX2_sleepOn_4 : decode cX2_sleepOn 4 = .ok (.iconst 3, 1) := by decide +kernel
theorem dX2_sleepOn_5 : decode cX2_sleepOn 5 = .ok (.if_icmp .eq 4, 3) := by decide +kernel
theorem dX2_sleepOn_8 : decode cX2_sleepOn 8 = .ok (.return_, 1) := by decide +kernel
theorem dX2_sleepOn_9 : decode cX2_sleepOn 9 = .ok (.aload_n 0, 1) := by decide +kernel
theorem dX2_sleepOn_10 : decode cX2_sleepOn 10 = .ok (.getfield 52, 3) := by decide +kernel
theorem dX2_sleepOn_13 : decode cX2_sleepOn 13 = .ok (.ifCond .le 16, 3) := by decide +kernel
theorem dX2_sleepOn_16 : decode cX2_sleepOn 16 = .ok (.aload_n 0, 1) := by decide +kernel
theorem dX2_sleepOn_17 : decode cX2_sleepOn 17 = .ok (.dup, 1) := by decide +kernel
theorem dX2_sleepOn_18 : decode cX2_sleepOn 18 = .ok (.getfield 52, 3) := by decide +kernel
theorem dX2_sleepOn_21 : decode cX2_sleepOn 21 = .ok (.iconst 1, 1) := by decide +kernel
theorem dX2_sleepOn_22 : decode cX2_sleepOn 22 = .ok (.isub, 1) := by decide +kernel
theorem dX2_sleepOn_23 : decode cX2_sleepOn 23 = .ok (.putfield 52, 3) := by decide +kernel
theorem dX2_sleepOn_26 : decode cX2_sleepOn 26 = .ok (.goto 8, 3) := by decide +kernel
theorem dX2_sleepOn_29 : decode cX2_sleepOn 29 = .ok (.aload_n 0, 1) := by decide +kernel
theorem dX2_sleepOn_30 : decode cX2_sleepOn 30 = .ok (.iconst 2, 1) := by decide +kernel
theorem dX2_sleepOn_31 : decode cX2_sleepOn 31 = .ok (.putfield 37, 3) := by decide +kernel
theorem dX2_sleepOn_34 : decode cX2_sleepOn 34 = .ok (.return_, 1) := by decide +kernel
theorem dX2_show_0 : decode cX2_show 0 = .ok (.iload_n 1, 1) := by decide +kernel
theorem dX2_show_1 : decode cX2_show 1 = .ok (.ifCond .lt 19, 3) := by decide +kernel
theorem dX2_show_4 : decode cX2_show 4 = .ok (.iload_n 1, 1) := by decide +kernel
theorem dX2_show_5 : decode cX2_show 5 = .ok (.aload_n 0, 1) := by decide +kernel
theorem dX2_show_6 : decode cX2_show 6 = .ok (.getfield 19, 3) := by decide +kernel
theorem dX2_show_9 : decode cX2_show 9 = .ok (.arraylength, 1) := by decide +kernel
theorem dX2_show_10 : decode cX2_show 10 = .ok (.if_icmp .ge 10, 3) := by decide +kernel
theorem dX2_show_13 : decode cX2_show 13 = .ok (.aload_n 0, 1) := by decide +kernel
theorem dX2_show_14 : decode cX2_show 14 = .ok (.getfield 19, 3) := by decide +kernel
theorem dX2_show_17 : decode cX2_show 17 = .ok (.iload_n 1, 1) := by decide +kernel
theorem dX2_show_18 : decode cX2_show 18 = .ok (.iaload, 1) := by decide +kernel
theorem dX2_show_19 : decode cX2_show 19 = .ok (.ireturn, 1) := by decide +kernel
theorem dX2_show_20 : decode cX2_show 20 = .ok (.iload_n 1, 1) := by decide +kernel
theorem dX2_show_21 : decode cX2_show 21 = .ok (.tableswitch 84 8 13 #[39, 46, 53, 63, 70, 77], 39) := by decide +kernel
theorem dX2_show_60 : decode cX2_show 60 = .ok (.aload_n 0, 1) := by decide +kernel
theorem dX2_show_61 : decode cX2_show 61 = .ok (.getfield 40, 3) := by decide +kernel
theorem dX2_show_64 : decode cX2_show 64 = .ok (.goto 42, 3) := by decide +kernel
theorem dX2_show_67 : decode cX2_show 67 = .ok (.aload_n 0, 1) := by decide +kernel
theorem dX2_show_68 : decode cX2_show 68 = .ok (.getfield 49, 3) := by decide +kernel
theorem dX2_show_71 : decode cX2_show 71 = .ok (.goto 35, 3) := by decide +kernel
theorem dX2_show_74 : decode cX2_show 74 = .ok (.aload_n 0, 1) := by decide +kernel
theorem dX2_show_75 : decode cX2_show 75 = .ok (.getfield 27, 3) := by decide +kernel
theorem dX2_show_78 : decode cX2_show 78 = .ok (.getfield 61, 3) := by decide +kernel
theorem dX2_show_81 : decode cX2_show 81 = .ok (.goto 25, 3) := by decide +kernel
theorem dX2_show_84 : decode cX2_show 84 = .ok (.aload_n 0, 1) := by decide +kernel
theorem dX2_show_85 : decode cX2_show 85 = .ok (.getfield 43, 3) := by decide +kernel
theorem dX2_show_88 : decode cX2_show 88 = .ok (.goto 18, 3) := by decide +kernel
theorem dX2_show_91 : decode cX2_show 91 = .ok (.aload_n 0, 1) := by decide +kernel
theorem dX2_show_92 : decode cX2_show 92 = .ok (.getfield 46, 3) := by decide +kernel
theorem dX2_show_95 : decode cX2_show 95 = .ok (.goto 11, 3) := by decide +kernel
theorem dX2_show_98 : decode cX2_show 98 = .ok (.aload_n 0, 1) := by decide +kernel
theorem dX2_show_99 : decode cX2_show 99 = .ok (.getfield 52, 3) := by decide +kernel
theorem dX2_show_102 : decode cX2_show 102 = .ok (.goto 4, 3) := by decide +kernel
theorem dX2_show_105 : decode cX2_show 105 = .ok (.iconst 0, 1) := by decide +kernel
theorem dX2_show_106 : decode cX2_show 106 = .ok (.ireturn, 1) := by decide +kernel
theorem dJ9_max_7cf53_0 : decode cJ9_max_7cf53 0 = .ok (.iload_n 0, 1) := by decide +kernel
theorem dJ9_max_7cf53_1 : decode cJ9_max_7cf53 1 = .ok (.iload_n 1, 1) := by decide +kernel
theorem dJ9_max_7cf53_2 : decode cJ9_max_7cf53 2 = .ok (.if_icmp .lt 7, 3) := by decide +kernel
theorem dJ9_max_7cf53_5 : decode cJ9_max_7cf53 5 = .ok (.iload_n 0, 1) := by decide +kernel
theorem dJ9_max_7cf53_6 : decode cJ9_max_7cf53 6 = .ok (.goto 4, 3) := by decide +kernel
theorem dJ9_max_7cf53_9 : decode cJ9_max_7cf53 9 = .ok (.iload_n 1, 1) := by decide +kernel
theorem dJ9_max_7cf53_10 : decode cJ9_max_7cf53 10 = .ok (.ireturn, 1) := by decide +kernel
theorem dJ9_min_7cf53_0 : decode cJ9_min_7cf53 0 = .ok (.iload_n 0, 1) := by decide +kernel
theorem dJ9_min_7cf53_1 : decode cJ9_min_7cf53 1 = .ok (.iload_n 1, 1) := by decide +kernel
theorem dJ9_min_7cf53_2 : decode cJ9_min_7cf53 2 = .ok (.if_icmp .gt 7, 3) := by decide +kernel
theorem dJ9_min_7cf53_5 : decode cJ9_min_7cf53 5 = .ok (.iload_n 0, 1) := by decide +kernel
theorem dJ9_min_7cf53_6 : decode cJ9_min_7cf53 6 = .ok (.goto 4, 3) := by decide +kernel
theorem dJ9_min_7cf53_9 : decode cJ9_min_7cf53 9 = .ok (.iload_n 1, 1) := by decide +kernel
theorem dJ9_min_7cf53_10 : decode cJ9_min_7cf53 10 = .ok (.ireturn, 1) := by decide +kernel
theorem dJ7_fill_53178_0 : decode cJ7_fill_53178 0 = .ok (.iconst 0, 1) := by decide +kernel
theorem dJ7_fill_53178_1 : decode cJ7_fill_53178 1 = .ok (.istore_n 2, 1) := by decide +kernel
theorem dJ7_fill_53178_2 : decode cJ7_fill_53178 2 = .ok (.aload_n 0, 1) := by decide +kernel
theorem dJ7_fill_53178_3 : decode cJ7_fill_53178 3 = .ok (.arraylength, 1) := by decide +kernel
theorem dJ7_fill_53178_4 : decode cJ7_fill_53178 4 = .ok (.istore_n 3, 1) := by decide +kernel
theorem dJ7_fill_53178_5 : decode cJ7_fill_53178 5 = .ok (.iload_n 2, 1) := by decide +kernel
theorem dJ7_fill_53178_6 : decode cJ7_fill_53178 6 = .ok (.iload_n 3, 1) := by decide +kernel
theorem dJ7_fill_53178_7 : decode cJ7_fill_53178 7 = .ok (.if_icmp .ge 13, 3) := by decide +kernel
theorem dJ7_fill_53178_10 : decode cJ7_fill_53178 10 = .ok (.aload_n 0, 1) := by decide +kernel
theorem dJ7_fill_53178_11 : decode cJ7_fill_53178 11 = .ok (.iload_n 2, 1) := by decide +kernel
theorem dJ7_fill_53178_12 : decode cJ7_fill_53178 12 = .ok (.iload_n 1, 1) := by decide +kernel
theorem dJ7_fill_53178_13 : decode cJ7_fill_53178 13 = .ok (.iastore, 1) := by decide +kernel
theorem dJ7_fill_53178_14 : decode cJ7_fill_53178 14 = .ok (.iinc 2 1, 3) := by decide +kernel
theorem dJ7_fill_53178_17 : decode cJ7_fill_53178 17 = .ok (.goto (-12), 3) := by decide +kernel
theorem dJ7_fill_53178_20 : decode cJ7_fill_53178 20 = .ok (.return_, 1) := by decide +kernel
