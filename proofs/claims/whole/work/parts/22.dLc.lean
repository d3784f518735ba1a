theorem inlX0 : ∀ w ∈ wsX00, w ∈ wsL_law := fun _ h => List.mem_append_left _ (List.mem_append_right _ h)
theorem inX0 : ∀ w ∈ wsX00, w ∈ lw_tbl := fun w h => wsL_law_in w (inlX0 w h)
theorem inlX1 : ∀ w ∈ wsX10, w ∈ wsL_law := fun _ h => List.mem_append_left _ (List.mem_append_left _ (List.mem_append_left _ (List.mem_append_right _ h)))
theorem inX1 : ∀ w ∈ wsX10, w ∈ lw_tbl := fun w h => wsL_law_in w (inlX1 w h)
theorem inlX2 : ∀ w ∈ wsX20, w ∈ wsL_law := fun _ h => List.mem_append_left _ (List.mem_append_left _ (List.mem_append_right _ h))
theorem inX2 : ∀ w ∈ wsX20, w ∈ lw_tbl := fun w h => wsL_law_in w (inlX2 w h)
theorem inlX3 : ∀ w ∈ wsX30, w ∈ wsL_law := fun _ h => List.mem_append_left _ (List.mem_append_left _ (List.mem_append_left _ (List.mem_append_left _ (List.mem_append_left _ (List.mem_append_right _ h)))))
theorem inX3 : ∀ w ∈ wsX30, w ∈ lw_tbl := fun w h => wsL_law_in w (inlX3 w h)
theorem inlX4 : ∀ w ∈ wsX40, w ∈ wsL_law := fun _ h => List.mem_append_left _ (List.mem_append_left _ (List.mem_append_left _ (List.mem_append_left _ (List.mem_append_right _ h))))
theorem inX4 : ∀ w ∈ wsX40, w ∈ lw_tbl := fun w h => wsL_law_in w (inlX4 w h)
theorem inJ9 : ∀ w ∈ wsJ90, w ∈ lw_tbl := by decide +kernel
theorem inJ10 : ∀ w ∈ wsJ100, w ∈ lw_tbl := by decide +kernel
theorem inJ7 : ∀ w ∈ wsJ70, w ∈ lw_tbl := by decide +kernel
theorem dL_cell_0 : decode cL_cell 0 = .ok (.iload_n 1, 1) := by decide +kernel
theorem dL_cell_1 : decode cL_cell 1 = .ok (.aload_n 0, 1) := by decide +kernel
theorem dL_cell_2 : decode cL_cell 2 = .ok (.arraylength, 1) := by decide +kernel
theorem dL_cell_3 : decode cL_cell 3 = .ok (.if_icmp .ge 9, 3) := by decide +kernel
theorem dL_cell_6 : decode cL_cell 6 = .ok (.aload_n 0, 1) := by decide +kernel
theorem dL_cell_7 : decode cL_cell 7 = .ok (.iload_n 1, 1) := by decide +kernel
theorem dL_cell_8 : decode cL_cell 8 = .ok (.iaload, 1) := by decide +kernel
theorem dL_cell_9 : decode cL_cell 9 = .ok (.goto 4, 3) := by decide +kernel
theorem dL_cell_12 : decode cL_cell 12 = .ok (.iconst 0, 1) := by decide +kernel
theorem dL_cell_13 : decode cL_cell 13 = .ok (.ireturn, 1) := by decide +kernel
set_option maxRecDepth 20000 in
theorem ggL_law_L_cell : GoodIn wsL_law wsL_cell := goodIn_r _ [9] (by decide +kernel) (by decide +kernel)
set_option maxRecDepth 20000 in
theorem gL_law_L_cell : GoodIn wsL_law (va_wsS RL 9 yL_cell wsL_cell) := goodIn_app (goodIn_of _ (by decide +kernel)) ggL_law_L_cell
set_option maxRecDepth 20000 in
theorem ggL_law_X3_init_k0 : GoodIn wsL_law ((wsX3_init.drop 0).take 20) := goodIn_r _ [12, 13, 14, 15, 16, 17, 18, 19, 20, 21, 22, 23, 24, 25, 2, 26, 27, 28, 29, 30] (by decide +kernel) (by decide +kernel)
set_option maxRecDepth 20000 in
theorem ggL_law_X3_init_k1 : GoodIn wsL_law ((wsX3_init.drop 20).take 20) := goodIn_r _ [31, 32, 33, 34, 35, 36, 37, 38, 39, 40, 41, 42, 43, 44, 45, 46, 47, 48, 49, 50] (by decide +kernel) (by decide +kernel)
set_option maxRecDepth 20000 in
theorem ggL_law_X3_init_k2 : GoodIn wsL_law ((wsX3_init.drop 40).take 20) := goodIn_r _ [51, 52, 53, 54, 55, 56, 57, 58, 59, 60, 61, 62, 63, 64, 65, 66, 67, 68, 69, 70] (by decide +kernel) (by decide +kernel)
set_option maxRecDepth 20000 in
theorem ggL_law_X3_init_k3 : GoodIn wsL_law ((wsX3_init.drop 60).take 20) := goodIn_r _ [71, 72, 73, 74, 75, 504, 505, 506, 507, 508, 509, 478, 479, 480, 481, 510, 511, 512, 513, 514] (by decide +kernel) (by decide +kernel)
set_option maxRecDepth 20000 in
theorem ggL_law_X3_init_k4 : GoodIn wsL_law (wsX3_init.drop 80) := goodIn_r _ [515, 516, 517, 518, 519, 520, 521, 522, 523] (by decide +kernel) (by decide +kernel)
set_option maxRecDepth 20000 in
theorem ggL_law_X3_init : GoodIn wsL_law wsX3_init := (goodIn_spl (a := 0) (b := 20) ggL_law_X3_init_k0 (goodIn_spl (a := 20) (b := 20) ggL_law_X3_init_k1 (goodIn_spl (a := 40) (b := 20) ggL_law_X3_init_k2 (goodIn_spl (a := 60) (b := 20) ggL_law_X3_init_k3 ggL_law_X3_init_k4))))
set_option maxRecDepth 20000 in
theorem gL_law_X3_init : GoodIn wsL_law (wsX3_init) := ggL_law_X3_init
set_option maxRecDepth 20000 in
theorem ggL_law_X4_init_k0 : GoodIn wsL_law ((wsX4_init.drop 0).take 20) := goodIn_r _ [78, 79, 14, 15, 80, 81, 40, 82, 83, 84, 85, 86, 87, 88, 89, 90, 91, 92, 93, 94] (by decide +kernel) (by decide +kernel)
set_option maxRecDepth 20000 in
theorem ggL_law_X4_init_k1 : GoodIn wsL_law ((wsX4_init.drop 20).take 20) := goodIn_r _ [95, 96, 97, 98, 99, 100, 101, 102, 5, 103, 104, 105, 106, 107, 108, 109, 482, 483, 484, 485] (by decide +kernel) (by decide +kernel)
set_option maxRecDepth 20000 in
theorem ggL_law_X4_init_k2 : GoodIn wsL_law (wsX4_init.drop 40) := goodIn_r _ [486, 487, 488, 489, 490, 491, 492, 493, 494, 495, 496, 497, 498, 499, 500, 501, 502, 503] (by decide +kernel) (by decide +kernel)
set_option maxRecDepth 20000 in
theorem ggL_law_X4_init : GoodIn wsL_law wsX4_init := (goodIn_spl (a := 0) (b := 20) ggL_law_X4_init_k0 (goodIn_spl (a := 20) (b := 20) ggL_law_X4_init_k1 ggL_law_X4_init_k2))
set_option maxRecDepth 20000 in
theorem gL_law_X4_init : GoodIn wsL_law (wsX4_init) := ggL_law_X4_init
set_option maxRecDepth 20000 in
theorem ggL_law_X3_init__k0 : GoodIn wsL_law ((wsX3_init_.drop 0).take 20) := goodIn_r _ [113, 61, 62, 63, 2, 64, 19, 21, 65, 66, 67, 68, 69, 70, 18, 71, 41, 44, 72, 73] (by decide +kernel) (by decide +kernel)
set_option maxRecDepth 20000 in
theorem ggL_law_X3_init__k1 : GoodIn wsL_law ((wsX3_init_.drop 20).take 20) := goodIn_r _ [74, 75, 478, 479, 480, 481, 510, 511, 512, 513, 514, 515, 516, 517, 518, 519, 520, 521, 504, 505] (by decide +kernel) (by decide +kernel)
set_option maxRecDepth 20000 in
theorem ggL_law_X3_init__k2 : GoodIn wsL_law (wsX3_init_.drop 40) := goodIn_r _ [506, 507, 508, 509] (by decide +kernel) (by decide +kernel)
set_option maxRecDepth 20000 in
theorem ggL_law_X3_init_ : GoodIn wsL_law wsX3_init_ := (goodIn_spl (a := 0) (b := 20) ggL_law_X3_init__k0 (goodIn_spl (a := 20) (b := 20) ggL_law_X3_init__k1 ggL_law_X3_init__k2))
set_option maxRecDepth 20000 in
theorem gL_law_X3_init_ : GoodIn wsL_law (wsV RL 21 RX3 yX3_init_ wsX3_init_) := goodIn_app (goodIn_of _ (by decide +kernel)) ggL_law_X3_init_
set_option maxRecDepth 20000 in
theorem ggL_law_X4_init_ : GoodIn wsL_law wsX4_init_ := goodIn_r _ [107, 81, 82, 83, 98, 108, 109, 482, 483, 484, 485, 486, 487, 488, 489, 490, 491, 492, 493, 494, 495, 496, 497, 498, 499, 500, 501, 502, 503] (by decide +kernel) (by decide +kernel)
set_option maxRecDepth 20000 in
theorem gL_law_X4_init_ : GoodIn wsL_law (wsV RL 24 RX4 yX4_init_ wsX4_init_) := goodIn_app (goodIn_of _ (by decide +kernel)) ggL_law_X4_init_
set_option maxRecDepth 20000 in
theorem ggL_law_X3_setWall_k0 : GoodIn wsL_law ((wsX3_setWall.drop 0).take 20) := goodIn_r _ [118, 19, 119, 120, 121, 18, 122, 38, 39, 123, 124, 125, 2, 126, 21, 65, 127, 128, 129, 130] (by decide +kernel) (by decide +kernel)
set_option maxRecDepth 20000 in
theorem ggL_law_X3_setWall_k1 : GoodIn wsL_law ((wsX3_setWall.drop 20).take 20) := goodIn_r _ [131, 132, 41, 44, 133, 478, 479, 480, 481, 504, 505, 506, 507, 508, 509, 510, 511, 512, 513, 514] (by decide +kernel) (by decide +kernel)
set_option maxRecDepth 20000 in
theorem ggL_law_X3_setWall_k2 : GoodIn wsL_law (wsX3_setWall.drop 40) := goodIn_r _ [515, 516, 517, 518, 519, 520, 521] (by decide +kernel) (by decide +kernel)
set_option maxRecDepth 20000 in
theorem ggL_law_X3_setWall : GoodIn wsL_law wsX3_setWall := (goodIn_spl (a := 0) (b := 20) ggL_law_X3_setWall_k0 (goodIn_spl (a := 20) (b := 20) ggL_law_X3_setWall_k1 ggL_law_X3_setWall_k2))
set_option maxRecDepth 20000 in
theorem gL_law_X3_setWall : GoodIn wsL_law (wsV RL 25 RX3 yX3_setWall wsX3_setWall) := goodIn_app (goodIn_of _ (by decide +kernel)) ggL_law_X3_setWall
set_option maxRecDepth 20000 in
theorem ggL_law_X4_setWall_k0 : GoodIn wsL_law ((wsX4_setWall.drop 0).take 20) := goodIn_r _ [137, 81, 82, 138, 139, 140, 5, 141, 96, 97, 142, 143, 144, 145, 146, 147, 148, 98, 83, 84] (by decide +kernel) (by decide +kernel)
set_option maxRecDepth 20000 in
theorem ggL_law_X4_setWall_k1 : GoodIn wsL_law ((wsX4_setWall.drop 20).take 20) := goodIn_r _ [85, 149, 150, 151, 482, 483, 484, 485, 486, 487, 488, 489, 490, 491, 492, 493, 494, 495, 496, 497] (by decide +kernel) (by decide +kernel)
set_option maxRecDepth 20000 in
theorem ggL_law_X4_setWall_k2 : GoodIn wsL_law (wsX4_setWall.drop 40) := goodIn_r _ [498, 499, 500, 501, 502, 503] (by decide +kernel) (by decide +kernel)
set_option maxRecDepth 20000 in
theorem ggL_law_X4_setWall : GoodIn wsL_law wsX4_setWall := (goodIn_spl (a := 0) (b := 20) ggL_law_X4_setWall_k0 (goodIn_spl (a := 20) (b := 20) ggL_law_X4_setWall_k1 ggL_law_X4_setWall_k2))
set_option maxRecDepth 20000 in
theorem gL_law_X4_setWall : GoodIn wsL_law (wsV RL 29 RX4 yX4_setWall wsX4_setWall) := goodIn_app (goodIn_of _ (by decide +kernel)) ggL_law_X4_setWall
set_option maxRecDepth 20000 in
theorem ggL_law_X3_putItem : GoodIn wsL_law wsX3_putItem := goodIn_r _ [155, 19, 156, 157, 158, 18, 159, 38, 41, 160, 161, 162, 163, 39, 478, 479, 480, 481, 504, 505, 506, 507, 508, 509] (by decide +kernel) (by decide +kernel)
set_option maxRecDepth 20000 in
theorem gL_law_X3_putItem : GoodIn wsL_law (wsV RL 30 RX3 yX3_putItem wsX3_putItem) := goodIn_app (goodIn_of _ (by decide +kernel)) ggL_law_X3_putItem
set_option maxRecDepth 20000 in
theorem ggL_law_X4_putItem : GoodIn wsL_law wsX4_putItem := goodIn_r _ [167, 81, 82, 138, 139, 140, 5, 141, 96, 97, 142, 143, 144, 149, 150, 151, 482, 483, 484, 485, 486, 487, 488, 489, 490, 491, 492, 493, 494, 495, 496, 497, 498, 499, 500, 501, 502, 503] (by decide +kernel) (by decide +kernel)
set_option maxRecDepth 20000 in
theorem gL_law_X4_putItem : GoodIn wsL_law (wsV RL 34 RX4 yX4_putItem wsX4_putItem) := goodIn_app (goodIn_of _ (by decide +kernel)) ggL_law_X4_putItem
set_option maxRecDepth 20000 in
theorem ggL_law_X3_spawn_k0 : GoodIn wsL_law ((wsX3_spawn.drop 0).take 20) := goodIn_r _ [171, 19, 21, 65, 172, 161, 162, 18, 163, 38, 39, 41, 123, 124, 125, 2, 126, 127, 128, 173] (by decide +kernel) (by decide +kernel)
set_option maxRecDepth 20000 in
theorem ggL_law_X3_spawn_k1 : GoodIn wsL_law ((wsX3_spawn.drop 20).take 20) := goodIn_r _ [174, 175, 23, 176, 177, 178, 179, 180, 181, 182, 183, 184, 51, 55, 185, 186, 73, 74, 75, 478] (by decide +kernel) (by decide +kernel)
set_option maxRecDepth 20000 in
theorem ggL_law_X3_spawn_k2 : GoodIn wsL_law ((wsX3_spawn.drop 40).take 20) := goodIn_r _ [479, 480, 481, 510, 511, 512, 513, 514, 515, 516, 517, 518, 519, 520, 521, 504, 505, 506, 507, 508] (by decide +kernel) (by decide +kernel)
set_option maxRecDepth 20000 in
theorem ggL_law_X3_spawn_k3 : GoodIn wsL_law (wsX3_spawn.drop 60) := goodIn_r _ [509, 522, 523] (by decide +kernel) (by decide +kernel)
set_option maxRecDepth 20000 in
theorem ggL_law_X3_spawn : GoodIn wsL_law wsX3_spawn := (goodIn_spl (a := 0) (b := 20) ggL_law_X3_spawn_k0 (goodIn_spl (a := 20) (b := 20) ggL_law_X3_spawn_k1 (goodIn_spl (a := 40) (b := 20) ggL_law_X3_spawn_k2 ggL_law_X3_spawn_k3)))
set_option maxRecDepth 20000 in
theorem gL_law_X3_spawn : GoodIn wsL_law (wsV RL 35 RX3 yX3_spawn wsX3_spawn) := goodIn_app (goodIn_of _ (by decide +kernel)) ggL_law_X3_spawn
set_option maxRecDepth 20000 in
theorem ggL_law_X4_spawn_k0 : GoodIn wsL_law ((wsX4_spawn.drop 0).take 20) := goodIn_r _ [190, 81, 98, 83, 84, 85, 87, 89, 90, 92, 93, 94, 88, 138, 139, 140, 5, 141, 96, 97] (by decide +kernel) (by decide +kernel)
set_option maxRecDepth 20000 in
theorem ggL_law_X4_spawn_k1 : GoodIn wsL_law ((wsX4_spawn.drop 20).take 20) := goodIn_r _ [142, 143, 144, 149, 150, 151, 145, 146, 147, 148, 482, 483, 484, 485, 486, 487, 488, 489, 490, 491] (by decide +kernel) (by decide +kernel)
set_option maxRecDepth 20000 in
theorem ggL_law_X4_spawn_k2 : GoodIn wsL_law (wsX4_spawn.drop 40) := goodIn_r _ [492, 493, 494, 495, 496, 497, 498, 499, 500, 501, 502, 503] (by decide +kernel) (by decide +kernel)
set_option maxRecDepth 20000 in
theorem ggL_law_X4_spawn : GoodIn wsL_law wsX4_spawn := (goodIn_spl (a := 0) (b := 20) ggL_law_X4_spawn_k0 (goodIn_spl (a := 20) (b := 20) ggL_law_X4_spawn_k1 ggL_law_X4_spawn_k2))
set_option maxRecDepth 20000 in
theorem gL_law_X4_spawn : GoodIn wsL_law (wsV RL 39 RX4 yX4_spawn wsX4_spawn) := goodIn_app (goodIn_of _ (by decide +kernel)) ggL_law_X4_spawn
set_option maxRecDepth 20000 in
theorem ggL_law_X3_load : GoodIn wsL_law wsX3_load := goodIn_r _ [194, 65, 195, 196, 197, 2, 198, 21, 199, 200, 201, 202, 203, 204, 205, 23, 206, 181, 50, 510, 511, 512, 513, 514, 515, 516, 517, 518, 519, 520, 521, 478, 479, 480, 481] (by decide +kernel) (by decide +kernel)
set_option maxRecDepth 20000 in
theorem gL_law_X3_load : GoodIn wsL_law (wsV RL 40 RX3 yX3_load wsX3_load) := goodIn_app (goodIn_of _ (by decide +kernel)) ggL_law_X3_load
set_option maxRecDepth 20000 in
theorem ggL_law_X4_load : GoodIn wsL_law wsX4_load := goodIn_r _ [210, 83, 87, 99, 86, 211, 212, 213, 5, 214, 98, 142, 143, 144, 482, 483, 484, 485, 486, 487, 488, 489, 490, 491, 492, 493, 494, 495, 496, 497, 498, 499, 500, 501, 502, 503] (by decide +kernel) (by decide +kernel)
set_option maxRecDepth 20000 in
theorem gL_law_X4_load : GoodIn wsL_law (wsV RL 43 RX4 yX4_load wsX4_load) := goodIn_app (goodIn_of _ (by decide +kernel)) ggL_law_X4_load
set_option maxRecDepth 20000 in
theorem ggL_law_X3_startRobot : GoodIn wsL_law wsX3_startRobot := goodIn_r _ [218, 65, 195, 196, 197, 2, 198, 21, 199, 200, 201, 202, 510, 511, 512, 513, 514, 515, 516, 517, 518, 519, 520, 521, 478, 479, 480, 481] (by decide +kernel) (by decide +kernel)
set_option maxRecDepth 20000 in
theorem gL_law_X3_startRobot : GoodIn wsL_law (wsV RL 44 RX3 yX3_startRobot wsX3_startRobot) := goodIn_app (goodIn_of _ (by decide +kernel)) ggL_law_X3_startRobot
set_option maxRecDepth 20000 in
theorem ggL_law_X4_startRobot : GoodIn wsL_law wsX4_startRobot := goodIn_r _ [222, 83, 211, 212, 213, 5, 214, 98, 142, 143, 144, 482, 483, 484, 485, 486, 487, 488, 489, 490, 491, 492, 493, 494, 495, 496, 497, 498, 499, 500, 501, 502, 503] (by decide +kernel) (by decide +kernel)
set_option maxRecDepth 20000 in
theorem gL_law_X4_startRobot : GoodIn wsL_law (wsV RL 48 RX4 yX4_startRobot wsX4_startRobot) := goodIn_app (goodIn_of _ (by decide +kernel)) ggL_law_X4_startRobot
set_option maxRecDepth 20000 in
theorem ggL_law_X3_tick_k0 : GoodIn wsL_law ((wsX3_tick.drop 0).take 20) := goodIn_r _ [226, 21, 227, 67, 65, 66, 228, 229, 230, 23, 231, 179, 184, 232, 233, 234, 2, 235, 199, 200] (by decide +kernel) (by decide +kernel)
set_option maxRecDepth 20000 in
theorem ggL_law_X3_tick_k1 : GoodIn wsL_law ((wsX3_tick.drop 20).take 20) := goodIn_r _ [201, 202, 236, 237, 238, 239, 180, 181, 50, 51, 240, 241, 242, 243, 244, 245, 246, 247, 248, 249] (by decide +kernel) (by decide +kernel)
set_option maxRecDepth 20000 in
theorem ggL_law_X3_tick_k2 : GoodIn wsL_law ((wsX3_tick.drop 40).take 20) := goodIn_r _ [250, 251, 252, 19, 127, 128, 253, 254, 255, 256, 257, 258, 259, 260, 261, 262, 263, 172, 161, 162] (by decide +kernel) (by decide +kernel)
set_option maxRecDepth 20000 in
theorem ggL_law_X3_tick_k3 : GoodIn wsL_law ((wsX3_tick.drop 60).take 20) := goodIn_r _ [18, 163, 38, 39, 41, 123, 124, 125, 126, 264, 265, 266, 267, 268, 269, 270, 271, 272, 273, 274] (by decide +kernel) (by decide +kernel)
set_option maxRecDepth 20000 in
theorem ggL_law_X3_tick_k4 : GoodIn wsL_law ((wsX3_tick.drop 80).take 20) := goodIn_r _ [275, 133, 120, 121, 122, 276, 277, 278, 279, 280, 281, 282, 283, 160, 284, 285, 286, 287, 156, 157] (by decide +kernel) (by decide +kernel)
set_option maxRecDepth 20000 in
theorem ggL_law_X3_tick_k5 : GoodIn wsL_law ((wsX3_tick.drop 100).take 20) := goodIn_r _ [158, 159, 288, 289, 290, 291, 292, 195, 196, 197, 198, 293, 294, 295, 296, 297, 298, 299, 54, 300] (by decide +kernel) (by decide +kernel)
set_option maxRecDepth 20000 in
theorem ggL_law_X3_tick_k6 : GoodIn wsL_law ((wsX3_tick.drop 120).take 20) := goodIn_r _ [301, 60, 302, 303, 304, 305, 306, 307, 308, 309, 310, 311, 312, 313, 314, 315, 316, 317, 318, 319] (by decide +kernel) (by decide +kernel)
set_option maxRecDepth 20000 in
theorem ggL_law_X3_tick_k7 : GoodIn wsL_law ((wsX3_tick.drop 140).take 20) := goodIn_r _ [320, 321, 322, 323, 324, 325, 326, 327, 328, 329, 44, 42, 43, 72, 73, 74, 75, 330, 331, 332] (by decide +kernel) (by decide +kernel)
set_option maxRecDepth 20000 in
theorem ggL_law_X3_tick_k8 : GoodIn wsL_law ((wsX3_tick.drop 160).take 20) := goodIn_r _ [333, 334, 335, 336, 478, 479, 480, 481, 510, 511, 512, 513, 514, 515, 516, 517, 518, 519, 520, 521] (by decide +kernel) (by decide +kernel)
set_option maxRecDepth 20000 in
theorem ggL_law_X3_tick_k9 : GoodIn wsL_law (wsX3_tick.drop 180) := goodIn_r _ [504, 505, 506, 507, 508, 509, 522, 523] (by decide +kernel) (by decide +kernel)
set_option maxRecDepth 20000 in
theorem ggL_law_X3_tick : GoodIn wsL_law wsX3_tick := (goodIn_spl (a := 0) (b := 20) ggL_law_X3_tick_k0 (goodIn_spl (a := 20) (b := 20) ggL_law_X3_tick_k1 (goodIn_spl (a := 40) (b := 20) ggL_law_X3_tick_k2 (goodIn_spl (a := 60) (b := 20) ggL_law_X3_tick_k3 (goodIn_spl (a := 80) (b := 20) ggL_law_X3_tick_k4 (goodIn_spl (a := 100) (b := 20) ggL_law_X3_tick_k5 (goodIn_spl (a := 120) (b := 20) ggL_law_X3_tick_k6 (goodIn_spl (a := 140) (b := 20) ggL_law_X3_tick_k7 (goodIn_spl (a := 160) (b := 20) ggL_law_X3_tick_k8 ggL_law_X3_tick_k9)))))))))
set_option maxRecDepth 20000 in
theorem gL_law_X3_tick : GoodIn wsL_law (wsV RL 49 RX3 yX3_tick wsX3_tick) := goodIn_app (goodIn_of _ (by decide +kernel)) ggL_law_X3_tick
set_option maxRecDepth 20000 in
theorem ggL_law_X4_tick_k0 : GoodIn wsL_law ((wsX4_tick.drop 0).take 20) := goodIn_r _ [340, 98, 83, 93, 108, 109, 341, 342, 343, 5, 344, 89, 87, 86, 88, 94, 142, 143, 144, 345] (by decide +kernel) (by decide +kernel)
set_option maxRecDepth 20000 in
theorem ggL_law_X4_tick_k1 : GoodIn wsL_law ((wsX4_tick.drop 20).take 20) := goodIn_r _ [346, 347, 348, 349, 350, 351, 352, 84, 85, 82, 90, 149, 150, 151, 353, 354, 355, 356, 357, 358] (by decide +kernel) (by decide +kernel)
set_option maxRecDepth 20000 in
theorem ggL_law_X4_tick_k2 : GoodIn wsL_law ((wsX4_tick.drop 40).take 20) := goodIn_r _ [359, 360, 361, 362, 363, 364, 365, 366, 81, 138, 139, 140, 141, 96, 97, 145, 146, 147, 148, 367] (by decide +kernel) (by decide +kernel)
set_option maxRecDepth 20000 in
theorem ggL_law_X4_tick_k3 : GoodIn wsL_law ((wsX4_tick.drop 60).take 20) := goodIn_r _ [368, 369, 370, 371, 372, 373, 374, 92, 100, 91, 211, 212, 213, 214, 375, 376, 377, 378, 379, 380] (by decide +kernel) (by decide +kernel)
set_option maxRecDepth 20000 in
theorem ggL_law_X4_tick_k4 : GoodIn wsL_law ((wsX4_tick.drop 80).take 20) := goodIn_r _ [381, 382, 383, 384, 385, 386, 95, 387, 388, 389, 390, 391, 392, 393, 394, 395, 396, 397, 398, 399] (by decide +kernel) (by decide +kernel)
set_option maxRecDepth 20000 in
theorem ggL_law_X4_tick_k5 : GoodIn wsL_law ((wsX4_tick.drop 100).take 20) := goodIn_r _ [482, 483, 484, 485, 486, 487, 488, 489, 490, 491, 492, 493, 494, 495, 496, 497, 498, 499, 500, 501] (by decide +kernel) (by decide +kernel)
set_option maxRecDepth 20000 in
theorem ggL_law_X4_tick_k6 : GoodIn wsL_law (wsX4_tick.drop 120) := goodIn_r _ [502, 503] (by decide +kernel) (by decide +kernel)
set_option maxRecDepth 20000 in
theorem ggL_law_X4_tick : GoodIn wsL_law wsX4_tick := (goodIn_spl (a := 0) (b := 20) ggL_law_X4_tick_k0 (goodIn_spl (a := 20) (b := 20) ggL_law_X4_tick_k1 (goodIn_spl (a := 40) (b := 20) ggL_law_X4_tick_k2 (goodIn_spl (a := 60) (b := 20) ggL_law_X4_tick_k3 (goodIn_spl (a := 80) (b := 20) ggL_law_X4_tick_k4 (goodIn_spl (a := 100) (b := 20) ggL_law_X4_tick_k5 ggL_law_X4_tick_k6))))))
set_option maxRecDepth 20000 in
theorem gL_law_X4_tick : GoodIn wsL_law (wsV RL 53 RX4 yX4_tick wsX4_tick) := goodIn_app (goodIn_of _ (by decide +kernel)) ggL_law_X4_tick
set_option maxRecDepth 20000 in
theorem ggL_law_X3_runTicks_k0 : GoodIn wsL_law ((wsX3_runTicks.drop 0).take 20) := goodIn_r _ [403, 404, 224, 225, 2, 226, 21, 227, 67, 65, 66, 228, 229, 230, 23, 231, 179, 184, 232, 233] (by decide +kernel) (by decide +kernel)
set_option maxRecDepth 20000 in
theorem ggL_law_X3_runTicks_k1 : GoodIn wsL_law ((wsX3_runTicks.drop 20).take 20) := goodIn_r _ [234, 235, 199, 200, 201, 202, 236, 237, 238, 239, 180, 181, 50, 51, 240, 241, 242, 243, 244, 245] (by decide +kernel) (by decide +kernel)
set_option maxRecDepth 20000 in
theorem ggL_law_X3_runTicks_k2 : GoodIn wsL_law ((wsX3_runTicks.drop 40).take 20) := goodIn_r _ [246, 247, 248, 249, 250, 251, 252, 19, 127, 128, 253, 254, 255, 256, 257, 258, 259, 260, 261, 262] (by decide +kernel) (by decide +kernel)
set_option maxRecDepth 20000 in
theorem ggL_law_X3_runTicks_k3 : GoodIn wsL_law ((wsX3_runTicks.drop 60).take 20) := goodIn_r _ [263, 172, 161, 162, 18, 163, 38, 39, 41, 123, 124, 125, 126, 264, 265, 266, 267, 268, 269, 270] (by decide +kernel) (by decide +kernel)
set_option maxRecDepth 20000 in
theorem ggL_law_X3_runTicks_k4 : GoodIn wsL_law ((wsX3_runTicks.drop 80).take 20) := goodIn_r _ [271, 272, 273, 274, 275, 133, 120, 121, 122, 276, 277, 278, 279, 280, 281, 282, 283, 160, 284, 285] (by decide +kernel) (by decide +kernel)
set_option maxRecDepth 20000 in
theorem ggL_law_X3_runTicks_k5 : GoodIn wsL_law ((wsX3_runTicks.drop 100).take 20) := goodIn_r _ [286, 287, 156, 157, 158, 159, 288, 289, 290, 291, 292, 195, 196, 197, 198, 293, 294, 295, 296, 297] (by decide +kernel) (by decide +kernel)
set_option maxRecDepth 20000 in
theorem ggL_law_X3_runTicks_k6 : GoodIn wsL_law ((wsX3_runTicks.drop 120).take 20) := goodIn_r _ [298, 299, 54, 300, 301, 60, 302, 303, 304, 305, 306, 307, 308, 309, 310, 311, 312, 313, 314, 315] (by decide +kernel) (by decide +kernel)
set_option maxRecDepth 20000 in
theorem ggL_law_X3_runTicks_k7 : GoodIn wsL_law ((wsX3_runTicks.drop 140).take 20) := goodIn_r _ [316, 317, 318, 319, 320, 321, 322, 323, 324, 325, 326, 327, 328, 329, 44, 42, 43, 72, 73, 74] (by decide +kernel) (by decide +kernel)
set_option maxRecDepth 20000 in
theorem ggL_law_X3_runTicks_k8 : GoodIn wsL_law ((wsX3_runTicks.drop 160).take 20) := goodIn_r _ [75, 330, 331, 332, 333, 334, 335, 336, 478, 479, 480, 481, 510, 511, 512, 513, 514, 515, 516, 517] (by decide +kernel) (by decide +kernel)
set_option maxRecDepth 20000 in
theorem ggL_law_X3_runTicks_k9 : GoodIn wsL_law (wsX3_runTicks.drop 180) := goodIn_r _ [518, 519, 520, 521, 504, 505, 506, 507, 508, 509, 522, 523] (by decide +kernel) (by decide +kernel)
set_option maxRecDepth 20000 in
theorem ggL_law_X3_runTicks : GoodIn wsL_law wsX3_runTicks := (goodIn_spl (a := 0) (b := 20) ggL_law_X3_runTicks_k0 (goodIn_spl (a := 20) (b := 20) ggL_law_X3_runTicks_k1 (goodIn_spl (a := 40) (b := 20) ggL_law_X3_runTicks_k2 (goodIn_spl (a := 60) (b := 20) ggL_law_X3_runTicks_k3 (goodIn_spl (a := 80) (b := 20) ggL_law_X3_runTicks_k4 (goodIn_spl (a := 100) (b := 20) ggL_law_X3_runTicks_k5 (goodIn_spl (a := 120) (b := 20) ggL_law_X3_runTicks_k6 (goodIn_spl (a := 140) (b := 20) ggL_law_X3_runTicks_k7 (goodIn_spl (a := 160) (b := 20) ggL_law_X3_runTicks_k8 ggL_law_X3_runTicks_k9)))))))))
set_option maxRecDepth 20000 in
theorem gL_law_X3_runTicks : GoodIn wsL_law (wsV RL 54 RX3 yX3_runTicks wsX3_runTicks) := goodIn_app (goodIn_of _ (by decide +kernel)) ggL_law_X3_runTicks
set_option maxRecDepth 20000 in
theorem ggL_law_X4_runTicks_k0 : GoodIn wsL_law ((wsX4_runTicks.drop 0).take 20) := goodIn_r _ [408, 142, 143, 5, 144, 409, 338, 339, 340, 98, 83, 93, 108, 109, 341, 342, 343, 344, 89, 87] (by decide +kernel) (by decide +kernel)
set_option maxRecDepth 20000 in
theorem ggL_law_X4_runTicks_k1 : GoodIn wsL_law ((wsX4_runTicks.drop 20).take 20) := goodIn_r _ [86, 88, 94, 345, 346, 347, 348, 349, 350, 351, 352, 84, 85, 82, 90, 149, 150, 151, 353, 354] (by decide +kernel) (by decide +kernel)
set_option maxRecDepth 20000 in
theorem ggL_law_X4_runTicks_k2 : GoodIn wsL_law ((wsX4_runTicks.drop 40).take 20) := goodIn_r _ [355, 356, 357, 358, 359, 360, 361, 362, 363, 364, 365, 366, 81, 138, 139, 140, 141, 96, 97, 145] (by decide +kernel) (by decide +kernel)
set_option maxRecDepth 20000 in
theorem ggL_law_X4_runTicks_k3 : GoodIn wsL_law ((wsX4_runTicks.drop 60).take 20) := goodIn_r _ [146, 147, 148, 367, 368, 369, 370, 371, 372, 373, 374, 92, 100, 91, 211, 212, 213, 214, 375, 376] (by decide +kernel) (by decide +kernel)
set_option maxRecDepth 20000 in
theorem ggL_law_X4_runTicks_k4 : GoodIn wsL_law ((wsX4_runTicks.drop 80).take 20) := goodIn_r _ [377, 378, 379, 380, 381, 382, 383, 384, 385, 386, 95, 387, 388, 389, 390, 391, 392, 393, 394, 395] (by decide +kernel) (by decide +kernel)
set_option maxRecDepth 20000 in
theorem ggL_law_X4_runTicks_k5 : GoodIn wsL_law ((wsX4_runTicks.drop 100).take 20) := goodIn_r _ [396, 397, 398, 399, 482, 483, 484, 485, 486, 487, 488, 489, 490, 491, 492, 493, 494, 495, 496, 497] (by decide +kernel) (by decide +kernel)
set_option maxRecDepth 20000 in
theorem ggL_law_X4_runTicks_k6 : GoodIn wsL_law (wsX4_runTicks.drop 120) := goodIn_r _ [498, 499, 500, 501, 502, 503] (by decide +kernel) (by decide +kernel)
set_option maxRecDepth 20000 in
theorem ggL_law_X4_runTicks : GoodIn wsL_law wsX4_runTicks := (goodIn_spl (a := 0) (b := 20) ggL_law_X4_runTicks_k0 (goodIn_spl (a := 20) (b := 20) ggL_law_X4_runTicks_k1 (goodIn_spl (a := 40) (b := 20) ggL_law_X4_runTicks_k2 (goodIn_spl (a := 60) (b := 20) ggL_law_X4_runTicks_k3 (goodIn_spl (a := 80) (b := 20) ggL_law_X4_runTicks_k4 (goodIn_spl (a := 100) (b := 20) ggL_law_X4_runTicks_k5 ggL_law_X4_runTicks_k6))))))
set_option maxRecDepth 20000 in
theorem gL_law_X4_runTicks : GoodIn wsL_law (wsV RL 57 RX4 yX4_runTicks wsX4_runTicks) := goodIn_app (goodIn_of _ (by decide +kernel)) ggL_law_X4_runTicks
set_option maxRecDepth 20000 in
theorem ggL_law_X3_kill_k0 : GoodIn wsL_law ((wsX3_kill.drop 0).take 20) := goodIn_r _ [413, 253, 19, 127, 128, 65, 195, 196, 197, 2, 198, 21, 199, 200, 201, 202, 156, 157, 158, 18] (by decide +kernel) (by decide +kernel)
set_option maxRecDepth 20000 in
theorem ggL_law_X3_kill_k1 : GoodIn wsL_law ((wsX3_kill.drop 20).take 20) := goodIn_r _ [159, 38, 41, 160, 161, 162, 163, 39, 510, 511, 512, 513, 514, 515, 516, 517, 518, 519, 520, 521] (by decide +kernel) (by decide +kernel)
set_option maxRecDepth 20000 in
theorem ggL_law_X3_kill_k2 : GoodIn wsL_law (wsX3_kill.drop 40) := goodIn_r _ [478, 479, 480, 481, 504, 505, 506, 507, 508, 509] (by decide +kernel) (by decide +kernel)
set_option maxRecDepth 20000 in
theorem ggL_law_X3_kill : GoodIn wsL_law wsX3_kill := (goodIn_spl (a := 0) (b := 20) ggL_law_X3_kill_k0 (goodIn_spl (a := 20) (b := 20) ggL_law_X3_kill_k1 ggL_law_X3_kill_k2))
set_option maxRecDepth 20000 in
theorem gL_law_X3_kill : GoodIn wsL_law (wsV RL 58 RX3 yX3_kill wsX3_kill) := goodIn_app (goodIn_of _ (by decide +kernel)) ggL_law_X3_kill
set_option maxRecDepth 20000 in
theorem ggL_law_X4_kill : GoodIn wsL_law wsX4_kill := goodIn_r _ [417, 84, 85, 82, 90, 83, 211, 212, 213, 5, 214, 98, 142, 143, 144, 149, 150, 151, 482, 483, 484, 485, 486, 487, 488, 489, 490, 491, 492, 493, 494, 495, 496, 497, 498, 499, 500, 501, 502, 503] (by decide +kernel) (by decide +kernel)
set_option maxRecDepth 20000 in
theorem gL_law_X4_kill : GoodIn wsL_law (wsV RL 61 RX4 yX4_kill wsX4_kill) := goodIn_app (goodIn_of _ (by decide +kernel)) ggL_law_X4_kill
set_option maxRecDepth 20000 in
theorem ggL_law_X3_robotX : GoodIn wsL_law wsX3_robotX := goodIn_r _ [421, 127, 195, 196, 197, 2, 198, 21, 65, 199, 200, 201, 202, 510, 511, 512, 513, 514, 515, 516, 517, 518, 519, 520, 521, 478, 479, 480, 481] (by decide +kernel) (by decide +kernel)
set_option maxRecDepth 20000 in
theorem gL_law_X3_robotX : GoodIn wsL_law (wsV RL 62 RX3 yX3_robotX wsX3_robotX) := goodIn_app (goodIn_of _ (by decide +kernel)) ggL_law_X3_robotX
set_option maxRecDepth 20000 in
theorem ggL_law_X4_robotX : GoodIn wsL_law wsX4_robotX := goodIn_r _ [425, 84, 211, 212, 213, 5, 214, 98, 83, 142, 143, 144, 482, 483, 484, 485, 486, 487, 488, 489, 490, 491, 492, 493, 494, 495, 496, 497, 498, 499, 500, 501, 502, 503] (by decide +kernel) (by decide +kernel)
set_option maxRecDepth 20000 in
theorem gL_law_X4_robotX : GoodIn wsL_law (wsV RL 65 RX4 yX4_robotX wsX4_robotX) := goodIn_app (goodIn_of _ (by decide +kernel)) ggL_law_X4_robotX
set_option maxRecDepth 20000 in
theorem ggL_law_X3_robotY : GoodIn wsL_law wsX3_robotY := goodIn_r _ [429, 128, 195, 196, 197, 2, 198, 21, 65, 199, 200, 201, 202, 510, 511, 512, 513, 514, 515, 516, 517, 518, 519, 520, 521, 478, 479, 480, 481] (by decide +kernel) (by decide +kernel)
set_option maxRecDepth 20000 in
theorem gL_law_X3_robotY : GoodIn wsL_law (wsV RL 66 RX3 yX3_robotY wsX3_robotY) := goodIn_app (goodIn_of _ (by decide +kernel)) ggL_law_X3_robotY
set_option maxRecDepth 20000 in
theorem ggL_law_X4_robotY : GoodIn wsL_law wsX4_robotY := goodIn_r _ [433, 85, 211, 212, 213, 5, 214, 98, 83, 142, 143, 144, 482, 483, 484, 485, 486, 487, 488, 489, 490, 491, 492, 493, 494, 495, 496, 497, 498, 499, 500, 501, 502, 503] (by decide +kernel) (by decide +kernel)
set_option maxRecDepth 20000 in
theorem gL_law_X4_robotY : GoodIn wsL_law (wsV RL 69 RX4 yX4_robotY wsX4_robotY) := goodIn_app (goodIn_of _ (by decide +kernel)) ggL_law_X4_robotY
set_option maxRecDepth 20000 in
theorem ggL_law_X3_robotState : GoodIn wsL_law wsX3_robotState := goodIn_r _ [437, 21, 65, 199, 200, 201, 2, 202, 478, 479, 480, 481, 510, 511, 512, 513, 514, 515, 516, 517, 518, 519, 520, 521] (by decide +kernel) (by decide +kernel)
set_option maxRecDepth 20000 in
theorem gL_law_X3_robotState : GoodIn wsL_law (wsV RL 70 RX3 yX3_robotState wsX3_robotState) := goodIn_app (goodIn_of _ (by decide +kernel)) ggL_law_X3_robotState
set_option maxRecDepth 20000 in
theorem ggL_law_X4_robotState : GoodIn wsL_law wsX4_robotState := goodIn_r _ [441, 98, 83, 142, 143, 5, 144, 482, 483, 484, 485, 486, 487, 488, 489, 490, 491, 492, 493, 494, 495, 496, 497, 498, 499, 500, 501, 502, 503] (by decide +kernel) (by decide +kernel)
set_option maxRecDepth 20000 in
theorem gL_law_X4_robotState : GoodIn wsL_law (wsV RL 73 RX4 yX4_robotState wsX4_robotState) := goodIn_app (goodIn_of _ (by decide +kernel)) ggL_law_X4_robotState
set_option maxRecDepth 20000 in
theorem ggL_law_X3_reg_k0 : GoodIn wsL_law ((wsX3_reg.drop 0).take 20) := goodIn_r _ [445, 195, 196, 197, 2, 198, 21, 65, 199, 200, 201, 202, 446, 447, 448, 23, 449, 51, 180, 183] (by decide +kernel) (by decide +kernel)
set_option maxRecDepth 20000 in
theorem ggL_law_X3_reg_k1 : GoodIn wsL_law ((wsX3_reg.drop 20).take 20) := goodIn_r _ [55, 185, 181, 182, 184, 478, 479, 480, 481, 510, 511, 512, 513, 514, 515, 516, 517, 518, 519, 520] (by decide +kernel) (by decide +kernel)
set_option maxRecDepth 20000 in
theorem ggL_law_X3_reg_k2 : GoodIn wsL_law (wsX3_reg.drop 40) := goodIn_r _ [521, 522, 523] (by decide +kernel) (by decide +kernel)
set_option maxRecDepth 20000 in
theorem ggL_law_X3_reg : GoodIn wsL_law wsX3_reg := (goodIn_spl (a := 0) (b := 20) ggL_law_X3_reg_k0 (goodIn_spl (a := 20) (b := 20) ggL_law_X3_reg_k1 ggL_law_X3_reg_k2))
set_option maxRecDepth 20000 in
theorem gL_law_X3_reg : GoodIn wsL_law (wsV RL 74 RX3 yX3_reg wsX3_reg) := goodIn_app (goodIn_of _ (by decide +kernel)) ggL_law_X3_reg
set_option maxRecDepth 20000 in
theorem ggL_law_X4_reg : GoodIn wsL_law wsX4_reg := goodIn_r _ [453, 89, 90, 92, 87, 94, 83, 93, 88, 211, 212, 213, 5, 214, 98, 142, 143, 144, 482, 483, 484, 485, 486, 487, 488, 489, 490, 491, 492, 493, 494, 495, 496, 497, 498, 499, 500, 501, 502, 503] (by decide +kernel) (by decide +kernel)
set_option maxRecDepth 20000 in
theorem gL_law_X4_reg : GoodIn wsL_law (wsV RL 77 RX4 yX4_reg wsX4_reg) := goodIn_app (goodIn_of _ (by decide +kernel)) ggL_law_X4_reg
set_option maxRecDepth 20000 in
theorem ggL_law_X3_at_k0 : GoodIn wsL_law ((wsX3_at.drop 0).take 20) := goodIn_r _ [271, 19, 227, 123, 124, 125, 2, 126, 21, 65, 127, 128, 272, 273, 274, 18, 275, 41, 38, 133] (by decide +kernel) (by decide +kernel)
set_option maxRecDepth 20000 in
theorem ggL_law_X3_at_k1 : GoodIn wsL_law ((wsX3_at.drop 20).take 20) := goodIn_r _ [120, 121, 122, 39, 478, 479, 480, 481, 510, 511, 512, 513, 514, 515, 516, 517, 518, 519, 520, 521] (by decide +kernel) (by decide +kernel)
set_option maxRecDepth 20000 in
theorem ggL_law_X3_at_k2 : GoodIn wsL_law (wsX3_at.drop 40) := goodIn_r _ [504, 505, 506, 507, 508, 509] (by decide +kernel) (by decide +kernel)
set_option maxRecDepth 20000 in
theorem ggL_law_X3_at : GoodIn wsL_law wsX3_at := (goodIn_spl (a := 0) (b := 20) ggL_law_X3_at_k0 (goodIn_spl (a := 20) (b := 20) ggL_law_X3_at_k1 ggL_law_X3_at_k2))
set_option maxRecDepth 20000 in
theorem gL_law_X3_at : GoodIn wsL_law (wsV RL 78 RX3 yX3_at wsX3_at) := goodIn_app (goodIn_of _ (by decide +kernel)) ggL_law_X3_at
set_option maxRecDepth 20000 in
theorem ggL_law_X4_at_k0 : GoodIn wsL_law ((wsX4_at.drop 0).take 20) := goodIn_r _ [370, 81, 82, 138, 139, 140, 5, 141, 96, 97, 142, 143, 144, 149, 150, 151, 145, 146, 147, 148] (by decide +kernel) (by decide +kernel)
set_option maxRecDepth 20000 in
theorem ggL_law_X4_at_k1 : GoodIn wsL_law ((wsX4_at.drop 20).take 20) := goodIn_r _ [98, 83, 84, 85, 482, 483, 484, 485, 486, 487, 488, 489, 490, 491, 492, 493, 494, 495, 496, 497] (by decide +kernel) (by decide +kernel)
set_option maxRecDepth 20000 in
theorem ggL_law_X4_at_k2 : GoodIn wsL_law (wsX4_at.drop 40) := goodIn_r _ [498, 499, 500, 501, 502, 503] (by decide +kernel) (by decide +kernel)
set_option maxRecDepth 20000 in
theorem ggL_law_X4_at : GoodIn wsL_law wsX4_at := (goodIn_spl (a := 0) (b := 20) ggL_law_X4_at_k0 (goodIn_spl (a := 20) (b := 20) ggL_law_X4_at_k1 ggL_law_X4_at_k2))
set_option maxRecDepth 20000 in
theorem gL_law_X4_at : GoodIn wsL_law (wsV RL 81 RX4 yX4_at wsX4_at) := goodIn_app (goodIn_of _ (by decide +kernel)) ggL_law_X4_at
set_option maxRecDepth 20000 in
theorem ggL_law_X3_pathLength_k0 : GoodIn wsL_law ((wsX3_pathLength.drop 0).take 20) := goodIn_r _ [459, 19, 460, 323, 324, 18, 325, 160, 161, 162, 163, 38, 39, 41, 326, 327, 328, 329, 44, 42] (by decide +kernel) (by decide +kernel)
set_option maxRecDepth 20000 in
theorem ggL_law_X3_pathLength_k1 : GoodIn wsL_law ((wsX3_pathLength.drop 20).take 20) := goodIn_r _ [43, 72, 73, 74, 75, 330, 331, 332, 333, 133, 120, 121, 122, 478, 479, 480, 481, 504, 505, 506] (by decide +kernel) (by decide +kernel)
set_option maxRecDepth 20000 in
theorem ggL_law_X3_pathLength_k2 : GoodIn wsL_law (wsX3_pathLength.drop 40) := goodIn_r _ [507, 508, 509] (by decide +kernel) (by decide +kernel)
set_option maxRecDepth 20000 in
theorem ggL_law_X3_pathLength : GoodIn wsL_law wsX3_pathLength := (goodIn_spl (a := 0) (b := 20) ggL_law_X3_pathLength_k0 (goodIn_spl (a := 20) (b := 20) ggL_law_X3_pathLength_k1 ggL_law_X3_pathLength_k2))
set_option maxRecDepth 20000 in
theorem gL_law_X3_pathLength : GoodIn wsL_law (wsV RL 82 RX3 yX3_pathLength wsX3_pathLength) := goodIn_app (goodIn_of _ (by decide +kernel)) ggL_law_X3_pathLength
set_option maxRecDepth 20000 in
theorem ggL_law_X4_pathLength_k0 : GoodIn wsL_law ((wsX4_pathLength.drop 0).take 20) := goodIn_r _ [390, 95, 391, 363, 364, 365, 5, 366, 81, 138, 139, 140, 141, 96, 97, 142, 143, 144, 149, 150] (by decide +kernel) (by decide +kernel)
set_option maxRecDepth 20000 in
theorem ggL_law_X4_pathLength_k1 : GoodIn wsL_law ((wsX4_pathLength.drop 20).take 20) := goodIn_r _ [151, 392, 393, 394, 395, 396, 397, 398, 399, 357, 358, 359, 360, 361, 362, 482, 483, 484, 485, 486] (by decide +kernel) (by decide +kernel)
set_option maxRecDepth 20000 in
theorem ggL_law_X4_pathLength_k2 : GoodIn wsL_law (wsX4_pathLength.drop 40) := goodIn_r _ [487, 488, 489, 490, 491, 492, 493, 494, 495, 496, 497, 498, 499, 500, 501, 502, 503] (by decide +kernel) (by decide +kernel)
set_option maxRecDepth 20000 in
theorem ggL_law_X4_pathLength : GoodIn wsL_law wsX4_pathLength := (goodIn_spl (a := 0) (b := 20) ggL_law_X4_pathLength_k0 (goodIn_spl (a := 20) (b := 20) ggL_law_X4_pathLength_k1 ggL_law_X4_pathLength_k2))
set_option maxRecDepth 20000 in
theorem gL_law_X4_pathLength : GoodIn wsL_law (wsV RL 86 RX4 yX4_pathLength wsX4_pathLength) := goodIn_app (goodIn_of _ (by decide +kernel)) ggL_law_X4_pathLength
set_option maxRecDepth 20000 in
theorem ggL_law_X3_now : GoodIn wsL_law wsX3_now := goodIn_r _ [465, 66, 478, 479, 480, 481] (by decide +kernel) (by decide +kernel)
set_option maxRecDepth 20000 in
theorem gL_law_X3_now : GoodIn wsL_law (wsV RL 87 RX3 yX3_now wsX3_now) := goodIn_app (goodIn_of _ (by decide +kernel)) ggL_law_X3_now
set_option maxRecDepth 20000 in
theorem ggL_law_X4_now : GoodIn wsL_law wsX4_now := goodIn_r _ [469, 109, 482, 483, 484, 485, 486, 487, 488, 489, 490, 491, 492, 493, 494, 495, 496, 497, 498, 499, 500, 501, 502, 503] (by decide +kernel) (by decide +kernel)
set_option maxRecDepth 20000 in
theorem gL_law_X4_now : GoodIn wsL_law (wsV RL 90 RX4 yX4_now wsX4_now) := goodIn_app (goodIn_of _ (by decide +kernel)) ggL_law_X4_now
set_option maxRecDepth 20000 in
theorem ggL_law_X3_setClock : GoodIn wsL_law wsX3_setClock := goodIn_r _ [473, 66, 478, 479, 480, 481] (by decide +kernel) (by decide +kernel)
set_option maxRecDepth 20000 in
theorem gL_law_X3_setClock : GoodIn wsL_law (wsV RL 91 RX3 yX3_setClock wsX3_setClock) := goodIn_app (goodIn_of _ (by decide +kernel)) ggL_law_X3_setClock
set_option maxRecDepth 20000 in
theorem ggL_law_X4_setClock : GoodIn wsL_law wsX4_setClock := goodIn_r _ [477, 109, 482, 483, 484, 485, 486, 487, 488, 489, 490, 491, 492, 493, 494, 495, 496, 497, 498, 499, 500, 501, 502, 503] (by decide +kernel) (by decide +kernel)
set_option maxRecDepth 20000 in
theorem gL_law_X4_setClock : GoodIn wsL_law (wsV RL 95 RX4 yX4_setClock wsX4_setClock) := goodIn_app (goodIn_of _ (by decide +kernel)) ggL_law_X4_setClock
theorem dL_law_0 : decode cL_law 0 = .ok (.new 7, 3) := by decide +kernel
theorem dL_law_3 : decode cL_law 3 = .ok (.dup, 1) := by decide +kernel
theorem dL_law_4 : decode cL_law 4 = .ok (.aload_n 0, 1) := by decide +kernel
theorem dL_law_5 : decode cL_law 5 = .ok (.iconst 0, 1) := by decide +kernel
theorem dL_law_6 : decode cL_law 6 = .ok (.invokestatic 9, 3) := by decide +kernel
theorem dL_law_9 : decode cL_law 9 = .ok (.aload_n 0, 1) := by decide +kernel
theorem dL_law_10 : decode cL_law 10 = .ok (.iconst 1, 1) := by decide +kernel
theorem dL_law_11 : decode cL_law 11 = .ok (.invokestatic 9, 3) := by decide +kernel
theorem dL_law_14 : decode cL_law 14 = .ok (.aload_n 0, 1) := by decide +kernel
theorem dL_law_15 : decode cL_law 15 = .ok (.iconst 2, 1) := by decide +kernel
theorem dL_law_16 : decode cL_law 16 = .ok (.invokestatic 9, 3) := by decide +kernel
theorem dL_law_19 : decode cL_law 19 = .ok (.aload_n 0, 1) := by decide +kernel
theorem dL_law_20 : decode cL_law 20 = .ok (.iconst 3, 1) := by decide +kernel
theorem dL_law_21 : decode cL_law 21 = .ok (.invokestatic 9, 3) := by decide +kernel
theorem dL_law_24 : decode cL_law 24 = .ok (.aload_n 0, 1) := by decide +kernel
theorem dL_law_25 : decode cL_law 25 = .ok (.iconst 4, 1) := by decide +kernel
theorem dL_law_26 : decode cL_law 26 = .ok (.invokestatic 9, 3) := by decide +kernel
theorem dL_law_29 : decode cL_law 29 = .ok (.invokespecial 15, 3) := by decide +kernel
theorem dL_law_32 : decode cL_law 32 = .ok (.astore_n 1, 1) := by decide +kernel
theorem dL_law_33 : decode cL_law 33 = .ok (.new 18, 3) := by decide +kernel
theorem dL_law_36 : decode cL_law 36 = .ok (.dup, 1) := by decide +kernel
theorem dL_law_37 : decode cL_law 37 = .ok (.aload_n 0, 1) := by decide +kernel
theorem dL_law_38 : decode cL_law 38 = .ok (.iconst 0, 1) := by decide +kernel
theorem dL_law_39 : decode cL_law 39 = .ok (.invokestatic 9, 3) := by decide +kernel
theorem dL_law_42 : decode cL_law 42 = .ok (.aload_n 0, 1) := by decide +kernel
theorem dL_law_43 : decode cL_law 43 = .ok (.iconst 1, 1) := by decide +kernel
theorem dL_law_44 : decode cL_law 44 = .ok (.invokestatic 9, 3) := by decide +kernel
theorem dL_law_47 : decode cL_law 47 = .ok (.aload_n 0, 1) := by decide +kernel
theorem dL_law_48 : decode cL_law 48 = .ok (.iconst 2, 1) := by decide +kernel
theorem dL_law_49 : decode cL_law 49 = .ok (.invokestatic 9, 3) := by decide +kernel
theorem dL_law_52 : decode cL_law 52 = .ok (.aload_n 0, 1) := by decide +kernel
theorem dL_law_53 : decode cL_law 53 = .ok (.iconst 3, 1) := by decide +kernel
theorem dL_law_54 : decode cL_law 54 = .ok (.invokestatic 9, 3) := by decide +kernel
theorem dL_law_57 : decode cL_law 57 = .ok (.aload_n 0, 1) := by decide +kernel
theorem dL_law_58 : decode cL_law 58 = .ok (.iconst 4, 1) := by decide +kernel
theorem dL_law_59 : decode cL_law 59 = .ok (.invokestatic 9, 3) := by decide +kernel
theorem dL_law_62 : decode cL_law 62 = .ok (.invokespecial 20, 3) := by decide +kernel
theorem dL_law_65 : decode cL_law 65 = .ok (.astore_n 2, 1) := by decide +kernel
theorem dL_law_66 : decode cL_law 66 = .ok (.iconst 5, 1) := by decide +kernel
theorem dL_law_67 : decode cL_law 67 = .ok (.istore_n 3, 1) := by decide +kernel
theorem dL_law_68 : decode cL_law 68 = .ok (.iload_n 3, 1) := by decide +kernel
theorem dL_law_69 : decode cL_law 69 = .ok (.aload_n 0, 1) := by decide +kernel
theorem dL_law_70 : decode cL_law 70 = .ok (.arraylength, 1) := by decide +kernel
theorem dL_law_71 : decode cL_law 71 = .ok (.iconst 5, 1) := by decide +kernel
theorem dL_law_72 : decode cL_law 72 = .ok (.isub, 1) := by decide +kernel
theorem dL_law_73 : decode cL_law 73 = .ok (.if_icmp .gt 570, 3) := by decide +kernel
theorem dL_law_76 : decode cL_law 76 = .ok (.aload_n 0, 1) := by decide +kernel
theorem dL_law_77 : decode cL_law 77 = .ok (.iload_n 3, 1) := by decide +kernel
theorem dL_law_78 : decode cL_law 78 = .ok (.iaload, 1) := by decide +kernel
theorem dL_law_79 : decode cL_law 79 = .ok (.bipush 31, 2) := by decide +kernel
theorem dL_law_81 : decode cL_law 81 = .ok (.iand, 1) := by decide +kernel
theorem dL_law_82 : decode cL_law 82 = .ok (.tableswitch 555 0 16 #[82, 93, 152, 185, 218, 251, 274, 287, 310, 333, 356, 379, 402, 435, 468, 521, 534], 82) := by decide +kernel
theorem dL_law_164 : decode cL_law 164 = .ok (.aload_n 1, 1) := by decide +kernel
theorem dL_law_165 : decode cL_law 165 = .ok (.invokevirtual 21, 3) := by decide +kernel
theorem dL_law_168 : decode cL_law 168 = .ok (.aload_n 2, 1) := by decide +kernel
theorem dL_law_169 : decode cL_law 169 = .ok (.invokevirtual 24, 3) := by decide +kernel
theorem dL_law_172 : decode cL_law 172 = .ok (.goto 465, 3) := by decide +kernel
theorem dL_law_175 : decode cL_law 175 = .ok (.aload_n 1, 1) := by decide +kernel
theorem dL_law_176 : decode cL_law 176 = .ok (.aload_n 0, 1) := by decide +kernel
theorem dL_law_177 : decode cL_law 177 = .ok (.iload_n 3, 1) := by decide +kernel
theorem dL_law_178 : decode cL_law 178 = .ok (.iconst 1, 1) := by decide +kernel
theorem dL_law_179 : decode cL_law 179 = .ok (.iadd, 1) := by decide +kernel
theorem dL_law_180 : decode cL_law 180 = .ok (.iaload, 1) := by decide +kernel
theorem dL_law_181 : decode cL_law 181 = .ok (.aload_n 0, 1) := by decide +kernel
theorem dL_law_182 : decode cL_law 182 = .ok (.iload_n 3, 1) := by decide +kernel
theorem dL_law_183 : decode cL_law 183 = .ok (.iconst 2, 1) := by decide +kernel
theorem dL_law_184 : decode cL_law 184 = .ok (.iadd, 1) := by decide +kernel
theorem dL_law_185 : decode cL_law 185 = .ok (.iaload, 1) := by decide +kernel
theorem dL_law_186 : decode cL_law 186 = .ok (.aload_n 0, 1) := by decide +kernel
theorem dL_law_187 : decode cL_law 187 = .ok (.iload_n 3, 1) := by decide +kernel
theorem dL_law_188 : decode cL_law 188 = .ok (.iconst 3, 1) := by decide +kernel
theorem dL_law_189 : decode cL_law 189 = .ok (.iadd, 1) := by decide +kernel
theorem dL_law_190 : decode cL_law 190 = .ok (.iaload, 1) := by decide +kernel
theorem dL_law_191 : decode cL_law 191 = .ok (.ifCond .eq 7, 3) := by decide +kernel
theorem dL_law_194 : decode cL_law 194 = .ok (.iconst 1, 1) := by decide +kernel
theorem dL_law_195 : decode cL_law 195 = .ok (.goto 4, 3) := by decide +kernel
theorem dL_law_198 : decode cL_law 198 = .ok (.iconst 0, 1) := by decide +kernel
theorem dL_law_199 : decode cL_law 199 = .ok (.invokevirtual 25, 3) := by decide +kernel
theorem dL_law_202 : decode cL_law 202 = .ok (.aload_n 2, 1) := by decide +kernel
theorem dL_law_203 : decode cL_law 203 = .ok (.aload_n 0, 1) := by decide +kernel
theorem dL_law_204 : decode cL_law 204 = .ok (.iload_n 3, 1) := by decide +kernel
theorem dL_law_205 : decode cL_law 205 = .ok (.iconst 1, 1) := by decide +kernel
theorem dL_law_206 : decode cL_law 206 = .ok (.iadd, 1) := by decide +kernel
theorem dL_law_207 : decode cL_law 207 = .ok (.iaload, 1) := by decide +kernel
theorem dL_law_208 : decode cL_law 208 = .ok (.aload_n 0, 1) := by decide +kernel
theorem dL_law_209 : decode cL_law 209 = .ok (.iload_n 3, 1) := by decide +kernel
theorem dL_law_210 : decode cL_law 210 = .ok (.iconst 2, 1) := by decide +kernel
theorem dL_law_211 : decode cL_law 211 = .ok (.iadd, 1) := by decide +kernel
theorem dL_law_212 : decode cL_law 212 = .ok (.iaload, 1) := by decide +kernel
theorem dL_law_213 : decode cL_law 213 = .ok (.aload_n 0, 1) := by decide +kernel
theorem dL_law_214 : decode cL_law 214 = .ok (.iload_n 3, 1) := by decide +kernel
theorem dL_law_215 : decode cL_law 215 = .ok (.iconst 3, 1) := by decide +kernel
theorem dL_law_216 : decode cL_law 216 = .ok (.iadd, 1) := by decide +kernel
theorem dL_law_217 : decode cL_law 217 = .ok (.iaload, 1) := by decide +kernel
theorem dL_law_218 : decode cL_law 218 = .ok (.ifCond .eq 7, 3) := by decide +kernel
theorem dL_law_221 : decode cL_law 221 = .ok (.iconst 1, 1) := by decide +kernel
theorem dL_law_222 : decode cL_law 222 = .ok (.goto 4, 3) := by decide +kernel
theorem dL_law_225 : decode cL_law 225 = .ok (.iconst 0, 1) := by decide +kernel
theorem dL_law_226 : decode cL_law 226 = .ok (.invokevirtual 29, 3) := by decide +kernel
theorem dL_law_229 : decode cL_law 229 = .ok (.if_icmp .eq 408, 3) := by decide +kernel
theorem dL_law_232 : decode cL_law 232 = .ok (.iconst 0, 1) := by decide +kernel
theorem dL_law_233 : decode cL_law 233 = .ok (.ireturn, 1) := by decide +kernel
theorem dL_law_234 : decode cL_law 234 = .ok (.aload_n 1, 1) := by decide +kernel
theorem dL_law_235 : decode cL_law 235 = .ok (.aload_n 0, 1) := by decide +kernel
theorem dL_law_236 : decode cL_law 236 = .ok (.iload_n 3, 1) := by decide +kernel
theorem dL_law_237 : decode cL_law 237 = .ok (.iconst 1, 1) := by decide +kernel
theorem dL_law_238 : decode cL_law 238 = .ok (.iadd, 1) := by decide +kernel
theorem dL_law_239 : decode cL_law 239 = .ok (.iaload, 1) := by decide +kernel
theorem dL_law_240 : decode cL_law 240 = .ok (.aload_n 0, 1) := by decide +kernel
theorem dL_law_241 : decode cL_law 241 = .ok (.iload_n 3, 1) := by decide +kernel
theorem dL_law_242 : decode cL_law 242 = .ok (.iconst 2, 1) := by decide +kernel
theorem dL_law_243 : decode cL_law 243 = .ok (.iadd, 1) := by decide +kernel
theorem dL_law_244 : decode cL_law 244 = .ok (.iaload, 1) := by decide +kernel
theorem dL_law_245 : decode cL_law 245 = .ok (.invokevirtual 30, 3) := by decide +kernel
theorem dL_law_248 : decode cL_law 248 = .ok (.aload_n 2, 1) := by decide +kernel
theorem dL_law_249 : decode cL_law 249 = .ok (.aload_n 0, 1) := by decide +kernel
theorem dL_law_250 : decode cL_law 250 = .ok (.iload_n 3, 1) := by decide +kernel
theorem dL_law_251 : decode cL_law 251 = .ok (.iconst 1, 1) := by decide +kernel
theorem dL_law_252 : decode cL_law 252 = .ok (.iadd, 1) := by decide +kernel
theorem dL_law_253 : decode cL_law 253 = .ok (.iaload, 1) := by decide +kernel
theorem dL_law_254 : decode cL_law 254 = .ok (.aload_n 0, 1) := by decide +kernel
theorem dL_law_255 : decode cL_law 255 = .ok (.iload_n 3, 1) := by decide +kernel
theorem dL_law_256 : decode cL_law 256 = .ok (.iconst 2, 1) := by decide +kernel
theorem dL_law_257 : decode cL_law 257 = .ok (.iadd, 1) := by decide +kernel
theorem dL_law_258 : decode cL_law 258 = .ok (.iaload, 1) := by decide +kernel
theorem dL_law_259 : decode cL_law 259 = .ok (.invokevirtual 34, 3) := by decide +kernel
theorem dL_law_262 : decode cL_law 262 = .ok (.if_icmp .eq 375, 3) := by decide +kernel
theorem dL_law_265 : decode cL_law 265 = .ok (.iconst 0, 1) := by decide +kernel
theorem dL_law_266 : decode cL_law 266 = .ok (.ireturn, 1) := by decide +kernel
theorem dL_law_267 : decode cL_law 267 = .ok (.aload_n 1, 1) := by decide +kernel
theorem dL_law_268 : decode cL_law 268 = .ok (.aload_n 0, 1) := by decide +kernel
theorem dL_law_269 : decode cL_law 269 = .ok (.iload_n 3, 1) := by decide +kernel
theorem dL_law_270 : decode cL_law 270 = .ok (.iconst 1, 1) := by decide +kernel
theorem dL_law_271 : decode cL_law 271 = .ok (.iadd, 1) := by decide +kernel
theorem dL_law_272 : decode cL_law 272 = .ok (.iaload, 1) := by decide +kernel
theorem dL_law_273 : decode cL_law 273 = .ok (.aload_n 0, 1) := by decide +kernel
theorem dL_law_274 : decode cL_law 274 = .ok (.iload_n 3, 1) := by decide +kernel
theorem dL_law_275 : decode cL_law 275 = .ok (.iconst 2, 1) := by decide +kernel
theorem dL_law_276 : decode cL_law 276 = .ok (.iadd, 1) := by decide +kernel
theorem dL_law_277 : decode cL_law 277 = .ok (.iaload, 1) := by decide +kernel
theorem dL_law_278 : decode cL_law 278 = .ok (.invokevirtual 35, 3) := by decide +kernel
theorem dL_law_281 : decode cL_law 281 = .ok (.aload_n 2, 1) := by decide +kernel
theorem dL_law_282 : decode cL_law 282 = .ok (.aload_n 0, 1) := by decide +kernel
theorem dL_law_283 : decode cL_law 283 = .ok (.iload_n 3, 1) := by decide +kernel
theorem dL_law_284 : decode cL_law 284 = .ok (.iconst 1, 1) := by decide +kernel
theorem dL_law_285 : decode cL_law 285 = .ok (.iadd, 1) := by decide +kernel
theorem dL_law_286 : decode cL_law 286 = .ok (.iaload, 1) := by decide +kernel
theorem dL_law_287 : decode cL_law 287 = .ok (.aload_n 0, 1) := by decide +kernel
theorem dL_law_288 : decode cL_law 288 = .ok (.iload_n 3, 1) := by decide +kernel
theorem dL_law_289 : decode cL_law 289 = .ok (.iconst 2, 1) := by decide +kernel
theorem dL_law_290 : decode cL_law 290 = .ok (.iadd, 1) := by decide +kernel
theorem dL_law_291 : decode cL_law 291 = .ok (.iaload, 1) := by decide +kernel
theorem dL_law_292 : decode cL_law 292 = .ok (.invokevirtual 39, 3) := by decide +kernel
theorem dL_law_295 : decode cL_law 295 = .ok (.if_icmp .eq 342, 3) := by decide +kernel
theorem dL_law_298 : decode cL_law 298 = .ok (.iconst 0, 1) := by decide +kernel
theorem dL_law_299 : decode cL_law 299 = .ok (.ireturn, 1) := by decide +kernel
theorem dL_law_300 : decode cL_law 300 = .ok (.aload_n 1, 1) := by decide +kernel
theorem dL_law_301 : decode cL_law 301 = .ok (.aload_n 0, 1) := by decide +kernel
theorem dL_law_302 : decode cL_law 302 = .ok (.iload_n 3, 1) := by decide +kernel
theorem dL_law_303 : decode cL_law 303 = .ok (.iconst 1, 1) := by decide +kernel
theorem dL_law_304 : decode cL_law 304 = .ok (.iadd, 1) := by decide +kernel
theorem dL_law_305 : decode cL_law 305 = .ok (.iaload, 1) := by decide +kernel
theorem dL_law_306 : decode cL_law 306 = .ok (.aload_n 0, 1) := by decide +kernel
theorem dL_law_307 : decode cL_law 307 = .ok (.iload_n 3, 1) := by decide +kernel
theorem dL_law_308 : decode cL_law 308 = .ok (.iconst 2, 1) := by decide +kernel
theorem dL_law_309 : decode cL_law 309 = .ok (.iadd, 1) := by decide +kernel
theorem dL_law_310 : decode cL_law 310 = .ok (.iaload, 1) := by decide +kernel
theorem dL_law_311 : decode cL_law 311 = .ok (.invokevirtual 40, 3) := by decide +kernel
theorem dL_law_314 : decode cL_law 314 = .ok (.aload_n 2, 1) := by decide +kernel
theorem dL_law_315 : decode cL_law 315 = .ok (.aload_n 0, 1) := by decide +kernel
theorem dL_law_316 : decode cL_law 316 = .ok (.iload_n 3, 1) := by decide +kernel
theorem dL_law_317 : decode cL_law 317 = .ok (.iconst 1, 1) := by decide +kernel
theorem dL_law_318 : decode cL_law 318 = .ok (.iadd, 1) := by decide +kernel
theorem dL_law_319 : decode cL_law 319 = .ok (.iaload, 1) := by decide +kernel
theorem dL_law_320 : decode cL_law 320 = .ok (.aload_n 0, 1) := by decide +kernel
theorem dL_law_321 : decode cL_law 321 = .ok (.iload_n 3, 1) := by decide +kernel
theorem dL_law_322 : decode cL_law 322 = .ok (.iconst 2, 1) := by decide +kernel
theorem dL_law_323 : decode cL_law 323 = .ok (.iadd, 1) := by decide +kernel
theorem dL_law_324 : decode cL_law 324 = .ok (.iaload, 1) := by decide +kernel
theorem dL_law_325 : decode cL_law 325 = .ok (.invokevirtual 43, 3) := by decide +kernel
theorem dL_law_328 : decode cL_law 328 = .ok (.if_icmp .eq 309, 3) := by decide +kernel
theorem dL_law_331 : decode cL_law 331 = .ok (.iconst 0, 1) := by decide +kernel
theorem dL_law_332 : decode cL_law 332 = .ok (.ireturn, 1) := by decide +kernel
theorem dL_law_333 : decode cL_law 333 = .ok (.aload_n 1, 1) := by decide +kernel
theorem dL_law_334 : decode cL_law 334 = .ok (.aload_n 0, 1) := by decide +kernel
theorem dL_law_335 : decode cL_law 335 = .ok (.iload_n 3, 1) := by decide +kernel
theorem dL_law_336 : decode cL_law 336 = .ok (.iconst 1, 1) := by decide +kernel
theorem dL_law_337 : decode cL_law 337 = .ok (.iadd, 1) := by decide +kernel
theorem dL_law_338 : decode cL_law 338 = .ok (.iaload, 1) := by decide +kernel
theorem dL_law_339 : decode cL_law 339 = .ok (.invokevirtual 44, 3) := by decide +kernel
theorem dL_law_342 : decode cL_law 342 = .ok (.aload_n 2, 1) := by decide +kernel
theorem dL_law_343 : decode cL_law 343 = .ok (.aload_n 0, 1) := by decide +kernel
theorem dL_law_344 : decode cL_law 344 = .ok (.iload_n 3, 1) := by decide +kernel
theorem dL_law_345 : decode cL_law 345 = .ok (.iconst 1, 1) := by decide +kernel
theorem dL_law_346 : decode cL_law 346 = .ok (.iadd, 1) := by decide +kernel
theorem dL_law_347 : decode cL_law 347 = .ok (.iaload, 1) := by decide +kernel
theorem dL_law_348 : decode cL_law 348 = .ok (.invokevirtual 48, 3) := by decide +kernel
theorem dL_law_351 : decode cL_law 351 = .ok (.if_icmp .eq 286, 3) := by decide +kernel
theorem dL_law_354 : decode cL_law 354 = .ok (.iconst 0, 1) := by decide +kernel
theorem dL_law_355 : decode cL_law 355 = .ok (.ireturn, 1) := by decide +kernel
theorem dL_law_356 : decode cL_law 356 = .ok (.aload_n 1, 1) := by decide +kernel
theorem dL_law_357 : decode cL_law 357 = .ok (.invokevirtual 49, 3) := by decide +kernel
theorem dL_law_360 : decode cL_law 360 = .ok (.aload_n 2, 1) := by decide +kernel
theorem dL_law_361 : decode cL_law 361 = .ok (.invokevirtual 53, 3) := by decide +kernel
theorem dL_law_364 : decode cL_law 364 = .ok (.if_icmp .eq 273, 3) := by decide +kernel
theorem dL_law_367 : decode cL_law 367 = .ok (.iconst 0, 1) := by decide +kernel
theorem dL_law_368 : decode cL_law 368 = .ok (.ireturn, 1) := by decide +kernel
theorem dL_law_369 : decode cL_law 369 = .ok (.aload_n 1, 1) := by decide +kernel
theorem dL_law_370 : decode cL_law 370 = .ok (.aload_n 0, 1) := by decide +kernel
theorem dL_law_371 : decode cL_law 371 = .ok (.iload_n 3, 1) := by decide +kernel
theorem dL_law_372 : decode cL_law 372 = .ok (.iconst 1, 1) := by decide +kernel
theorem dL_law_373 : decode cL_law 373 = .ok (.iadd, 1) := by decide +kernel
theorem dL_law_374 : decode cL_law 374 = .ok (.iaload, 1) := by decide +kernel
theorem dL_law_375 : decode cL_law 375 = .ok (.invokevirtual 54, 3) := by decide +kernel
theorem dL_law_378 : decode cL_law 378 = .ok (.aload_n 2, 1) := by decide +kernel
theorem dL_law_379 : decode cL_law 379 = .ok (.aload_n 0, 1) := by decide +kernel
theorem dL_law_380 : decode cL_law 380 = .ok (.iload_n 3, 1) := by decide +kernel
theorem dL_law_381 : decode cL_law 381 = .ok (.iconst 1, 1) := by decide +kernel
theorem dL_law_382 : decode cL_law 382 = .ok (.iadd, 1) := by decide +kernel
theorem dL_law_383 : decode cL_law 383 = .ok (.iaload, 1) := by decide +kernel
theorem dL_law_384 : decode cL_law 384 = .ok (.invokevirtual 57, 3) := by decide +kernel
theorem dL_law_387 : decode cL_law 387 = .ok (.if_icmp .eq 250, 3) := by decide +kernel
theorem dL_law_390 : decode cL_law 390 = .ok (.iconst 0, 1) := by decide +kernel
theorem dL_law_391 : decode cL_law 391 = .ok (.ireturn, 1) := by decide +kernel
theorem dL_law_392 : decode cL_law 392 = .ok (.aload_n 1, 1) := by decide +kernel
theorem dL_law_393 : decode cL_law 393 = .ok (.aload_n 0, 1) := by decide +kernel
theorem dL_law_394 : decode cL_law 394 = .ok (.iload_n 3, 1) := by decide +kernel
theorem dL_law_395 : decode cL_law 395 = .ok (.iconst 1, 1) := by decide +kernel
theorem dL_law_396 : decode cL_law 396 = .ok (.iadd, 1) := by decide +kernel
theorem dL_law_397 : decode cL_law 397 = .ok (.iaload, 1) := by decide +kernel
theorem dL_law_398 : decode cL_law 398 = .ok (.invokevirtual 58, 3) := by decide +kernel
theorem dL_law_401 : decode cL_law 401 = .ok (.aload_n 2, 1) := by decide +kernel
theorem dL_law_402 : decode cL_law 402 = .ok (.aload_n 0, 1) := by decide +kernel
theorem dL_law_403 : decode cL_law 403 = .ok (.iload_n 3, 1) := by decide +kernel
theorem dL_law_404 : decode cL_law 404 = .ok (.iconst 1, 1) := by decide +kernel
theorem dL_law_405 : decode cL_law 405 = .ok (.iadd, 1) := by decide +kernel
theorem dL_law_406 : decode cL_law 406 = .ok (.iaload, 1) := by decide +kernel
theorem dL_law_407 : decode cL_law 407 = .ok (.invokevirtual 61, 3) := by decide +kernel
theorem dL_law_410 : decode cL_law 410 = .ok (.if_icmp .eq 227, 3) := by decide +kernel
theorem dL_law_413 : decode cL_law 413 = .ok (.iconst 0, 1) := by decide +kernel
theorem dL_law_414 : decode cL_law 414 = .ok (.ireturn, 1) := by decide +kernel
theorem dL_law_415 : decode cL_law 415 = .ok (.aload_n 1, 1) := by decide +kernel
theorem dL_law_416 : decode cL_law 416 = .ok (.aload_n 0, 1) := by decide +kernel
theorem dL_law_417 : decode cL_law 417 = .ok (.iload_n 3, 1) := by decide +kernel
theorem dL_law_418 : decode cL_law 418 = .ok (.iconst 1, 1) := by decide +kernel
theorem dL_law_419 : decode cL_law 419 = .ok (.iadd, 1) := by decide +kernel
theorem dL_law_420 : decode cL_law 420 = .ok (.iaload, 1) := by decide +kernel
theorem dL_law_421 : decode cL_law 421 = .ok (.invokevirtual 62, 3) := by decide +kernel
theorem dL_law_424 : decode cL_law 424 = .ok (.aload_n 2, 1) := by decide +kernel
theorem dL_law_425 : decode cL_law 425 = .ok (.aload_n 0, 1) := by decide +kernel
theorem dL_law_426 : decode cL_law 426 = .ok (.iload_n 3, 1) := by decide +kernel
theorem dL_law_427 : decode cL_law 427 = .ok (.iconst 1, 1) := by decide +kernel
theorem dL_law_428 : decode cL_law 428 = .ok (.iadd, 1) := by decide +kernel
theorem dL_law_429 : decode cL_law 429 = .ok (.iaload, 1) := by decide +kernel
theorem dL_law_430 : decode cL_law 430 = .ok (.invokevirtual 65, 3) := by decide +kernel
theorem dL_law_433 : decode cL_law 433 = .ok (.if_icmp .eq 204, 3) := by decide +kernel
theorem dL_law_436 : decode cL_law 436 = .ok (.iconst 0, 1) := by decide +kernel
theorem dL_law_437 : decode cL_law 437 = .ok (.ireturn, 1) := by decide +kernel
theorem dL_law_438 : decode cL_law 438 = .ok (.aload_n 1, 1) := by decide +kernel
theorem dL_law_439 : decode cL_law 439 = .ok (.aload_n 0, 1) := by decide +kernel
theorem dL_law_440 : decode cL_law 440 = .ok (.iload_n 3, 1) := by decide +kernel
theorem dL_law_441 : decode cL_law 441 = .ok (.iconst 1, 1) := by decide +kernel
theorem dL_law_442 : decode cL_law 442 = .ok (.iadd, 1) := by decide +kernel
theorem dL_law_443 : decode cL_law 443 = .ok (.iaload, 1) := by decide +kernel
theorem dL_law_444 : decode cL_law 444 = .ok (.invokevirtual 66, 3) := by decide +kernel
theorem dL_law_447 : decode cL_law 447 = .ok (.aload_n 2, 1) := by decide +kernel
theorem dL_law_448 : decode cL_law 448 = .ok (.aload_n 0, 1) := by decide +kernel
theorem dL_law_449 : decode cL_law 449 = .ok (.iload_n 3, 1) := by decide +kernel
theorem dL_law_450 : decode cL_law 450 = .ok (.iconst 1, 1) := by decide +kernel
theorem dL_law_451 : decode cL_law 451 = .ok (.iadd, 1) := by decide +kernel
theorem dL_law_452 : decode cL_law 452 = .ok (.iaload, 1) := by decide +kernel
theorem dL_law_453 : decode cL_law 453 = .ok (.invokevirtual 69, 3) := by decide +kernel
theorem dL_law_456 : decode cL_law 456 = .ok (.if_icmp .eq 181, 3) := by decide +kernel
theorem dL_law_459 : decode cL_law 459 = .ok (.iconst 0, 1) := by decide +kernel
theorem dL_law_460 : decode cL_law 460 = .ok (.ireturn, 1) := by decide +kernel
theorem dL_law_461 : decode cL_law 461 = .ok (.aload_n 1, 1) := by decide +kernel
theorem dL_law_462 : decode cL_law 462 = .ok (.aload_n 0, 1) := by decide +kernel
theorem dL_law_463 : decode cL_law 463 = .ok (.iload_n 3, 1) := by decide +kernel
theorem dL_law_464 : decode cL_law 464 = .ok (.iconst 1, 1) := by decide +kernel
theorem dL_law_465 : decode cL_law 465 = .ok (.iadd, 1) := by decide +kernel
theorem dL_law_466 : decode cL_law 466 = .ok (.iaload, 1) := by decide +kernel
theorem dL_law_467 : decode cL_law 467 = .ok (.invokevirtual 70, 3) := by decide +kernel
theorem dL_law_470 : decode cL_law 470 = .ok (.aload_n 2, 1) := by decide +kernel
theorem dL_law_471 : decode cL_law 471 = .ok (.aload_n 0, 1) := by decide +kernel
theorem dL_law_472 : decode cL_law 472 = .ok (.iload_n 3, 1) := by decide +kernel
theorem dL_law_473 : decode cL_law 473 = .ok (.iconst 1, 1) := by decide +kernel
theorem dL_law_474 : decode cL_law 474 = .ok (.iadd, 1) := by decide +kernel
theorem dL_law_475 : decode cL_law 475 = .ok (.iaload, 1) := by decide +kernel
theorem dL_law_476 : decode cL_law 476 = .ok (.invokevirtual 73, 3) := by decide +kernel
theorem dL_law_479 : decode cL_law 479 = .ok (.if_icmp .eq 158, 3) := by decide +kernel
theorem dL_law_482 : decode cL_law 482 = .ok (.iconst 0, 1) := by decide +kernel
theorem dL_law_483 : decode cL_law 483 = .ok (.ireturn, 1) := by decide +kernel
theorem dL_law_484 : decode cL_law 484 = .ok (.aload_n 1, 1) := by decide +kernel
theorem dL_law_485 : decode cL_law 485 = .ok (.aload_n 0, 1) := by decide +kernel
theorem dL_law_486 : decode cL_law 486 = .ok (.iload_n 3, 1) := by decide +kernel
theorem dL_law_487 : decode cL_law 487 = .ok (.iconst 1, 1) := by decide +kernel
theorem dL_law_488 : decode cL_law 488 = .ok (.iadd, 1) := by decide +kernel
theorem dL_law_489 : decode cL_law 489 = .ok (.iaload, 1) := by decide +kernel
theorem dL_law_490 : decode cL_law 490 = .ok (.aload_n 0, 1) := by decide +kernel
theorem dL_law_491 : decode cL_law 491 = .ok (.iload_n 3, 1) := by decide +kernel
theorem dL_law_492 : decode cL_law 492 = .ok (.iconst 2, 1) := by decide +kernel
theorem dL_law_493 : decode cL_law 493 = .ok (.iadd, 1) := by decide +kernel
theorem dL_law_494 : decode cL_law 494 = .ok (.iaload, 1) := by decide +kernel
theorem dL_law_495 : decode cL_law 495 = .ok (.invokevirtual 74, 3) := by decide +kernel
theorem dL_law_498 : decode cL_law 498 = .ok (.aload_n 2, 1) := by decide +kernel
theorem dL_law_499 : decode cL_law 499 = .ok (.aload_n 0, 1) := by decide +kernel
theorem dL_law_500 : decode cL_law 500 = .ok (.iload_n 3, 1) := by decide +kernel
theorem dL_law_501 : decode cL_law 501 = .ok (.iconst 1, 1) := by decide +kernel
theorem dL_law_502 : decode cL_law 502 = .ok (.iadd, 1) := by decide +kernel
theorem dL_law_503 : decode cL_law 503 = .ok (.iaload, 1) := by decide +kernel
theorem dL_law_504 : decode cL_law 504 = .ok (.aload_n 0, 1) := by decide +kernel
theorem dL_law_505 : decode cL_law 505 = .ok (.iload_n 3, 1) := by decide +kernel
theorem dL_law_506 : decode cL_law 506 = .ok (.iconst 2, 1) := by decide +kernel
theorem dL_law_507 : decode cL_law 507 = .ok (.iadd, 1) := by decide +kernel
theorem dL_law_508 : decode cL_law 508 = .ok (.iaload, 1) := by decide +kernel
theorem dL_law_509 : decode cL_law 509 = .ok (.invokevirtual 77, 3) := by decide +kernel
theorem dL_law_512 : decode cL_law 512 = .ok (.if_icmp .eq 125, 3) := by decide +kernel
theorem dL_law_515 : decode cL_law 515 = .ok (.iconst 0, 1) := by decide +kernel
theorem dL_law_516 : decode cL_law 516 = .ok (.ireturn, 1) := by decide +kernel
theorem dL_law_517 : decode cL_law 517 = .ok (.aload_n 1, 1) := by decide +kernel
theorem dL_law_518 : decode cL_law 518 = .ok (.aload_n 0, 1) := by decide +kernel
theorem dL_law_519 : decode cL_law 519 = .ok (.iload_n 3, 1) := by decide +kernel
theorem dL_law_520 : decode cL_law 520 = .ok (.iconst 1, 1) := by decide +kernel
theorem dL_law_521 : decode cL_law 521 = .ok (.iadd, 1) := by decide +kernel
theorem dL_law_522 : decode cL_law 522 = .ok (.iaload, 1) := by decide +kernel
theorem dL_law_523 : decode cL_law 523 = .ok (.aload_n 0, 1) := by decide +kernel
theorem dL_law_524 : decode cL_law 524 = .ok (.iload_n 3, 1) := by decide +kernel
theorem dL_law_525 : decode cL_law 525 = .ok (.iconst 2, 1) := by decide +kernel
theorem dL_law_526 : decode cL_law 526 = .ok (.iadd, 1) := by decide +kernel
theorem dL_law_527 : decode cL_law 527 = .ok (.iaload, 1) := by decide +kernel
theorem dL_law_528 : decode cL_law 528 = .ok (.invokevirtual 78, 3) := by decide +kernel
theorem dL_law_531 : decode cL_law 531 = .ok (.aload_n 2, 1) := by decide +kernel
theorem dL_law_532 : decode cL_law 532 = .ok (.aload_n 0, 1) := by decide +kernel
theorem dL_law_533 : decode cL_law 533 = .ok (.iload_n 3, 1) := by decide +kernel
theorem dL_law_534 : decode cL_law 534 = .ok (.iconst 1, 1) := by decide +kernel
theorem dL_law_535 : decode cL_law 535 = .ok (.iadd, 1) := by decide +kernel
theorem dL_law_536 : decode cL_law 536 = .ok (.iaload, 1) := by decide +kernel
theorem dL_law_537 : decode cL_law 537 = .ok (.aload_n 0, 1) := by decide +kernel
theorem dL_law_538 : decode cL_law 538 = .ok (.iload_n 3, 1) := by decide +kernel
theorem dL_law_539 : decode cL_law 539 = .ok (.iconst 2, 1) := by decide +kernel
theorem dL_law_540 : decode cL_law 540 = .ok (.iadd, 1) := by decide +kernel
theorem dL_law_541 : decode cL_law 541 = .ok (.iaload, 1) := by decide +kernel
theorem dL_law_542 : decode cL_law 542 = .ok (.invokevirtual 81, 3) := by decide +kernel
theorem dL_law_545 : decode cL_law 545 = .ok (.if_icmp .eq 92, 3) := by decide +kernel
theorem dL_law_548 : decode cL_law 548 = .ok (.iconst 0, 1) := by decide +kernel
theorem dL_law_549 : decode cL_law 549 = .ok (.ireturn, 1) := by decide +kernel
theorem dL_law_550 : decode cL_law 550 = .ok (.aload_n 1, 1) := by decide +kernel
theorem dL_law_551 : decode cL_law 551 = .ok (.aload_n 0, 1) := by decide +kernel
theorem dL_law_552 : decode cL_law 552 = .ok (.iload_n 3, 1) := by decide +kernel
theorem dL_law_553 : decode cL_law 553 = .ok (.iconst 1, 1) := by decide +kernel
theorem dL_law_554 : decode cL_law 554 = .ok (.iadd, 1) := by decide +kernel
theorem dL_law_555 : decode cL_law 555 = .ok (.iaload, 1) := by decide +kernel
theorem dL_law_556 : decode cL_law 556 = .ok (.aload_n 0, 1) := by decide +kernel
theorem dL_law_557 : decode cL_law 557 = .ok (.iload_n 3, 1) := by decide +kernel
theorem dL_law_558 : decode cL_law 558 = .ok (.iconst 2, 1) := by decide +kernel
theorem dL_law_559 : decode cL_law 559 = .ok (.iadd, 1) := by decide +kernel
theorem dL_law_560 : decode cL_law 560 = .ok (.iaload, 1) := by decide +kernel
theorem dL_law_561 : decode cL_law 561 = .ok (.aload_n 0, 1) := by decide +kernel
theorem dL_law_562 : decode cL_law 562 = .ok (.iload_n 3, 1) := by decide +kernel
theorem dL_law_563 : decode cL_law 563 = .ok (.iconst 3, 1) := by decide +kernel
theorem dL_law_564 : decode cL_law 564 = .ok (.iadd, 1) := by decide +kernel
theorem dL_law_565 : decode cL_law 565 = .ok (.iaload, 1) := by decide +kernel
theorem dL_law_566 : decode cL_law 566 = .ok (.aload_n 0, 1) := by decide +kernel
theorem dL_law_567 : decode cL_law 567 = .ok (.iload_n 3, 1) := by decide +kernel
theorem dL_law_568 : decode cL_law 568 = .ok (.iconst 4, 1) := by decide +kernel
theorem dL_law_569 : decode cL_law 569 = .ok (.iadd, 1) := by decide +kernel
theorem dL_law_570 : decode cL_law 570 = .ok (.iaload, 1) := by decide +kernel
theorem dL_law_571 : decode cL_law 571 = .ok (.invokevirtual 82, 3) := by decide +kernel
theorem dL_law_574 : decode cL_law 574 = .ok (.aload_n 2, 1) := by decide +kernel
theorem dL_law_575 : decode cL_law 575 = .ok (.aload_n 0, 1) := by decide +kernel
theorem dL_law_576 : decode cL_law 576 = .ok (.iload_n 3, 1) := by decide +kernel
theorem dL_law_577 : decode cL_law 577 = .ok (.iconst 1, 1) := by decide +kernel
theorem dL_law_578 : decode cL_law 578 = .ok (.iadd, 1) := by decide +kernel
theorem dL_law_579 : decode cL_law 579 = .ok (.iaload, 1) := by decide +kernel
theorem dL_law_580 : decode cL_law 580 = .ok (.aload_n 0, 1) := by decide +kernel
theorem dL_law_581 : decode cL_law 581 = .ok (.iload_n 3, 1) := by decide +kernel
theorem dL_law_582 : decode cL_law 582 = .ok (.iconst 2, 1) := by decide +kernel
theorem dL_law_583 : decode cL_law 583 = .ok (.iadd, 1) := by decide +kernel
theorem dL_law_584 : decode cL_law 584 = .ok (.iaload, 1) := by decide +kernel
theorem dL_law_585 : decode cL_law 585 = .ok (.aload_n 0, 1) := by decide +kernel
theorem dL_law_586 : decode cL_law 586 = .ok (.iload_n 3, 1) := by decide +kernel
theorem dL_law_587 : decode cL_law 587 = .ok (.iconst 3, 1) := by decide +kernel
theorem dL_law_588 : decode cL_law 588 = .ok (.iadd, 1) := by decide +kernel
theorem dL_law_589 : decode cL_law 589 = .ok (.iaload, 1) := by decide +kernel
theorem dL_law_590 : decode cL_law 590 = .ok (.aload_n 0, 1) := by decide +kernel
theorem dL_law_591 : decode cL_law 591 = .ok (.iload_n 3, 1) := by decide +kernel
theorem dL_law_592 : decode cL_law 592 = .ok (.iconst 4, 1) := by decide +kernel
theorem dL_law_593 : decode cL_law 593 = .ok (.iadd, 1) := by decide +kernel
theorem dL_law_594 : decode cL_law 594 = .ok (.iaload, 1) := by decide +kernel
theorem dL_law_595 : decode cL_law 595 = .ok (.invokevirtual 86, 3) := by decide +kernel
theorem dL_law_598 : decode cL_law 598 = .ok (.if_icmp .eq 39, 3) := by decide +kernel
theorem dL_law_601 : decode cL_law 601 = .ok (.iconst 0, 1) := by decide +kernel
theorem dL_law_602 : decode cL_law 602 = .ok (.ireturn, 1) := by decide +kernel
theorem dL_law_603 : decode cL_law 603 = .ok (.aload_n 1, 1) := by decide +kernel
theorem dL_law_604 : decode cL_law 604 = .ok (.invokevirtual 87, 3) := by decide +kernel
theorem dL_law_607 : decode cL_law 607 = .ok (.aload_n 2, 1) := by decide +kernel
theorem dL_law_608 : decode cL_law 608 = .ok (.invokevirtual 90, 3) := by decide +kernel
theorem dL_law_611 : decode cL_law 611 = .ok (.if_icmp .eq 26, 3) := by decide +kernel
theorem dL_law_614 : decode cL_law 614 = .ok (.iconst 0, 1) := by decide +kernel
theorem dL_law_615 : decode cL_law 615 = .ok (.ireturn, 1) := by decide +kernel
theorem dL_law_616 : decode cL_law 616 = .ok (.aload_n 1, 1) := by decide +kernel
theorem dL_law_617 : decode cL_law 617 = .ok (.aload_n 0, 1) := by decide +kernel
theorem dL_law_618 : decode cL_law 618 = .ok (.iload_n 3, 1) := by decide +kernel
theorem dL_law_619 : decode cL_law 619 = .ok (.iconst 1, 1) := by decide +kernel
theorem dL_law_620 : decode cL_law 620 = .ok (.iadd, 1) := by decide +kernel
theorem dL_law_621 : decode cL_law 621 = .ok (.iaload, 1) := by decide +kernel
theorem dL_law_622 : decode cL_law 622 = .ok (.invokevirtual 91, 3) := by decide +kernel
theorem dL_law_625 : decode cL_law 625 = .ok (.aload_n 2, 1) := by decide +kernel
theorem dL_law_626 : decode cL_law 626 = .ok (.aload_n 0, 1) := by decide +kernel
theorem dL_law_627 : decode cL_law 627 = .ok (.iload_n 3, 1) := by decide +kernel
theorem dL_law_628 : decode cL_law 628 = .ok (.iconst 1, 1) := by decide +kernel
theorem dL_law_629 : decode cL_law 629 = .ok (.iadd, 1) := by decide +kernel
theorem dL_law_630 : decode cL_law 630 = .ok (.iaload, 1) := by decide +kernel
theorem dL_law_631 : decode cL_law 631 = .ok (.invokevirtual 95, 3) := by decide +kernel
theorem dL_law_634 : decode cL_law 634 = .ok (.goto 3, 3) := by decide +kernel
theorem dL_law_637 : decode cL_law 637 = .ok (.iinc 3 5, 3) := by decide +kernel
theorem dL_law_640 : decode cL_law 640 = .ok (.goto (-572), 3) := by decide +kernel
theorem dL_law_643 : decode cL_law 643 = .ok (.iconst 1, 1) := by decide +kernel
theorem dL_law_644 : decode cL_law 644 = .ok (.ireturn, 1) := by decide +kernel
