theorem dX7_nodes_67 : decode cX7_nodes 67 = .ok (.getfield 11, 3) := by decide +kernel
theorem dX7_nodes_70 : decode cX7_nodes 70 = .ok (.iload_n 1, 1) := by decide +kernel
theorem dX7_nodes_71 : decode cX7_nodes 71 = .ok (.aaload, 1) := by decide +kernel
theorem dX7_nodes_72 : decode cX7_nodes 72 = .ok (.invokestatic 180, 3) := by decide +kernel
theorem dX7_nodes_75 : decode cX7_nodes 75 = .ok (.i2l, 1) := by decide +kernel
theorem dX7_nodes_76 : decode cX7_nodes 76 = .ok (.lreturn, 1) := by decide +kernel
theorem dX7_nodes_77 : decode cX7_nodes 77 = .ok (.aload_n 0, 1) := by decide +kernel
theorem dX7_nodes_78 : decode cX7_nodes 78 = .ok (.getfield 11, 3) := by decide +kernel
theorem dX7_nodes_81 : decode cX7_nodes 81 = .ok (.iload_n 1, 1) := by decide +kernel
theorem dX7_nodes_82 : decode cX7_nodes 82 = .ok (.aaload, 1) := by decide +kernel
theorem dX7_nodes_83 : decode cX7_nodes 83 = .ok (.invokestatic 186, 3) := by decide +kernel
theorem dX7_nodes_86 : decode cX7_nodes 86 = .ok (.invokestatic 189, 3) := by decide +kernel
theorem dX7_nodes_89 : decode cX7_nodes 89 = .ok (.i2l, 1) := by decide +kernel
theorem dX7_nodes_90 : decode cX7_nodes 90 = .ok (.lreturn, 1) := by decide +kernel
theorem dX7_nodes_91 : decode cX7_nodes 91 = .ok (.aload_n 0, 1) := by decide +kernel
theorem dX7_nodes_92 : decode cX7_nodes 92 = .ok (.getfield 11, 3) := by decide +kernel
theorem dX7_nodes_95 : decode cX7_nodes 95 = .ok (.iload_n 1, 1) := by decide +kernel
theorem dX7_nodes_96 : decode cX7_nodes 96 = .ok (.aaload, 1) := by decide +kernel
theorem dX7_nodes_97 : decode cX7_nodes 97 = .ok (.invokestatic 193, 3) := by decide +kernel
theorem dX7_nodes_100 : decode cX7_nodes 100 = .ok (.lreturn, 1) := by decide +kernel
theorem dX7_nodes_101 : decode cX7_nodes 101 = .ok (.ldc2_w 101, 3) := by decide +kernel
theorem dX7_nodes_104 : decode cX7_nodes 104 = .ok (.lreturn, 1) := by decide +kernel
set_option maxRecDepth 20000 in
theorem ggX7_steps_X7_isBook : GoodIn wsX7_steps wsX7_isBook := goodIn_r _ [5] (by decide +kernel) (by decide +kernel)
set_option maxRecDepth 20000 in
theorem gX7_steps_X7_isBook : GoodIn wsX7_steps (va_wsS RX7 63 yX7_isBook wsX7_isBook) := goodIn_app (goodIn_of _ (by decide +kernel)) ggX7_steps_X7_isBook
set_option maxRecDepth 20000 in
theorem ggX7_steps_X4_stepsOf : GoodIn wsX7_steps wsX4_stepsOf := goodIn_r _ [9, 10, 4, 11, 12, 13, 14, 15, 16, 17, 8, 18, 19, 20, 21, 22, 23, 24, 25, 26, 27, 37, 38, 39, 40, 41] (by decide +kernel) (by decide +kernel)
set_option maxRecDepth 20000 in
theorem gX7_steps_X4_stepsOf : GoodIn wsX7_steps (va_wsS RX7 197 yX4_stepsOf wsX4_stepsOf) := goodIn_app (goodIn_of _ (by decide +kernel)) ggX7_steps_X4_stepsOf
theorem dX7_steps_0 : decode cX7_steps 0 = .ok (.iload_n 1, 1) := by decide +kernel
theorem dX7_steps_1 : decode cX7_steps 1 = .ok (.invokestatic 63, 3) := by decide +kernel
theorem dX7_steps_4 : decode cX7_steps 4 = .ok (.ifCond .eq 16, 3) := by decide +kernel
theorem dX7_steps_7 : decode cX7_steps 7 = .ok (.aload_n 0, 1) := by decide +kernel
theorem dX7_steps_8 : decode cX7_steps 8 = .ok (.getfield 11, 3) := by decide +kernel
theorem dX7_steps_11 : decode cX7_steps 11 = .ok (.iload_n 1, 1) := by decide +kernel
theorem dX7_steps_12 : decode cX7_steps 12 = .ok (.aaload, 1) := by decide +kernel
theorem dX7_steps_13 : decode cX7_steps 13 = .ok (.iload_n 2, 1) := by decide +kernel
theorem dX7_steps_14 : decode cX7_steps 14 = .ok (.invokestatic 197, 3) := by decide +kernel
theorem dX7_steps_17 : decode cX7_steps 17 = .ok (.goto 4, 3) := by decide +kernel
theorem dX7_steps_20 : decode cX7_steps 20 = .ok (.iconst (-1), 1) := by decide +kernel
theorem dX7_steps_21 : decode cX7_steps 21 = .ok (.ireturn, 1) := by decide +kernel
set_option maxRecDepth 20000 in
theorem ggX7_becomeLeast_X5_plantWhole : GoodIn wsX7_becomeLeast wsX5_plantWhole := goodIn_r _ [8, 9, 10, 11, 12, 13, 7, 14, 15, 16, 17, 18, 19, 20, 21, 22, 23, 24, 25, 26, 27, 28, 29, 30, 31, 32, 33, 34, 35, 36, 37, 38, 39, 40, 41, 42, 43, 44, 45, 46, 47, 48, 49, 50, 51, 52, 53, 54, 55, 56, 57, 58, 59, 115, 116, 117, 118, 119, 120, 121, 110, 111, 112, 113, 114] (by decide +kernel) (by decide +kernel)
set_option maxRecDepth 20000 in
theorem gX7_becomeLeast_X5_plantWhole : GoodIn wsX7_becomeLeast (wsV RX7 176 RX5 yX5_plantWhole wsX5_plantWhole) := goodIn_app (goodIn_of _ (by decide +kernel)) ggX7_becomeLeast_X5_plantWhole
set_option maxRecDepth 20000 in
theorem ggX7_becomeLeast_X5_writeLeast : GoodIn wsX7_becomeLeast wsX5_writeLeast := goodIn_r _ [63, 64, 65, 66, 25, 67, 27, 68, 69, 70, 7, 71, 9, 15, 16, 21, 19, 20, 72, 73, 74, 75, 76, 77, 78, 79, 80, 81, 82, 28, 29, 83, 84, 85, 86, 34, 35, 36, 37, 87, 41, 42, 43, 44, 17, 45, 46, 47, 88, 89, 90, 91, 110, 111, 112, 113, 114, 115, 116, 117, 118, 119, 120, 121] (by decide +kernel) (by decide +kernel)
set_option maxRecDepth 20000 in
theorem gX7_becomeLeast_X5_writeLeast : GoodIn wsX7_becomeLeast (wsV RX7 201 RX5 yX5_writeLeast wsX5_writeLeast) := goodIn_app (goodIn_of _ (by decide +kernel)) ggX7_becomeLeast_X5_writeLeast
set_option maxRecDepth 20000 in
theorem ggX7_becomeLeast_X2_become : GoodIn wsX7_becomeLeast wsX2_become := goodIn_r _ [95, 27, 82, 96, 57, 58, 59, 28, 29, 83, 97, 98, 99, 25, 100, 110, 111, 112, 113, 114] (by decide +kernel) (by decide +kernel)
set_option maxRecDepth 20000 in
theorem gX7_becomeLeast_X2_become : GoodIn wsX7_becomeLeast (wsV RX7 93 RX2 yX2_become wsX2_become) := goodIn_app (goodIn_of _ (by decide +kernel)) ggX7_becomeLeast_X2_become
theorem dX7_becomeLeast_0 : decode cX7_becomeLeast 0 = .ok (.aload_n 0, 1) := by decide +kernel
theorem dX7_becomeLeast_1 : decode cX7_becomeLeast 1 = .ok (.getfield 28, 3) := by decide +kernel
theorem dX7_becomeLeast_4 : decode cX7_becomeLeast 4 = .ok (.aload_n 1, 1) := by decide +kernel
theorem dX7_becomeLeast_5 : decode cX7_becomeLeast 5 = .ok (.invokevirtual 176, 3) := by decide +kernel
theorem dX7_becomeLeast_8 : decode cX7_becomeLeast 8 = .ok (.aload_n 0, 1) := by decide +kernel
theorem dX7_becomeLeast_9 : decode cX7_becomeLeast 9 = .ok (.getfield 28, 3) := by decide +kernel
theorem dX7_becomeLeast_12 : decode cX7_becomeLeast 12 = .ok (.aload_n 0, 1) := by decide +kernel
theorem dX7_becomeLeast_13 : decode cX7_becomeLeast 13 = .ok (.getfield 22, 3) := by decide +kernel
theorem dX7_becomeLeast_16 : decode cX7_becomeLeast 16 = .ok (.invokevirtual 201, 3) := by decide +kernel
theorem dX7_becomeLeast_19 : decode cX7_becomeLeast 19 = .ok (.aload_n 0, 1) := by decide +kernel
theorem dX7_becomeLeast_20 : decode cX7_becomeLeast 20 = .ok (.getfield 22, 3) := by decide +kernel
theorem dX7_becomeLeast_23 : decode cX7_becomeLeast 23 = .ok (.getfield 97, 3) := by decide +kernel
theorem dX7_becomeLeast_26 : decode cX7_becomeLeast 26 = .ok (.bipush 64, 2) := by decide +kernel
theorem dX7_becomeLeast_28 : decode cX7_becomeLeast 28 = .ok (.if_icmp .le 6, 3) := by decide +kernel
theorem dX7_becomeLeast_31 : decode cX7_becomeLeast 31 = .ok (.bipush (-2), 2) := by decide +kernel
theorem dX7_becomeLeast_33 : decode cX7_becomeLeast 33 = .ok (.ireturn, 1) := by decide +kernel
theorem dX7_becomeLeast_34 : decode cX7_becomeLeast 34 = .ok (.aload_n 2, 1) := by decide +kernel
theorem dX7_becomeLeast_35 : decode cX7_becomeLeast 35 = .ok (.aload_n 0, 1) := by decide +kernel
theorem dX7_becomeLeast_36 : decode cX7_becomeLeast 36 = .ok (.getfield 22, 3) := by decide +kernel
theorem dX7_becomeLeast_39 : decode cX7_becomeLeast 39 = .ok (.invokevirtual 93, 3) := by decide +kernel
theorem dX7_becomeLeast_42 : decode cX7_becomeLeast 42 = .ok (.aload_n 2, 1) := by decide +kernel
theorem dX7_becomeLeast_43 : decode cX7_becomeLeast 43 = .ok (.getfield 97, 3) := by decide +kernel
theorem dX7_becomeLeast_46 : decode cX7_becomeLeast 46 = .ok (.ireturn, 1) := by decide +kernel
set_option maxRecDepth 20000 in
theorem ggX7_measureDifference_X3_measure : GoodIn wsX7_measureDifference wsX3_measure := goodIn_r _ [9, 10, 11, 12, 13, 14, 15, 16, 17, 18, 19, 20, 21, 22, 23, 24, 25, 26, 27, 28, 8, 29, 30, 31, 32, 33, 34, 35, 36, 37, 38, 39, 40, 41, 42, 43, 44, 45, 46, 47, 73, 74, 75, 76, 77, 78, 79, 80, 81, 82, 83] (by decide +kernel) (by decide +kernel)
set_option maxRecDepth 20000 in
theorem gX7_measureDifference_X3_measure : GoodIn wsX7_measureDifference (wsV RX7 132 RX3 yX3_measure wsX3_measure) := goodIn_app (goodIn_of _ (by decide +kernel)) ggX7_measureDifference_X3_measure
set_option maxRecDepth 20000 in
theorem ggX7_measureDifference_X1_measure : GoodIn wsX7_measureDifference wsX1_measure := goodIn_r _ [52, 53, 54, 55, 56, 57, 40, 58, 59, 60, 61, 8, 62, 10, 47, 63, 84, 85, 73, 74, 75, 76, 77, 78] (by decide +kernel) (by decide +kernel)
set_option maxRecDepth 20000 in
theorem gX7_measureDifference_X1_measure : GoodIn wsX7_measureDifference (wsV RX7 204 RX1 yX1_measure wsX1_measure) := goodIn_app (goodIn_of _ (by decide +kernel)) ggX7_measureDifference_X1_measure
theorem dX7_measureDifference_0 : decode cX7_measureDifference 0 = .ok (.aload_n 0, 1) := by decide +kernel
theorem dX7_measureDifference_1 : decode cX7_measureDifference 1 = .ok (.getfield 35, 3) := by decide +kernel
theorem dX7_measureDifference_4 : decode cX7_measureDifference 4 = .ok (.aload_n 0, 1) := by decide +kernel
theorem dX7_measureDifference_5 : decode cX7_measureDifference 5 = .ok (.getfield 11, 3) := by decide +kernel
theorem dX7_measureDifference_8 : decode cX7_measureDifference 8 = .ok (.iload_n 1, 1) := by decide +kernel
theorem dX7_measureDifference_9 : decode cX7_measureDifference 9 = .ok (.aaload, 1) := by decide +kernel
theorem dX7_measureDifference_10 : decode cX7_measureDifference 10 = .ok (.invokevirtual 132, 3) := by decide +kernel
theorem dX7_measureDifference_13 : decode cX7_measureDifference 13 = .ok (.aload_n 0, 1) := by decide +kernel
theorem dX7_measureDifference_14 : decode cX7_measureDifference 14 = .ok (.getfield 39, 3) := by decide +kernel
theorem dX7_measureDifference_17 : decode cX7_measureDifference 17 = .ok (.aload_n 0, 1) := by decide +kernel
theorem dX7_measureDifference_18 : decode cX7_measureDifference 18 = .ok (.getfield 11, 3) := by decide +kernel
theorem dX7_measureDifference_21 : decode cX7_measureDifference 21 = .ok (.iload_n 2, 1) := by decide +kernel
theorem dX7_measureDifference_22 : decode cX7_measureDifference 22 = .ok (.aaload, 1) := by decide +kernel
theorem dX7_measureDifference_23 : decode cX7_measureDifference 23 = .ok (.invokevirtual 132, 3) := by decide +kernel
theorem dX7_measureDifference_26 : decode cX7_measureDifference 26 = .ok (.aload_n 0, 1) := by decide +kernel
theorem dX7_measureDifference_27 : decode cX7_measureDifference 27 = .ok (.getfield 45, 3) := by decide +kernel
theorem dX7_measureDifference_30 : decode cX7_measureDifference 30 = .ok (.aload_n 0, 1) := by decide +kernel
theorem dX7_measureDifference_31 : decode cX7_measureDifference 31 = .ok (.getfield 35, 3) := by decide +kernel
theorem dX7_measureDifference_34 : decode cX7_measureDifference 34 = .ok (.aload_n 0, 1) := by decide +kernel
theorem dX7_measureDifference_35 : decode cX7_measureDifference 35 = .ok (.getfield 39, 3) := by decide +kernel
theorem dX7_measureDifference_38 : decode cX7_measureDifference 38 = .ok (.invokevirtual 204, 3) := by decide +kernel
theorem dX7_measureDifference_41 : decode cX7_measureDifference 41 = .ok (.return_, 1) := by decide +kernel
theorem dX7_isBook_0 : decode cX7_isBook 0 = .ok (.iload_n 0, 1) := by decide +kernel
theorem dX7_isBook_1 : decode cX7_isBook 1 = .ok (.ifCond .lt 13, 3) := by decide +kernel
theorem dX7_isBook_4 : decode cX7_isBook 4 = .ok (.iload_n 0, 1) := by decide +kernel
theorem dX7_isBook_5 : decode cX7_isBook 5 = .ok (.bipush 6, 2) := by decide +kernel
theorem dX7_isBook_7 : decode cX7_isBook 7 = .ok (.if_icmp .ge 7, 3) := by decide +kernel
theorem dX7_isBook_10 : decode cX7_isBook 10 = .ok (.iconst 1, 1) := by decide +kernel
theorem dX7_isBook_11 : decode cX7_isBook 11 = .ok (.goto 4, 3) := by decide +kernel
theorem dX7_isBook_14 : decode cX7_isBook 14 = .ok (.iconst 0, 1) := by decide +kernel
theorem dX7_isBook_15 : decode cX7_isBook 15 = .ok (.ireturn, 1) := by decide +kernel
theorem dX7_isGoal_0 : decode cX7_isGoal 0 = .ok (.iload_n 0, 1) := by decide +kernel
theorem dX7_isGoal_1 : decode cX7_isGoal 1 = .ok (.ifCond .lt 13, 3) := by decide +kernel
theorem dX7_isGoal_4 : decode cX7_isGoal 4 = .ok (.iload_n 0, 1) := by decide +kernel
theorem dX7_isGoal_5 : decode cX7_isGoal 5 = .ok (.bipush 16, 2) := by decide +kernel
theorem dX7_isGoal_7 : decode cX7_isGoal 7 = .ok (.if_icmp .gt 7, 3) := by decide +kernel
theorem dX7_isGoal_10 : decode cX7_isGoal 10 = .ok (.iconst 1, 1) := by decide +kernel
theorem dX7_isGoal_11 : decode cX7_isGoal 11 = .ok (.goto 4, 3) := by decide +kernel
theorem dX7_isGoal_14 : decode cX7_isGoal 14 = .ok (.iconst 0, 1) := by decide +kernel
theorem dX7_isGoal_15 : decode cX7_isGoal 15 = .ok (.ireturn, 1) := by decide +kernel
set_option maxRecDepth 20000 in
theorem ggX7_isBeginning_X7_mask : GoodIn wsX7_isBeginning wsX7_mask := goodIn_r _ [4, 5, 6, 7, 8] (by decide +kernel) (by decide +kernel)
set_option maxRecDepth 20000 in
theorem gX7_isBeginning_X7_mask : GoodIn wsX7_isBeginning (va_wsS RX7 207 yX7_mask wsX7_mask) := goodIn_app (goodIn_of _ (by decide +kernel)) ggX7_isBeginning_X7_mask
theorem dX7_isBeginning_0 : decode cX7_isBeginning 0 = .ok (.iload_n 1, 1) := by decide +kernel
theorem dX7_isBeginning_1 : decode cX7_isBeginning 1 = .ok (.ifCond .lt 24, 3) := by decide +kernel
theorem dX7_isBeginning_4 : decode cX7_isBeginning 4 = .ok (.iload_n 1, 1) := by decide +kernel
theorem dX7_isBeginning_5 : decode cX7_isBeginning 5 = .ok (.bipush 32, 2) := by decide +kernel
theorem dX7_isBeginning_7 : decode cX7_isBeginning 7 = .ok (.if_icmp .gt 18, 3) := by decide +kernel
theorem dX7_isBeginning_10 : decode cX7_isBeginning 10 = .ok (.iload_n 0, 1) := by decide +kernel
theorem dX7_isBeginning_11 : decode cX7_isBeginning 11 = .ok (.iload_n 1, 1) := by decide +kernel
theorem dX7_isBeginning_12 : decode cX7_isBeginning 12 = .ok (.invokestatic 207, 3) := by decide +kernel
theorem dX7_isBeginning_15 : decode cX7_isBeginning 15 = .ok (.iconst (-1), 1) := by decide +kernel
theorem dX7_isBeginning_16 : decode cX7_isBeginning 16 = .ok (.ixor, 1) := by decide +kernel
theorem dX7_isBeginning_17 : decode cX7_isBeginning 17 = .ok (.iand, 1) := by decide +kernel
theorem dX7_isBeginning_18 : decode cX7_isBeginning 18 = .ok (.ifCond .ne 7, 3) := by decide +kernel
theorem dX7_isBeginning_21 : decode cX7_isBeginning 21 = .ok (.iconst 1, 1) := by decide +kernel
theorem dX7_isBeginning_22 : decode cX7_isBeginning 22 = .ok (.goto 4, 3) := by decide +kernel
theorem dX7_isBeginning_25 : decode cX7_isBeginning 25 = .ok (.iconst 0, 1) := by decide +kernel
theorem dX7_isBeginning_26 : decode cX7_isBeginning 26 = .ok (.ireturn, 1) := by decide +kernel
set_option maxRecDepth 20000 in
theorem ggX7_begins_X7_mask : GoodIn wsX7_begins wsX7_mask := goodIn_r _ [4, 5, 6, 7, 8] (by decide +kernel) (by decide +kernel)
set_option maxRecDepth 20000 in
theorem gX7_begins_X7_mask : GoodIn wsX7_begins (va_wsS RX7 207 yX7_mask wsX7_mask) := goodIn_app (goodIn_of _ (by decide +kernel)) ggX7_begins_X7_mask
theorem dX7_begins_0 : decode cX7_begins 0 = .ok (.iload_n 0, 1) := by decide +kernel
theorem dX7_begins_1 : decode cX7_begins 1 = .ok (.iload_n 2, 1) := by decide +kernel
theorem dX7_begins_2 : decode cX7_begins 2 = .ok (.invokestatic 207, 3) := by decide +kernel
theorem dX7_begins_5 : decode cX7_begins 5 = .ok (.iand, 1) := by decide +kernel
theorem dX7_begins_6 : decode cX7_begins 6 = .ok (.iload_n 1, 1) := by decide +kernel
theorem dX7_begins_7 : decode cX7_begins 7 = .ok (.if_icmp .ne 7, 3) := by decide +kernel
theorem dX7_begins_10 : decode cX7_begins 10 = .ok (.iconst 1, 1) := by decide +kernel
theorem dX7_begins_11 : decode cX7_begins 11 = .ok (.goto 4, 3) := by decide +kernel
theorem dX7_begins_14 : decode cX7_begins 14 = .ok (.iconst 0, 1) := by decide +kernel
theorem dX7_begins_15 : decode cX7_begins 15 = .ok (.ireturn, 1) := by decide +kernel
theorem dX7_mask_0 : decode cX7_mask 0 = .ok (.iload_n 0, 1) := by decide +kernel
theorem dX7_mask_1 : decode cX7_mask 1 = .ok (.ifCond .gt 7, 3) := by decide +kernel
theorem dX7_mask_4 : decode cX7_mask 4 = .ok (.iconst 0, 1) := by decide +kernel
theorem dX7_mask_5 : decode cX7_mask 5 = .ok (.goto 14, 3) := by decide +kernel
theorem dX7_mask_8 : decode cX7_mask 8 = .ok (.iconst (-1), 1) := by decide +kernel
theorem dX7_mask_9 : decode cX7_mask 9 = .ok (.bipush 32, 2) := by decide +kernel
theorem dX7_mask_11 : decode cX7_mask 11 = .ok (.iload_n 0, 1) := by decide +kernel
theorem dX7_mask_12 : decode cX7_mask 12 = .ok (.bipush 32, 2) := by decide +kernel
theorem dX7_mask_14 : decode cX7_mask 14 = .ok (.invokestatic 210, 3) := by decide +kernel
theorem dX7_mask_17 : decode cX7_mask 17 = .ok (.isub, 1) := by decide +kernel
theorem dX7_mask_18 : decode cX7_mask 18 = .ok (.ishl, 1) := by decide +kernel
theorem dX7_mask_19 : decode cX7_mask 19 = .ok (.ireturn, 1) := by decide +kernel
theorem dX7_bitAt_0 : decode cX7_bitAt 0 = .ok (.ldc 217, 2) := by decide +kernel
theorem dX7_bitAt_2 : decode cX7_bitAt 2 = .ok (.iload_n 0, 1) := by decide +kernel
theorem dX7_bitAt_3 : decode cX7_bitAt 3 = .ok (.iushr, 1) := by decide +kernel
theorem dX7_bitAt_4 : decode cX7_bitAt 4 = .ok (.ireturn, 1) := by decide +kernel
theorem dX7_wide_0 : decode cX7_wide 0 = .ok (.iload_n 0, 1) := by decide +kernel
theorem dX7_wide_1 : decode cX7_wide 1 = .ok (.i2l, 1) := by decide +kernel
theorem dX7_wide_2 : decode cX7_wide 2 = .ok (.ldc2_w 218, 3) := by decide +kernel
theorem dX7_wide_5 : decode cX7_wide 5 = .ok (.land, 1) := by decide +kernel
theorem dX7_wide_6 : decode cX7_wide 6 = .ok (.lreturn, 1) := by decide +kernel
theorem dX8_init_0 : decode cX8_init 0 = .ok (.aload_n 0, 1) := by decide +kernel
theorem dX8_init_1 : decode cX8_init 1 = .ok (.invokespecial 1, 3) := by decide +kernel
theorem dX8_init_4 : decode cX8_init 4 = .ok (.aload_n 0, 1) := by decide +kernel
theorem dX8_init_5 : decode cX8_init 5 = .ok (.bipush 6, 2) := by decide +kernel
theorem dX8_init_7 : decode cX8_init 7 = .ok (.newarray .int, 2) := by decide +kernel
theorem dX8_init_9 : decode cX8_init 9 = .ok (.putfield 7, 3) := by decide +kernel
theorem dX8_init_12 : decode cX8_init 12 = .ok (.aload_n 0, 1) := by decide +kernel
theorem dX8_init_13 : decode cX8_init 13 = .ok (.sipush 384, 3) := by decide +kernel
theorem dX8_init_16 : decode cX8_init 16 = .ok (.newarray .long, 2) := by decide +kernel
theorem dX8_init_18 : decode cX8_init 18 = .ok (.putfield 13, 3) := by decide +kernel
theorem dX8_init_21 : decode cX8_init 21 = .ok (.aload_n 0, 1) := by decide +kernel
theorem dX8_init_22 : decode cX8_init 22 = .ok (.sipush 384, 3) := by decide +kernel
theorem dX8_init_25 : decode cX8_init 25 = .ok (.newarray .int, 2) := by decide +kernel
theorem dX8_init_27 : decode cX8_init 27 = .ok (.putfield 17, 3) := by decide +kernel
theorem dX8_init_30 : decode cX8_init 30 = .ok (.aload_n 0, 1) := by decide +kernel
theorem dX8_init_31 : decode cX8_init 31 = .ok (.sipush 384, 3) := by decide +kernel
theorem dX8_init_34 : decode cX8_init 34 = .ok (.newarray .int, 2) := by decide +kernel
theorem dX8_init_36 : decode cX8_init 36 = .ok (.putfield 20, 3) := by decide +kernel
theorem dX8_init_39 : decode cX8_init 39 = .ok (.aload_n 0, 1) := by decide +kernel
theorem dX8_init_40 : decode cX8_init 40 = .ok (.sipush 600, 3) := by decide +kernel
theorem dX8_init_43 : decode cX8_init 43 = .ok (.newarray .long, 2) := by decide +kernel
theorem dX8_init_45 : decode cX8_init 45 = .ok (.putfield 23, 3) := by decide +kernel
theorem dX8_init_48 : decode cX8_init 48 = .ok (.aload_n 0, 1) := by decide +kernel
theorem dX8_init_49 : decode cX8_init 49 = .ok (.sipush 600, 3) := by decide +kernel
theorem dX8_init_52 : decode cX8_init 52 = .ok (.newarray .int, 2) := by decide +kernel
theorem dX8_init_54 : decode cX8_init 54 = .ok (.putfield 26, 3) := by decide +kernel
theorem dX8_init_57 : decode cX8_init 57 = .ok (.aload_n 0, 1) := by decide +kernel
theorem dX8_init_58 : decode cX8_init 58 = .ok (.bipush 33, 2) := by decide +kernel
theorem dX8_init_60 : decode cX8_init 60 = .ok (.newarray .int, 2) := by decide +kernel
theorem dX8_init_62 : decode cX8_init 62 = .ok (.putfield 29, 3) := by decide +kernel
theorem dX8_init_65 : decode cX8_init 65 = .ok (.aload_n 0, 1) := by decide +kernel
theorem dX8_init_66 : decode cX8_init 66 = .ok (.sipush 19800, 3) := by decide +kernel
theorem dX8_init_69 : decode cX8_init 69 = .ok (.newarray .long, 2) := by decide +kernel
theorem dX8_init_71 : decode cX8_init 71 = .ok (.putfield 32, 3) := by decide +kernel
theorem dX8_init_74 : decode cX8_init 74 = .ok (.aload_n 0, 1) := by decide +kernel
theorem dX8_init_75 : decode cX8_init 75 = .ok (.sipush 19800, 3) := by decide +kernel
theorem dX8_init_78 : decode cX8_init 78 = .ok (.newarray .int, 2) := by decide +kernel
theorem dX8_init_80 : decode cX8_init 80 = .ok (.putfield 35, 3) := by decide +kernel
theorem dX8_init_83 : decode cX8_init 83 = .ok (.aload_n 0, 1) := by decide +kernel
theorem dX8_init_84 : decode cX8_init 84 = .ok (.sipush 600, 3) := by decide +kernel
theorem dX8_init_87 : decode cX8_init 87 = .ok (.newarray .long, 2) := by decide +kernel
theorem dX8_init_89 : decode cX8_init 89 = .ok (.putfield 38, 3) := by decide +kernel
theorem dX8_init_92 : decode cX8_init 92 = .ok (.aload_n 0, 1) := by decide +kernel
theorem dX8_init_93 : decode cX8_init 93 = .ok (.sipush 600, 3) := by decide +kernel
theorem dX8_init_96 : decode cX8_init 96 = .ok (.newarray .int, 2) := by decide +kernel
theorem dX8_init_98 : decode cX8_init 98 = .ok (.putfield 41, 3) := by decide +kernel
theorem dX8_init_101 : decode cX8_init 101 = .ok (.aload_n 0, 1) := by decide +kernel
theorem dX8_init_102 : decode cX8_init 102 = .ok (.sipush 1200, 3) := by decide +kernel
theorem dX8_init_105 : decode cX8_init 105 = .ok (.newarray .long, 2) := by decide +kernel
theorem dX8_init_107 : decode cX8_init 107 = .ok (.putfield 44, 3) := by decide +kernel
theorem dX8_init_110 : decode cX8_init 110 = .ok (.aload_n 0, 1) := by decide +kernel
theorem dX8_init_111 : decode cX8_init 111 = .ok (.sipush 1200, 3) := by decide +kernel
theorem dX8_init_114 : decode cX8_init 114 = .ok (.newarray .int, 2) := by decide +kernel
theorem dX8_init_116 : decode cX8_init 116 = .ok (.putfield 47, 3) := by decide +kernel
theorem dX8_init_119 : decode cX8_init 119 = .ok (.aload_n 0, 1) := by decide +kernel
theorem dX8_init_120 : decode cX8_init 120 = .ok (.bipush 64, 2) := by decide +kernel
theorem dX8_init_122 : decode cX8_init 122 = .ok (.newarray .long, 2) := by decide +kernel
theorem dX8_init_124 : decode cX8_init 124 = .ok (.putfield 50, 3) := by decide +kernel
theorem dX8_init_127 : decode cX8_init 127 = .ok (.aload_n 0, 1) := by decide +kernel
theorem dX8_init_128 : decode cX8_init 128 = .ok (.bipush 64, 2) := by decide +kernel
theorem dX8_init_130 : decode cX8_init 130 = .ok (.newarray .int, 2) := by decide +kernel
theorem dX8_init_132 : decode cX8_init 132 = .ok (.putfield 53, 3) := by decide +kernel
theorem dX8_init_135 : decode cX8_init 135 = .ok (.aload_n 0, 1) := by decide +kernel
theorem dX8_init_136 : decode cX8_init 136 = .ok (.bipush 64, 2) := by decide +kernel
theorem dX8_init_138 : decode cX8_init 138 = .ok (.newarray .int, 2) := by decide +kernel
theorem dX8_init_140 : decode cX8_init 140 = .ok (.putfield 56, 3) := by decide +kernel
theorem dX8_init_143 : decode cX8_init 143 = .ok (.aload_n 0, 1) := by decide +kernel
theorem dX8_init_144 : decode cX8_init 144 = .ok (.bipush 64, 2) := by decide +kernel
theorem dX8_init_146 : decode cX8_init 146 = .ok (.newarray .long, 2) := by decide +kernel
theorem dX8_init_148 : decode cX8_init 148 = .ok (.putfield 59, 3) := by decide +kernel
theorem dX8_init_151 : decode cX8_init 151 = .ok (.aload_n 0, 1) := by decide +kernel
theorem dX8_init_152 : decode cX8_init 152 = .ok (.bipush 64, 2) := by decide +kernel
theorem dX8_init_154 : decode cX8_init 154 = .ok (.newarray .int, 2) := by decide +kernel
theorem dX8_init_156 : decode cX8_init 156 = .ok (.putfield 62, 3) := by decide +kernel
theorem dX8_init_159 : decode cX8_init 159 = .ok (.aload_n 0, 1) := by decide +kernel
theorem dX8_init_160 : decode cX8_init 160 = .ok (.sipush 128, 3) := by decide +kernel
theorem dX8_init_163 : decode cX8_init 163 = .ok (.newarray .int, 2) := by decide +kernel
theorem dX8_init_165 : decode cX8_init 165 = .ok (.putfield 65, 3) := by decide +kernel
theorem dX8_init_168 : decode cX8_init 168 = .ok (.aload_n 0, 1) := by decide +kernel
theorem dX8_init_169 : decode cX8_init 169 = .ok (.sipush 128, 3) := by decide +kernel
theorem dX8_init_172 : decode cX8_init 172 = .ok (.newarray .long, 2) := by decide +kernel
theorem dX8_init_174 : decode cX8_init 174 = .ok (.putfield 68, 3) := by decide +kernel
theorem dX8_init_177 : decode cX8_init 177 = .ok (.aload_n 0, 1) := by decide +kernel
theorem dX8_init_178 : decode cX8_init 178 = .ok (.sipush 128, 3) := by decide +kernel
theorem dX8_init_181 : decode cX8_init 181 = .ok (.newarray .int, 2) := by decide +kernel
theorem dX8_init_183 : decode cX8_init 183 = .ok (.putfield 71, 3) := by decide +kernel
theorem dX8_init_186 : decode cX8_init 186 = .ok (.aload_n 0, 1) := by decide +kernel
theorem dX8_init_187 : decode cX8_init 187 = .ok (.sipush 128, 3) := by decide +kernel
theorem dX8_init_190 : decode cX8_init 190 = .ok (.newarray .int, 2) := by decide +kernel
theorem dX8_init_192 : decode cX8_init 192 = .ok (.putfield 74, 3) := by decide +kernel
theorem dX8_init_195 : decode cX8_init 195 = .ok (.aload_n 0, 1) := by decide +kernel
theorem dX8_init_196 : decode cX8_init 196 = .ok (.bipush 64, 2) := by decide +kernel
theorem dX8_init_198 : decode cX8_init 198 = .ok (.newarray .long, 2) := by decide +kernel
theorem dX8_init_200 : decode cX8_init 200 = .ok (.putfield 77, 3) := by decide +kernel
theorem dX8_init_203 : decode cX8_init 203 = .ok (.aload_n 0, 1) := by decide +kernel
theorem dX8_init_204 : decode cX8_init 204 = .ok (.bipush 64, 2) := by decide +kernel
theorem dX8_init_206 : decode cX8_init 206 = .ok (.newarray .int, 2) := by decide +kernel
theorem dX8_init_208 : decode cX8_init 208 = .ok (.putfield 80, 3) := by decide +kernel
theorem dX8_init_211 : decode cX8_init 211 = .ok (.aload_n 0, 1) := by decide +kernel
theorem dX8_init_212 : decode cX8_init 212 = .ok (.bipush 64, 2) := by decide +kernel
theorem dX8_init_214 : decode cX8_init 214 = .ok (.newarray .int, 2) := by decide +kernel
theorem dX8_init_216 : decode cX8_init 216 = .ok (.putfield 83, 3) := by decide +kernel
theorem dX8_init_219 : decode cX8_init 219 = .ok (.aload_n 0, 1) := by decide +kernel
theorem dX8_init_220 : decode cX8_init 220 = .ok (.sipush 2200, 3) := by decide +kernel
theorem dX8_init_223 : decode cX8_init 223 = .ok (.newarray .long, 2) := by decide +kernel
theorem dX8_init_225 : decode cX8_init 225 = .ok (.putfield 86, 3) := by decide +kernel
theorem dX8_init_228 : decode cX8_init 228 = .ok (.aload_n 0, 1) := by decide +kernel
theorem dX8_init_229 : decode cX8_init 229 = .ok (.sipush 2200, 3) := by decide +kernel
theorem dX8_init_232 : decode cX8_init 232 = .ok (.newarray .int, 2) := by decide +kernel
theorem dX8_init_234 : decode cX8_init 234 = .ok (.putfield 89, 3) := by decide +kernel
theorem dX8_init_237 : decode cX8_init 237 = .ok (.return_, 1) := by decide +kernel
theorem dX8_lies_0 : decode cX8_lies 0 = .ok (.iload_n 0, 1) := by decide +kernel
theorem dX8_lies_1 : decode cX8_lies 1 = .ok (.iload_n 1, 1) := by decide +kernel
theorem dX8_lies_2 : decode cX8_lies 2 = .ok (.if_icmp .lt 12, 3) := by decide +kernel
theorem dX8_lies_5 : decode cX8_lies 5 = .ok (.iload_n 0, 1) := by decide +kernel
theorem dX8_lies_6 : decode cX8_lies 6 = .ok (.iload_n 2, 1) := by decide +kernel
theorem dX8_lies_7 : decode cX8_lies 7 = .ok (.if_icmp .gt 7, 3) := by decide +kernel
theorem dX8_lies_10 : decode cX8_lies 10 = .ok (.iconst 1, 1) := by decide +kernel
theorem dX8_lies_11 : decode cX8_lies 11 = .ok (.goto 4, 3) := by decide +kernel
theorem dX8_lies_14 : decode cX8_lies 14 = .ok (.iconst 0, 1) := by decide +kernel
theorem dX8_lies_15 : decode cX8_lies 15 = .ok (.ireturn, 1) := by decide +kernel
set_option maxRecDepth 20000 in
theorem ggX8_isBook_X8_lies : GoodIn wsX8_isBook wsX8_lies := goodIn_r _ [4] (by decide +kernel) (by decide +kernel)
set_option maxRecDepth 20000 in
theorem gX8_isBook_X8_lies : GoodIn wsX8_isBook (va_wsS RX8 92 yX8_lies wsX8_lies) := goodIn_app (goodIn_of _ (by decide +kernel)) ggX8_isBook_X8_lies
theorem dX8_isBook_0 : decode cX8_isBook 0 = .ok (.iload_n 0, 1) := by decide +kernel
theorem dX8_isBook_1 : decode cX8_isBook 1 = .ok (.iconst 0, 1) := by decide +kernel
theorem dX8_isBook_2 : decode cX8_isBook 2 = .ok (.iconst 5, 1) := by decide +kernel
theorem dX8_isBook_3 : decode cX8_isBook 3 = .ok (.invokestatic 92, 3) := by decide +kernel
theorem dX8_isBook_6 : decode cX8_isBook 6 = .ok (.ireturn, 1) := by decide +kernel
theorem dX8_number_0 : decode cX8_number 0 = .ok (.iload_n 0, 1) := by decide +kernel
theorem dX8_number_1 : decode cX8_number 1 = .ok (.i2l, 1) := by decide +kernel
theorem dX8_number_2 : decode cX8_number 2 = .ok (.ldc2_w 96, 3) := by decide +kernel
theorem dX8_number_5 : decode cX8_number 5 = .ok (.land, 1) := by decide +kernel
theorem dX8_number_6 : decode cX8_number 6 = .ok (.lreturn, 1) := by decide +kernel
theorem dX8_size_0 : decode cX8_size 0 = .ok (.lconst 1, 1) := by decide +kernel
theorem dX8_size_1 : decode cX8_size 1 = .ok (.bipush 32, 2) := by decide +kernel
theorem dX8_size_3 : decode cX8_size 3 = .ok (.iload_n 0, 1) := by decide +kernel
theorem dX8_size_4 : decode cX8_size 4 = .ok (.isub, 1) := by decide +kernel
theorem dX8_size_5 : decode cX8_size 5 = .ok (.lshl, 1) := by decide +kernel
theorem dX8_size_6 : decode cX8_size 6 = .ok (.lreturn, 1) := by decide +kernel
set_option maxRecDepth 20000 in
theorem ggX8_isBeginning_X8_lies : GoodIn wsX8_isBeginning wsX8_lies := goodIn_r _ [4] (by decide +kernel) (by decide +kernel)
set_option maxRecDepth 20000 in
theorem gX8_isBeginning_X8_lies : GoodIn wsX8_isBeginning (va_wsS RX8 92 yX8_lies wsX8_lies) := goodIn_app (goodIn_of _ (by decide +kernel)) ggX8_isBeginning_X8_lies
set_option maxRecDepth 20000 in
theorem ggX8_isBeginning_X8_number : GoodIn wsX8_isBeginning wsX8_number := goodIn_r _ [7, 8] (by decide +kernel) (by decide +kernel)
set_option maxRecDepth 20000 in
theorem gX8_isBeginning_X8_number : GoodIn wsX8_isBeginning (va_wsS RX8 98 yX8_number wsX8_number) := goodIn_app (goodIn_of _ (by decide +kernel)) ggX8_isBeginning_X8_number
set_option maxRecDepth 20000 in
theorem ggX8_isBeginning_X8_size : GoodIn wsX8_isBeginning wsX8_size := goodIn_r _ [11] (by decide +kernel) (by decide +kernel)
set_option maxRecDepth 20000 in
theorem gX8_isBeginning_X8_size : GoodIn wsX8_isBeginning (va_wsS RX8 102 yX8_size wsX8_size) := goodIn_app (goodIn_of _ (by decide +kernel)) ggX8_isBeginning_X8_size
theorem dX8_isBeginning_0 : decode cX8_isBeginning 0 = .ok (.iload_n 1, 1) := by decide +kernel
theorem dX8_isBeginning_1 : decode cX8_isBeginning 1 = .ok (.iconst 0, 1) := by decide +kernel
theorem dX8_isBeginning_2 : decode cX8_isBeginning 2 = .ok (.bipush 32, 2) := by decide +kernel
theorem dX8_isBeginning_4 : decode cX8_isBeginning 4 = .ok (.invokestatic 92, 3) := by decide +kernel
theorem dX8_isBeginning_7 : decode cX8_isBeginning 7 = .ok (.ifCond .eq 21, 3) := by decide +kernel
theorem dX8_isBeginning_10 : decode cX8_isBeginning 10 = .ok (.iload_n 0, 1) := by decide +kernel
theorem dX8_isBeginning_11 : decode cX8_isBeginning 11 = .ok (.invokestatic 98, 3) := by decide +kernel
theorem dX8_isBeginning_14 : decode cX8_isBeginning 14 = .ok (.iload_n 1, 1) := by decide +kernel
theorem dX8_isBeginning_15 : decode cX8_isBeginning 15 = .ok (.invokestatic 102, 3) := by decide +kernel
theorem dX8_isBeginning_18 : decode cX8_isBeginning 18 = .ok (.lrem, 1) := by decide +kernel
theorem dX8_isBeginning_19 : decode cX8_isBeginning 19 = .ok (.lconst 0, 1) := by decide +kernel
theorem dX8_isBeginning_20 : decode cX8_isBeginning 20 = .ok (.lcmp, 1) := by decide +kernel
theorem dX8_isBeginning_21 : decode cX8_isBeginning 21 = .ok (.ifCond .ne 7, 3) := by decide +kernel
theorem dX8_isBeginning_24 : decode cX8_isBeginning 24 = .ok (.iconst 1, 1) := by decide +kernel
theorem dX8_isBeginning_25 : decode cX8_isBeginning 25 = .ok (.goto 4, 3) := by decide +kernel
theorem dX8_isBeginning_28 : decode cX8_isBeginning 28 = .ok (.iconst 0, 1) := by decide +kernel
theorem dX8_isBeginning_29 : decode cX8_isBeginning 29 = .ok (.ireturn, 1) := by decide +kernel
set_option maxRecDepth 20000 in
theorem ggX8_begins_X8_size : GoodIn wsX8_begins wsX8_size := goodIn_r _ [4] (by decide +kernel) (by decide +kernel)
set_option maxRecDepth 20000 in
theorem gX8_begins_X8_size : GoodIn wsX8_begins (va_wsS RX8 102 yX8_size wsX8_size) := goodIn_app (goodIn_of _ (by decide +kernel)) ggX8_begins_X8_size
theorem dX8_begins_0 : decode cX8_begins 0 = .ok (.lload_n 0, 1) := by decide +kernel
theorem dX8_begins_1 : decode cX8_begins 1 = .ok (.iload 4, 2) := by decide +kernel
theorem dX8_begins_3 : decode cX8_begins 3 = .ok (.invokestatic 102, 3) := by decide +kernel
theorem dX8_begins_6 : decode cX8_begins 6 = .ok (.ldiv, 1) := by decide +kernel
theorem dX8_begins_7 : decode cX8_begins 7 = .ok (.lload_n 2, 1) := by decide +kernel
theorem dX8_begins_8 : decode cX8_begins 8 = .ok (.iload 4, 2) := by decide +kernel
theorem dX8_begins_10 : decode cX8_begins 10 = .ok (.invokestatic 102, 3) := by decide +kernel
theorem dX8_begins_13 : decode cX8_begins 13 = .ok (.ldiv, 1) := by decide +kernel
theorem dX8_begins_14 : decode cX8_begins 14 = .ok (.lcmp, 1) := by decide +kernel
theorem dX8_begins_15 : decode cX8_begins 15 = .ok (.ifCond .ne 7, 3) := by decide +kernel
theorem dX8_begins_18 : decode cX8_begins 18 = .ok (.iconst 1, 1) := by decide +kernel
theorem dX8_begins_19 : decode cX8_begins 19 = .ok (.goto 4, 3) := by decide +kernel
theorem dX8_begins_22 : decode cX8_begins 22 = .ok (.iconst 0, 1) := by decide +kernel
theorem dX8_begins_23 : decode cX8_begins 23 = .ok (.ireturn, 1) := by decide +kernel
theorem dX8_at_0 : decode cX8_at 0 = .ok (.iconst 0, 1) := by decide +kernel
theorem dX8_at_1 : decode cX8_at 1 = .ok (.istore 5, 2) := by decide +kernel
theorem dX8_at_3 : decode cX8_at 3 = .ok (.iload 5, 2) := by decide +kernel
theorem dX8_at_5 : decode cX8_at 5 = .ok (.aload_n 0, 1) := by decide +kernel
theorem dX8_at_6 : decode cX8_at 6 = .ok (.getfield 7, 3) := by decide +kernel
theorem dX8_at_9 : decode cX8_at 9 = .ok (.iload_n 1, 1) := by decide +kernel
theorem dX8_at_10 : decode cX8_at 10 = .ok (.iaload, 1) := by decide +kernel
theorem dX8_at_11 : decode cX8_at 11 = .ok (.if_icmp .ge 46, 3) := by decide +kernel
theorem dX8_at_14 : decode cX8_at 14 = .ok (.aload_n 0, 1) := by decide +kernel
theorem dX8_at_15 : decode cX8_at 15 = .ok (.getfield 13, 3) := by decide +kernel
theorem dX8_at_18 : decode cX8_at 18 = .ok (.bipush 64, 2) := by decide +kernel
theorem dX8_at_20 : decode cX8_at 20 = .ok (.iload_n 1, 1) := by decide +kernel
theorem dX8_at_21 : decode cX8_at 21 = .ok (.imul, 1) := by decide +kernel
theorem dX8_at_22 : decode cX8_at 22 = .ok (.iload 5, 2) := by decide +kernel
theorem dX8_at_24 : decode cX8_at 24 = .ok (.iadd, 1) := by decide +kernel
theorem dX8_at_25 : decode cX8_at 25 = .ok (.laload, 1) := by decide +kernel
theorem dX8_at_26 : decode cX8_at 26 = .ok (.lload_n 2, 1) := by decide +kernel
theorem dX8_at_27 : decode cX8_at 27 = .ok (.lcmp, 1) := by decide +kernel
theorem dX8_at_28 : decode cX8_at 28 = .ok (.ifCond .ne 23, 3) := by decide +kernel
theorem dX8_at_31 : decode cX8_at 31 = .ok (.aload_n 0, 1) := by decide +kernel
theorem dX8_at_32 : decode cX8_at 32 = .ok (.getfield 17, 3) := by decide +kernel
theorem dX8_at_35 : decode cX8_at 35 = .ok (.bipush 64, 2) := by decide +kernel
theorem dX8_at_37 : decode cX8_at 37 = .ok (.iload_n 1, 1) := by decide +kernel
theorem dX8_at_38 : decode cX8_at 38 = .ok (.imul, 1) := by decide +kernel
theorem dX8_at_39 : decode cX8_at 39 = .ok (.iload 5, 2) := by decide +kernel
theorem dX8_at_41 : decode cX8_at 41 = .ok (.iadd, 1) := by decide +kernel
theorem dX8_at_42 : decode cX8_at 42 = .ok (.iaload, 1) := by decide +kernel
theorem dX8_at_43 : decode cX8_at 43 = .ok (.iload 4, 2) := by decide +kernel
theorem dX8_at_45 : decode cX8_at 45 = .ok (.if_icmp .ne 6, 3) := by decide +kernel
theorem dX8_at_48 : decode cX8_at 48 = .ok (.iload 5, 2) := by decide +kernel
theorem dX8_at_50 : decode cX8_at 50 = .ok (.ireturn, 1) := by decide +kernel
theorem dX8_at_51 : decode cX8_at 51 = .ok (.iinc 5 1, 3) := by decide +kernel
theorem dX8_at_54 : decode cX8_at 54 = .ok (.goto (-51), 3) := by decide +kernel
theorem dX8_at_57 : decode cX8_at 57 = .ok (.iconst (-1), 1) := by decide +kernel
theorem dX8_at_58 : decode cX8_at 58 = .ok (.ireturn, 1) := by decide +kernel
theorem dX8_moves_0 : decode cX8_moves 0 = .ok (.aload_n 0, 1) := by decide +kernel
theorem dX8_moves_1 : decode cX8_moves 1 = .ok (.getfield 13, 3) := by decide +kernel
theorem dX8_moves_4 : decode cX8_moves 4 = .ok (.bipush 64, 2) := by decide +kernel
theorem dX8_moves_6 : decode cX8_moves 6 = .ok (.iload_n 1, 1) := by decide +kernel
theorem dX8_moves_7 : decode cX8_moves 7 = .ok (.imul, 1) := by decide +kernel
theorem dX8_moves_8 : decode cX8_moves 8 = .ok (.iload_n 3, 1) := by decide +kernel
theorem dX8_moves_9 : decode cX8_moves 9 = .ok (.iadd, 1) := by decide +kernel
theorem dX8_moves_10 : decode cX8_moves 10 = .ok (.aload_n 0, 1) := by decide +kernel
theorem dX8_moves_11 : decode cX8_moves 11 = .ok (.getfield 13, 3) := by decide +kernel
theorem dX8_moves_14 : decode cX8_moves 14 = .ok (.bipush 64, 2) := by decide +kernel
theorem dX8_moves_16 : decode cX8_moves 16 = .ok (.iload_n 1, 1) := by decide +kernel
theorem dX8_moves_17 : decode cX8_moves 17 = .ok (.imul, 1) := by decide +kernel
theorem dX8_moves_18 : decode cX8_moves 18 = .ok (.iload_n 2, 1) := by decide +kernel
theorem dX8_moves_19 : decode cX8_moves 19 = .ok (.iadd, 1) := by decide +kernel
theorem dX8_moves_20 : decode cX8_moves 20 = .ok (.laload, 1) := by decide +kernel
theorem dX8_moves_21 : decode cX8_moves 21 = .ok (.lastore, 1) := by decide +kernel
theorem dX8_moves_22 : decode cX8_moves 22 = .ok (.aload_n 0, 1) := by decide +kernel
theorem dX8_moves_23 : decode cX8_moves 23 = .ok (.getfield 17, 3) := by decide +kernel
theorem dX8_moves_26 : decode cX8_moves 26 = .ok (.bipush 64, 2) := by decide +kernel
theorem dX8_moves_28 : decode cX8_moves 28 = .ok (.iload_n 1, 1) := by decide +kernel
theorem dX8_moves_29 : decode cX8_moves 29 = .ok (.imul, 1) := by decide +kernel
theorem dX8_moves_30 : decode cX8_moves 30 = .ok (.iload_n 3, 1) := by decide +kernel
theorem dX8_moves_31 : decode cX8_moves 31 = .ok (.iadd, 1) := by decide +kernel
theorem dX8_moves_32 : decode cX8_moves 32 = .ok (.aload_n 0, 1) := by decide +kernel
theorem dX8_moves_33 : decode cX8_moves 33 = .ok (.getfield 17, 3) := by decide +kernel
theorem dX8_moves_36 : decode cX8_moves 36 = .ok (.bipush 64, 2) := by decide +kernel
theorem dX8_moves_38 : decode cX8_moves 38 = .ok (.iload_n 1, 1) := by decide +kernel
theorem dX8_moves_39 : decode cX8_moves 39 = .ok (.imul, 1) := by decide +kernel
theorem dX8_moves_40 : decode cX8_moves 40 = .ok (.iload_n 2, 1) := by decide +kernel
theorem dX8_moves_41 : decode cX8_moves 41 = .ok (.iadd, 1) := by decide +kernel
theorem dX8_moves_42 : decode cX8_moves 42 = .ok (.iaload, 1) := by decide +kernel
theorem dX8_moves_43 : decode cX8_moves 43 = .ok (.iastore, 1) := by decide +kernel
theorem dX8_moves_44 : decode cX8_moves 44 = .ok (.aload_n 0, 1) := by decide +kernel
theorem dX8_moves_45 : decode cX8_moves 45 = .ok (.getfield 20, 3) := by decide +kernel
theorem dX8_moves_48 : decode cX8_moves 48 = .ok (.bipush 64, 2) := by decide +kernel
theorem dX8_moves_50 : decode cX8_moves 50 = .ok (.iload_n 1, 1) := by decide +kernel
theorem dX8_moves_51 : decode cX8_moves 51 = .ok (.imul, 1) := by decide +kernel
theorem dX8_moves_52 : decode cX8_moves 52 = .ok (.iload_n 3, 1) := by decide +kernel
theorem dX8_moves_53 : decode cX8_moves 53 = .ok (.iadd, 1) := by decide +kernel
theorem dX8_moves_54 : decode cX8_moves 54 = .ok (.aload_n 0, 1) := by decide +kernel
theorem dX8_moves_55 : decode cX8_moves 55 = .ok (.getfield 20, 3) := by decide +kernel
theorem dX8_moves_58 : decode cX8_moves 58 = .ok (.bipush 64, 2) := by decide +kernel
theorem dX8_moves_60 : decode cX8_moves 60 = .ok (.iload_n 1, 1) := by decide +kernel
theorem dX8_moves_61 : decode cX8_moves 61 = .ok (.imul, 1) := by decide +kernel
theorem dX8_moves_62 : decode cX8_moves 62 = .ok (.iload_n 2, 1) := by decide +kernel
theorem dX8_moves_63 : decode cX8_moves 63 = .ok (.iadd, 1) := by decide +kernel
theorem dX8_moves_64 : decode cX8_moves 64 = .ok (.iaload, 1) := by decide +kernel
theorem dX8_moves_65 : decode cX8_moves 65 = .ok (.iastore, 1) := by decide +kernel
theorem dX8_moves_66 : decode cX8_moves 66 = .ok (.return_, 1) := by decide +kernel
set_option maxRecDepth 20000 in
theorem ggX8_comes_X8_moves : GoodIn wsX8_comes wsX8_moves := goodIn_r _ [9, 2, 3, 4, 10, 11, 12, 13, 14, 15, 16, 17, 18, 19, 20, 21, 22, 23, 24, 25, 26, 27, 28, 29, 30, 31, 32, 33, 34, 35, 36, 37, 38, 39, 40, 41, 42, 43] (by decide +kernel) (by decide +kernel)
set_option maxRecDepth 20000 in
theorem gX8_comes_X8_moves : GoodIn wsX8_comes (wsV RX8 105 RX8 yX8_moves wsX8_moves) := goodIn_app (goodIn_of _ (by decide +kernel)) ggX8_comes_X8_moves
theorem dX8_comes_0 : decode cX8_comes 0 = .ok (.aload_n 0, 1) := by decide +kernel
theorem dX8_comes_1 : decode cX8_comes 1 = .ok (.getfield 7, 3) := by decide +kernel
theorem dX8_comes_4 : decode cX8_comes 4 = .ok (.iload_n 1, 1) := by decide +kernel
theorem dX8_comes_5 : decode cX8_comes 5 = .ok (.iaload, 1) := by decide +kernel
theorem dX8_comes_6 : decode cX8_comes 6 = .ok (.istore 6, 2) := by decide +kernel
theorem dX8_comes_8 : decode cX8_comes 8 = .ok (.iload 6, 2) := by decide +kernel
theorem dX8_comes_10 : decode cX8_comes 10 = .ok (.ifCond .le 77, 3) := by decide +kernel
theorem dX8_comes_13 : decode cX8_comes 13 = .ok (.aload_n 0, 1) := by decide +kernel
theorem dX8_comes_14 : decode cX8_comes 14 = .ok (.getfield 13, 3) := by decide +kernel
theorem dX8_comes_17 : decode cX8_comes 17 = .ok (.bipush 64, 2) := by decide +kernel
theorem dX8_comes_19 : decode cX8_comes 19 = .ok (.iload_n 1, 1) := by decide +kernel
theorem dX8_comes_20 : decode cX8_comes 20 = .ok (.imul, 1) := by decide +kernel
theorem dX8_comes_21 : decode cX8_comes 21 = .ok (.iload 6, 2) := by decide +kernel
theorem dX8_comes_23 : decode cX8_comes 23 = .ok (.iadd, 1) := by decide +kernel
theorem dX8_comes_24 : decode cX8_comes 24 = .ok (.iconst 1, 1) := by decide +kernel
theorem dX8_comes_25 : decode cX8_comes 25 = .ok (.isub, 1) := by decide +kernel
theorem dX8_comes_26 : decode cX8_comes 26 = .ok (.laload, 1) := by decide +kernel
theorem dX8_comes_27 : decode cX8_comes 27 = .ok (.lload_n 2, 1) := by decide +kernel
theorem dX8_comes_28 : decode cX8_comes 28 = .ok (.lcmp, 1) := by decide +kernel
theorem dX8_comes_29 : decode cX8_comes 29 = .ok (.ifCond .gt 41, 3) := by decide +kernel
theorem dX8_comes_32 : decode cX8_comes 32 = .ok (.aload_n 0, 1) := by decide +kernel
theorem dX8_comes_33 : decode cX8_comes 33 = .ok (.getfield 13, 3) := by decide +kernel
theorem dX8_comes_36 : decode cX8_comes 36 = .ok (.bipush 64, 2) := by decide +kernel
theorem dX8_comes_38 : decode cX8_comes 38 = .ok (.iload_n 1, 1) := by decide +kernel
theorem dX8_comes_39 : decode cX8_comes 39 = .ok (.imul, 1) := by decide +kernel
theorem dX8_comes_40 : decode cX8_comes 40 = .ok (.iload 6, 2) := by decide +kernel
theorem dX8_comes_42 : decode cX8_comes 42 = .ok (.iadd, 1) := by decide +kernel
theorem dX8_comes_43 : decode cX8_comes 43 = .ok (.iconst 1, 1) := by decide +kernel
theorem dX8_comes_44 : decode cX8_comes 44 = .ok (.isub, 1) := by decide +kernel
theorem dX8_comes_45 : decode cX8_comes 45 = .ok (.laload, 1) := by decide +kernel
theorem dX8_comes_46 : decode cX8_comes 46 = .ok (.lload_n 2, 1) := by decide +kernel
theorem dX8_comes_47 : decode cX8_comes 47 = .ok (.lcmp, 1) := by decide +kernel
theorem dX8_comes_48 : decode cX8_comes 48 = .ok (.ifCond .ne 39, 3) := by decide +kernel
theorem dX8_comes_51 : decode cX8_comes 51 = .ok (.aload_n 0, 1) := by decide +kernel
theorem dX8_comes_52 : decode cX8_comes 52 = .ok (.getfield 17, 3) := by decide +kernel
theorem dX8_comes_55 : decode cX8_comes 55 = .ok (.bipush 64, 2) := by decide +kernel
theorem dX8_comes_57 : decode cX8_comes 57 = .ok (.iload_n 1, 1) := by decide +kernel
theorem dX8_comes_58 : decode cX8_comes 58 = .ok (.imul, 1) := by decide +kernel
theorem dX8_comes_59 : decode cX8_comes 59 = .ok (.iload 6, 2) := by decide +kernel
theorem dX8_comes_61 : decode cX8_comes 61 = .ok (.iadd, 1) := by decide +kernel
theorem dX8_comes_62 : decode cX8_comes 62 = .ok (.iconst 1, 1) := by decide +kernel
theorem dX8_comes_63 : decode cX8_comes 63 = .ok (.isub, 1) := by decide +kernel
theorem dX8_comes_64 : decode cX8_comes 64 = .ok (.iaload, 1) := by decide +kernel
theorem dX8_comes_65 : decode cX8_comes 65 = .ok (.iload 4, 2) := by decide +kernel
theorem dX8_comes_67 : decode cX8_comes 67 = .ok (.if_icmp .le 20, 3) := by decide +kernel
theorem dX8_comes_70 : decode cX8_comes 70 = .ok (.aload_n 0, 1) := by decide +kernel
theorem dX8_comes_71 : decode cX8_comes 71 = .ok (.iload_n 1, 1) := by decide +kernel
theorem dX8_comes_72 : decode cX8_comes 72 = .ok (.iload 6, 2) := by decide +kernel
theorem dX8_comes_74 : decode cX8_comes 74 = .ok (.iconst 1, 1) := by decide +kernel
theorem dX8_comes_75 : decode cX8_comes 75 = .ok (.isub, 1) := by decide +kernel
theorem dX8_comes_76 : decode cX8_comes 76 = .ok (.iload 6, 2) := by decide +kernel
theorem dX8_comes_78 : decode cX8_comes 78 = .ok (.invokevirtual 105, 3) := by decide +kernel
theorem dX8_comes_81 : decode cX8_comes 81 = .ok (.iinc 6 (-1), 3) := by decide +kernel
theorem dX8_comes_84 : decode cX8_comes 84 = .ok (.goto (-76), 3) := by decide +kernel
theorem dX8_comes_87 : decode cX8_comes 87 = .ok (.aload_n 0, 1) := by decide +kernel
theorem dX8_comes_88 : decode cX8_comes 88 = .ok (.getfield 13, 3) := by decide +kernel
theorem dX8_comes_91 : decode cX8_comes 91 = .ok (.bipush 64, 2) := by decide +kernel
theorem dX8_comes_93 : decode cX8_comes 93 = .ok (.iload_n 1, 1) := by decide +kernel
theorem dX8_comes_94 : decode cX8_comes 94 = .ok (.imul, 1) := by decide +kernel
theorem dX8_comes_95 : decode cX8_comes 95 = .ok (.iload 6, 2) := by decide +kernel
theorem dX8_comes_97 : decode cX8_comes 97 = .ok (.iadd, 1) := by decide +kernel
theorem dX8_comes_98 : decode cX8_comes 98 = .ok (.lload_n 2, 1) := by decide +kernel
theorem dX8_comes_99 : decode cX8_comes 99 = .ok (.lastore, 1) := by decide +kernel
theorem dX8_comes_100 : decode cX8_comes 100 = .ok (.aload_n 0, 1) := by decide +kernel
theorem dX8_comes_101 : decode cX8_comes 101 = .ok (.getfield 17, 3) := by decide +kernel
theorem dX8_comes_104 : decode cX8_comes 104 = .ok (.bipush 64, 2) := by decide +kernel
theorem dX8_comes_106 : decode cX8_comes 106 = .ok (.iload_n 1, 1) := by decide +kernel
theorem dX8_comes_107 : decode cX8_comes 107 = .ok (.imul, 1) := by decide +kernel
theorem dX8_comes_108 : decode cX8_comes 108 = .ok (.iload 6, 2) := by decide +kernel
theorem dX8_comes_110 : decode cX8_comes 110 = .ok (.iadd, 1) := by decide +kernel
theorem dX8_comes_111 : decode cX8_comes 111 = .ok (.iload 4, 2) := by decide +kernel
theorem dX8_comes_113 : decode cX8_comes 113 = .ok (.iastore, 1) := by decide +kernel
theorem dX8_comes_114 : decode cX8_comes 114 = .ok (.aload_n 0, 1) := by decide +kernel
theorem dX8_comes_115 : decode cX8_comes 115 = .ok (.getfield 20, 3) := by decide +kernel
theorem dX8_comes_118 : decode cX8_comes 118 = .ok (.bipush 64, 2) := by decide +kernel
theorem dX8_comes_120 : decode cX8_comes 120 = .ok (.iload_n 1, 1) := by decide +kernel
theorem dX8_comes_121 : decode cX8_comes 121 = .ok (.imul, 1) := by decide +kernel
theorem dX8_comes_122 : decode cX8_comes 122 = .ok (.iload 6, 2) := by decide +kernel
theorem dX8_comes_124 : decode cX8_comes 124 = .ok (.iadd, 1) := by decide +kernel
theorem dX8_comes_125 : decode cX8_comes 125 = .ok (.iload 5, 2) := by decide +kernel
theorem dX8_comes_127 : decode cX8_comes 127 = .ok (.iastore, 1) := by decide +kernel
theorem dX8_comes_128 : decode cX8_comes 128 = .ok (.aload_n 0, 1) := by decide +kernel
theorem dX8_comes_129 : decode cX8_comes 129 = .ok (.getfield 7, 3) := by decide +kernel
theorem dX8_comes_132 : decode cX8_comes 132 = .ok (.iload_n 1, 1) := by decide +kernel
theorem dX8_comes_133 : decode cX8_comes 133 = .ok (.dup2, 1) := by decide +kernel
theorem dX8_comes_134 : decode cX8_comes 134 = .ok (.iaload, 1) := by decide +kernel
theorem dX8_comes_135 : decode cX8_comes 135 = .ok (.iconst 1, 1) := by decide +kernel
theorem dX8_comes_136 : decode cX8_comes 136 = .ok (.iadd, 1) := by decide +kernel
theorem dX8_comes_137 : decode cX8_comes 137 = .ok (.iastore, 1) := by decide +kernel
theorem dX8_comes_138 : decode cX8_comes 138 = .ok (.return_, 1) := by decide +kernel
set_option maxRecDepth 20000 in
theorem ggX8_put_X8_isBook : GoodIn wsX8_put wsX8_isBook := goodIn_r _ [6, 7, 8, 5, 9] (by decide +kernel) (by decide +kernel)
set_option maxRecDepth 20000 in
theorem gX8_put_X8_isBook : GoodIn wsX8_put (va_wsS RX8 109 yX8_isBook wsX8_isBook) := goodIn_app (goodIn_of _ (by decide +kernel)) ggX8_put_X8_isBook
set_option maxRecDepth 20000 in
theorem ggX8_put_X8_isBeginning : GoodIn wsX8_put wsX8_isBeginning := goodIn_r _ [12, 7, 8, 5, 9, 13, 14, 15, 16, 17, 18, 19] (by decide +kernel) (by decide +kernel)
set_option maxRecDepth 20000 in
theorem gX8_put_X8_isBeginning : GoodIn wsX8_put (va_wsS RX8 113 yX8_isBeginning wsX8_isBeginning) := goodIn_app (goodIn_of _ (by decide +kernel)) ggX8_put_X8_isBeginning
set_option maxRecDepth 20000 in
theorem ggX8_put_X8_lies : GoodIn wsX8_put wsX8_lies := goodIn_r _ [9] (by decide +kernel) (by decide +kernel)
set_option maxRecDepth 20000 in
theorem gX8_put_X8_lies : GoodIn wsX8_put (va_wsS RX8 92 yX8_lies wsX8_lies) := goodIn_app (goodIn_of _ (by decide +kernel)) ggX8_put_X8_lies
set_option maxRecDepth 20000 in
theorem ggX8_put_X8_number : GoodIn wsX8_put wsX8_number := goodIn_r _ [15, 16] (by decide +kernel) (by decide +kernel)
set_option maxRecDepth 20000 in
theorem gX8_put_X8_number : GoodIn wsX8_put (va_wsS RX8 98 yX8_number wsX8_number) := goodIn_app (goodIn_of _ (by decide +kernel)) ggX8_put_X8_number
set_option maxRecDepth 20000 in
theorem ggX8_put_X8_at : GoodIn wsX8_put wsX8_at := goodIn_r _ [23, 2, 24, 25, 34, 35, 36, 37, 38, 39, 40, 41, 42, 43, 44, 45, 46, 47, 48, 49, 50, 51, 52, 53, 54, 55, 56, 57, 58, 59, 60, 61, 62, 63, 64, 65, 66, 67] (by decide +kernel) (by decide +kernel)
set_option maxRecDepth 20000 in
theorem gX8_put_X8_at : GoodIn wsX8_put (wsV RX8 117 RX8 yX8_at wsX8_at) := goodIn_app (goodIn_of _ (by decide +kernel)) ggX8_put_X8_at
set_option maxRecDepth 20000 in
theorem ggX8_put_X8_comes : GoodIn wsX8_put wsX8_comes := goodIn_r _ [29, 2, 24, 25, 1, 30, 31, 32, 5, 33, 34, 35, 36, 37, 38, 39, 40, 41, 42, 43, 44, 45, 46, 47, 48, 49, 50, 51, 52, 53, 54, 55, 56, 57, 58, 59, 60, 61, 62, 63, 64, 65, 66, 67] (by decide +kernel) (by decide +kernel)
set_option maxRecDepth 20000 in
theorem gX8_put_X8_comes : GoodIn wsX8_put (wsV RX8 121 RX8 yX8_comes wsX8_comes) := goodIn_app (goodIn_of _ (by decide +kernel)) ggX8_put_X8_comes
theorem dX8_put_0 : decode cX8_put 0 = .ok (.iload_n 1, 1) := by decide +kernel
theorem dX8_put_1 : decode cX8_put 1 = .ok (.invokestatic 109, 3) := by decide +kernel
theorem dX8_put_4 : decode cX8_put 4 = .ok (.ifCond .eq 22, 3) := by decide +kernel
theorem dX8_put_7 : decode cX8_put 7 = .ok (.iload_n 2, 1) := by decide +kernel
theorem dX8_put_8 : decode cX8_put 8 = .ok (.iload_n 3, 1) := by decide +kernel
theorem dX8_put_9 : decode cX8_put 9 = .ok (.invokestatic 113, 3) := by decide +kernel
theorem dX8_put_12 : decode cX8_put 12 = .ok (.ifCond .eq 14, 3) := by decide +kernel
theorem dX8_put_15 : decode cX8_put 15 = .ok (.iload 4, 2) := by decide +kernel
theorem dX8_put_17 : decode cX8_put 17 = .ok (.iconst 0, 1) := by decide +kernel
theorem dX8_put_18 : decode cX8_put 18 = .ok (.bipush 16, 2) := by decide +kernel
theorem dX8_put_20 : decode cX8_put 20 = .ok (.invokestatic 92, 3) := by decide +kernel
theorem dX8_put_23 : decode cX8_put 23 = .ok (.ifCond .ne 5, 3) := by decide +kernel
theorem dX8_put_26 : decode cX8_put 26 = .ok (.iconst (-1), 1) := by decide +kernel
theorem dX8_put_27 : decode cX8_put 27 = .ok (.ireturn, 1) := by decide +kernel
theorem dX8_put_28 : decode cX8_put 28 = .ok (.aload_n 0, 1) := by decide +kernel
theorem dX8_put_29 : decode cX8_put 29 = .ok (.iload_n 1, 1) := by decide +kernel
theorem dX8_put_30 : decode cX8_put 30 = .ok (.iload_n 2, 1) := by decide +kernel
theorem dX8_put_31 : decode cX8_put 31 = .ok (.invokestatic 98, 3) := by decide +kernel
theorem dX8_put_34 : decode cX8_put 34 = .ok (.iload_n 3, 1) := by decide +kernel
theorem dX8_put_35 : decode cX8_put 35 = .ok (.invokevirtual 117, 3) := by decide +kernel
theorem dX8_put_38 : decode cX8_put 38 = .ok (.istore 5, 2) := by decide +kernel
theorem dX8_put_40 : decode cX8_put 40 = .ok (.iload 5, 2) := by decide +kernel
theorem dX8_put_42 : decode cX8_put 42 = .ok (.iconst (-1), 1) := by decide +kernel
theorem dX8_put_43 : decode cX8_put 43 = .ok (.if_icmp .eq 19, 3) := by decide +kernel
theorem dX8_put_46 : decode cX8_put 46 = .ok (.aload_n 0, 1) := by decide +kernel
theorem dX8_put_47 : decode cX8_put 47 = .ok (.getfield 20, 3) := by decide +kernel
theorem dX8_put_50 : decode cX8_put 50 = .ok (.bipush 64, 2) := by decide +kernel
theorem dX8_put_52 : decode cX8_put 52 = .ok (.iload_n 1, 1) := by decide +kernel
theorem dX8_put_53 : decode cX8_put 53 = .ok (.imul, 1) := by decide +kernel
theorem dX8_put_54 : decode cX8_put 54 = .ok (.iload 5, 2) := by decide +kernel
theorem dX8_put_56 : decode cX8_put 56 = .ok (.iadd, 1) := by decide +kernel
theorem dX8_put_57 : decode cX8_put 57 = .ok (.iload 4, 2) := by decide +kernel
theorem dX8_put_59 : decode cX8_put 59 = .ok (.iastore, 1) := by decide +kernel
theorem dX8_put_60 : decode cX8_put 60 = .ok (.iconst 1, 1) := by decide +kernel
theorem dX8_put_61 : decode cX8_put 61 = .ok (.ireturn, 1) := by decide +kernel
theorem dX8_put_62 : decode cX8_put 62 = .ok (.aload_n 0, 1) := by decide +kernel
theorem dX8_put_63 : decode cX8_put 63 = .ok (.getfield 7, 3) := by decide +kernel
theorem dX8_put_66 : decode cX8_put 66 = .ok (.iload_n 1, 1) := by decide +kernel
theorem dX8_put_67 : decode cX8_put 67 = .ok (.iaload, 1) := by decide +kernel
theorem dX8_put_68 : decode cX8_put 68 = .ok (.bipush 64, 2) := by decide +kernel
theorem dX8_put_70 : decode cX8_put 70 = .ok (.if_icmp .ne 5, 3) := by decide +kernel
theorem dX8_put_73 : decode cX8_put 73 = .ok (.iconst (-1), 1) := by decide +kernel
theorem dX8_put_74 : decode cX8_put 74 = .ok (.ireturn, 1) := by decide +kernel
theorem dX8_put_75 : decode cX8_put 75 = .ok (.aload_n 0, 1) := by decide +kernel
theorem dX8_put_76 : decode cX8_put 76 = .ok (.iload_n 1, 1) := by decide +kernel
theorem dX8_put_77 : decode cX8_put 77 = .ok (.iload_n 2, 1) := by decide +kernel
theorem dX8_put_78 : decode cX8_put 78 = .ok (.invokestatic 98, 3) := by decide +kernel
theorem dX8_put_81 : decode cX8_put 81 = .ok (.iload_n 3, 1) := by decide +kernel
theorem dX8_put_82 : decode cX8_put 82 = .ok (.iload 4, 2) := by decide +kernel
theorem dX8_put_84 : decode cX8_put 84 = .ok (.invokevirtual 121, 3) := by decide +kernel
theorem dX8_put_87 : decode cX8_put 87 = .ok (.iconst 0, 1) := by decide +kernel
theorem dX8_put_88 : decode cX8_put 88 = .ok (.ireturn, 1) := by decide +kernel
set_option maxRecDepth 20000 in
theorem ggX8_drop_X8_isBook : GoodIn wsX8_drop wsX8_isBook := goodIn_r _ [5, 6, 7, 4, 8] (by decide +kernel) (by decide +kernel)
set_option maxRecDepth 20000 in
theorem gX8_drop_X8_isBook : GoodIn wsX8_drop (va_wsS RX8 109 yX8_isBook wsX8_isBook) := goodIn_app (goodIn_of _ (by decide +kernel)) ggX8_drop_X8_isBook
set_option maxRecDepth 20000 in
theorem ggX8_drop_X8_isBeginning : GoodIn wsX8_drop wsX8_isBeginning := goodIn_r _ [11, 6, 7, 4, 8, 12, 13, 14, 15, 16, 17, 18] (by decide +kernel) (by decide +kernel)
set_option maxRecDepth 20000 in
theorem gX8_drop_X8_isBeginning : GoodIn wsX8_drop (va_wsS RX8 113 yX8_isBeginning wsX8_isBeginning) := goodIn_app (goodIn_of _ (by decide +kernel)) ggX8_drop_X8_isBeginning
set_option maxRecDepth 20000 in
theorem ggX8_drop_X8_number : GoodIn wsX8_drop wsX8_number := goodIn_r _ [14, 15] (by decide +kernel) (by decide +kernel)
set_option maxRecDepth 20000 in
theorem gX8_drop_X8_number : GoodIn wsX8_drop (va_wsS RX8 98 yX8_number wsX8_number) := goodIn_app (goodIn_of _ (by decide +kernel)) ggX8_drop_X8_number
set_option maxRecDepth 20000 in
theorem ggX8_drop_X8_at : GoodIn wsX8_drop wsX8_at := goodIn_r _ [22, 1, 23, 24, 30, 31, 32, 33, 34, 35, 36, 37, 38, 39, 40, 41, 42, 43, 44, 45, 46, 47, 48, 49, 50, 51, 52, 53, 54, 55, 56, 57, 58, 59, 60, 61, 62, 63] (by decide +kernel) (by decide +kernel)
set_option maxRecDepth 20000 in
theorem gX8_drop_X8_at : GoodIn wsX8_drop (wsV RX8 117 RX8 yX8_at wsX8_at) := goodIn_app (goodIn_of _ (by decide +kernel)) ggX8_drop_X8_at
set_option maxRecDepth 20000 in
theorem ggX8_drop_X8_moves : GoodIn wsX8_drop wsX8_moves := goodIn_r _ [28, 23, 24, 29, 30, 31, 32, 33, 34, 35, 36, 37, 38, 39, 40, 41, 42, 43, 44, 45, 46, 47, 48, 49, 50, 51, 52, 53, 54, 55, 56, 57, 58, 59, 60, 61, 62, 63] (by decide +kernel) (by decide +kernel)
set_option maxRecDepth 20000 in
theorem gX8_drop_X8_moves : GoodIn wsX8_drop (wsV RX8 105 RX8 yX8_moves wsX8_moves) := goodIn_app (goodIn_of _ (by decide +kernel)) ggX8_drop_X8_moves
theorem dX8_drop_0 : decode cX8_drop 0 = .ok (.iload_n 1, 1) := by decide +kernel
theorem dX8_drop_1 : decode cX8_drop 1 = .ok (.invokestatic 109, 3) := by decide +kernel
theorem dX8_drop_4 : decode cX8_drop 4 = .ok (.ifCond .eq 24, 3) := by decide +kernel
theorem dX8_drop_7 : decode cX8_drop 7 = .ok (.iload_n 2, 1) := by decide +kernel
theorem dX8_drop_8 : decode cX8_drop 8 = .ok (.iload_n 3, 1) := by decide +kernel
theorem dX8_drop_9 : decode cX8_drop 9 = .ok (.invokestatic 113, 3) := by decide +kernel
theorem dX8_drop_12 : decode cX8_drop 12 = .ok (.ifCond .eq 16, 3) := by decide +kernel
theorem dX8_drop_15 : decode cX8_drop 15 = .ok (.aload_n 0, 1) := by decide +kernel
theorem dX8_drop_16 : decode cX8_drop 16 = .ok (.iload_n 1, 1) := by decide +kernel
theorem dX8_drop_17 : decode cX8_drop 17 = .ok (.iload_n 2, 1) := by decide +kernel
theorem dX8_drop_18 : decode cX8_drop 18 = .ok (.invokestatic 98, 3) := by decide +kernel
theorem dX8_drop_21 : decode cX8_drop 21 = .ok (.iload_n 3, 1) := by decide +kernel
theorem dX8_drop_22 : decode cX8_drop 22 = .ok (.invokevirtual 117, 3) := by decide +kernel
theorem dX8_drop_25 : decode cX8_drop 25 = .ok (.goto 4, 3) := by decide +kernel
theorem dX8_drop_28 : decode cX8_drop 28 = .ok (.iconst (-1), 1) := by decide +kernel
theorem dX8_drop_29 : decode cX8_drop 29 = .ok (.istore 4, 2) := by decide +kernel
theorem dX8_drop_31 : decode cX8_drop 31 = .ok (.iload 4, 2) := by decide +kernel
theorem dX8_drop_33 : decode cX8_drop 33 = .ok (.iconst (-1), 1) := by decide +kernel
theorem dX8_drop_34 : decode cX8_drop 34 = .ok (.if_icmp .ne 5, 3) := by decide +kernel
theorem dX8_drop_37 : decode cX8_drop 37 = .ok (.iconst 0, 1) := by decide +kernel
theorem dX8_drop_38 : decode cX8_drop 38 = .ok (.ireturn, 1) := by decide +kernel
theorem dX8_drop_39 : decode cX8_drop 39 = .ok (.aload_n 0, 1) := by decide +kernel
theorem dX8_drop_40 : decode cX8_drop 40 = .ok (.getfield 7, 3) := by decide +kernel
theorem dX8_drop_43 : decode cX8_drop 43 = .ok (.iload_n 1, 1) := by decide +kernel
theorem dX8_drop_44 : decode cX8_drop 44 = .ok (.dup2, 1) := by decide +kernel
theorem dX8_drop_45 : decode cX8_drop 45 = .ok (.iaload, 1) := by decide +kernel
theorem dX8_drop_46 : decode cX8_drop 46 = .ok (.iconst 1, 1) := by decide +kernel
theorem dX8_drop_47 : decode cX8_drop 47 = .ok (.isub, 1) := by decide +kernel
theorem dX8_drop_48 : decode cX8_drop 48 = .ok (.iastore, 1) := by decide +kernel
theorem dX8_drop_49 : decode cX8_drop 49 = .ok (.iload 4, 2) := by decide +kernel
theorem dX8_drop_51 : decode cX8_drop 51 = .ok (.istore 5, 2) := by decide +kernel
theorem dX8_drop_53 : decode cX8_drop 53 = .ok (.iload 5, 2) := by decide +kernel
theorem dX8_drop_55 : decode cX8_drop 55 = .ok (.aload_n 0, 1) := by decide +kernel
theorem dX8_drop_56 : decode cX8_drop 56 = .ok (.getfield 7, 3) := by decide +kernel
theorem dX8_drop_59 : decode cX8_drop 59 = .ok (.iload_n 1, 1) := by decide +kernel
theorem dX8_drop_60 : decode cX8_drop 60 = .ok (.iaload, 1) := by decide +kernel
theorem dX8_drop_61 : decode cX8_drop 61 = .ok (.if_icmp .ge 20, 3) := by decide +kernel
theorem dX8_drop_64 : decode cX8_drop 64 = .ok (.aload_n 0, 1) := by decide +kernel
theorem dX8_drop_65 : decode cX8_drop 65 = .ok (.iload_n 1, 1) := by decide +kernel
theorem dX8_drop_66 : decode cX8_drop 66 = .ok (.iload 5, 2) := by decide +kernel
theorem dX8_drop_68 : decode cX8_drop 68 = .ok (.iconst 1, 1) := by decide +kernel
theorem dX8_drop_69 : decode cX8_drop 69 = .ok (.iadd, 1) := by decide +kernel
theorem dX8_drop_70 : decode cX8_drop 70 = .ok (.iload 5, 2) := by decide +kernel
theorem dX8_drop_72 : decode cX8_drop 72 = .ok (.invokevirtual 105, 3) := by decide +kernel
theorem dX8_drop_75 : decode cX8_drop 75 = .ok (.iinc 5 1, 3) := by decide +kernel
theorem dX8_drop_78 : decode cX8_drop 78 = .ok (.goto (-25), 3) := by decide +kernel
theorem dX8_drop_81 : decode cX8_drop 81 = .ok (.iconst 1, 1) := by decide +kernel
theorem dX8_drop_82 : decode cX8_drop 82 = .ok (.ireturn, 1) := by decide +kernel
set_option maxRecDepth 20000 in
theorem ggX8_copy_X8_isBook : GoodIn wsX8_copy wsX8_isBook := goodIn_r _ [8, 9, 10, 7, 11] (by decide +kernel) (by decide +kernel)
set_option maxRecDepth 20000 in
theorem gX8_copy_X8_isBook : GoodIn wsX8_copy (va_wsS RX8 109 yX8_isBook wsX8_isBook) := goodIn_app (goodIn_of _ (by decide +kernel)) ggX8_copy_X8_isBook
theorem dX8_copy_0 : decode cX8_copy 0 = .ok (.iload_n 1, 1) := by decide +kernel
theorem dX8_copy_1 : decode cX8_copy 1 = .ok (.invokestatic 109, 3) := by decide +kernel
theorem dX8_copy_4 : decode cX8_copy 4 = .ok (.ifCond .eq 10, 3) := by decide +kernel
theorem dX8_copy_7 : decode cX8_copy 7 = .ok (.iload_n 2, 1) := by decide +kernel
theorem dX8_copy_8 : decode cX8_copy 8 = .ok (.invokestatic 109, 3) := by decide +kernel
theorem dX8_copy_11 : decode cX8_copy 11 = .ok (.ifCond .ne 5, 3) := by decide +kernel
theorem dX8_copy_14 : decode cX8_copy 14 = .ok (.iconst (-1), 1) := by decide +kernel
theorem dX8_copy_15 : decode cX8_copy 15 = .ok (.ireturn, 1) := by decide +kernel
theorem dX8_copy_16 : decode cX8_copy 16 = .ok (.aload_n 0, 1) := by decide +kernel
theorem dX8_copy_17 : decode cX8_copy 17 = .ok (.getfield 7, 3) := by decide +kernel
theorem dX8_copy_20 : decode cX8_copy 20 = .ok (.iload_n 2, 1) := by decide +kernel
theorem dX8_copy_21 : decode cX8_copy 21 = .ok (.aload_n 0, 1) := by decide +kernel
theorem dX8_copy_22 : decode cX8_copy 22 = .ok (.getfield 7, 3) := by decide +kernel
theorem dX8_copy_25 : decode cX8_copy 25 = .ok (.iload_n 1, 1) := by decide +kernel
theorem dX8_copy_26 : decode cX8_copy 26 = .ok (.iaload, 1) := by decide +kernel
theorem dX8_copy_27 : decode cX8_copy 27 = .ok (.iastore, 1) := by decide +kernel
theorem dX8_copy_28 : decode cX8_copy 28 = .ok (.iconst 0, 1) := by decide +kernel
theorem dX8_copy_29 : decode cX8_copy 29 = .ok (.istore_n 3, 1) := by decide +kernel
theorem dX8_copy_30 : decode cX8_copy 30 = .ok (.iload_n 3, 1) := by decide +kernel
theorem dX8_copy_31 : decode cX8_copy 31 = .ok (.aload_n 0, 1) := by decide +kernel
theorem dX8_copy_32 : decode cX8_copy 32 = .ok (.getfield 7, 3) := by decide +kernel
theorem dX8_copy_35 : decode cX8_copy 35 = .ok (.iload_n 1, 1) := by decide +kernel
theorem dX8_copy_36 : decode cX8_copy 36 = .ok (.iaload, 1) := by decide +kernel
theorem dX8_copy_37 : decode cX8_copy 37 = .ok (.if_icmp .ge 75, 3) := by decide +kernel
theorem dX8_copy_40 : decode cX8_copy 40 = .ok (.aload_n 0, 1) := by decide +kernel
theorem dX8_copy_41 : decode cX8_copy 41 = .ok (.getfield 13, 3) := by decide +kernel
theorem dX8_copy_44 : decode cX8_copy 44 = .ok (.bipush 64, 2) := by decide +kernel
theorem dX8_copy_46 : decode cX8_copy 46 = .ok (.iload_n 2, 1) := by decide +kernel
theorem dX8_copy_47 : decode cX8_copy 47 = .ok (.imul, 1) := by decide +kernel
theorem dX8_copy_48 : decode cX8_copy 48 = .ok (.iload_n 3, 1) := by decide +kernel
theorem dX8_copy_49 : decode cX8_copy 49 = .ok (.iadd, 1) := by decide +kernel
theorem dX8_copy_50 : decode cX8_copy 50 = .ok (.aload_n 0, 1) := by decide +kernel
theorem dX8_copy_51 : decode cX8_copy 51 = .ok (.getfield 13, 3) := by decide +kernel
theorem dX8_copy_54 : decode cX8_copy 54 = .ok (.bipush 64, 2) := by decide +kernel
theorem dX8_copy_56 : decode cX8_copy 56 = .ok (.iload_n 1, 1) := by decide +kernel
theorem dX8_copy_57 : decode cX8_copy 57 = .ok (.imul, 1) := by decide +kernel
theorem dX8_copy_58 : decode cX8_copy 58 = .ok (.iload_n 3, 1) := by decide +kernel
theorem dX8_copy_59 : decode cX8_copy 59 = .ok (.iadd, 1) := by decide +kernel
theorem dX8_copy_60 : decode cX8_copy 60 = .ok (.laload, 1) := by decide +kernel
theorem dX8_copy_61 : decode cX8_copy 61 = .ok (.lastore, 1) := by decide +kernel
theorem dX8_copy_62 : decode cX8_copy 62 = .ok (.aload_n 0, 1) := by decide +kernel
theorem dX8_copy_63 : decode cX8_copy 63 = .ok (.getfield 17, 3) := by decide +kernel
theorem dX8_copy_66 : decode cX8_copy 66 = .ok (.bipush 64, 2) := by decide +kernel
theorem dX8_copy_68 : decode cX8_copy 68 = .ok (.iload_n 2, 1) := by decide +kernel
theorem dX8_copy_69 : decode cX8_copy 69 = .ok (.imul, 1) := by decide +kernel
theorem dX8_copy_70 : decode cX8_copy 70 = .ok (.iload_n 3, 1) := by decide +kernel
theorem dX8_copy_71 : decode cX8_copy 71 = .ok (.iadd, 1) := by decide +kernel
theorem dX8_copy_72 : decode cX8_copy 72 = .ok (.aload_n 0, 1) := by decide +kernel
theorem dX8_copy_73 : decode cX8_copy 73 = .ok (.getfield 17, 3) := by decide +kernel
theorem dX8_copy_76 : decode cX8_copy 76 = .ok (.bipush 64, 2) := by decide +kernel
theorem dX8_copy_78 : decode cX8_copy 78 = .ok (.iload_n 1, 1) := by decide +kernel
theorem dX8_copy_79 : decode cX8_copy 79 = .ok (.imul, 1) := by decide +kernel
theorem dX8_copy_80 : decode cX8_copy 80 = .ok (.iload_n 3, 1) := by decide +kernel
theorem dX8_copy_81 : decode cX8_copy 81 = .ok (.iadd, 1) := by decide +kernel
theorem dX8_copy_82 : decode cX8_copy 82 = .ok (.iaload, 1) := by decide +kernel
theorem dX8_copy_83 : decode cX8_copy 83 = .ok (.iastore, 1) := by decide +kernel
theorem dX8_copy_84 : decode cX8_copy 84 = .ok (.aload_n 0, 1) := by decide +kernel
theorem dX8_copy_85 : decode cX8_copy 85 = .ok (.getfield 20, 3) := by decide +kernel
theorem dX8_copy_88 : decode cX8_copy 88 = .ok (.bipush 64, 2) := by decide +kernel
theorem dX8_copy_90 : decode cX8_copy 90 = .ok (.iload_n 2, 1) := by decide +kernel
theorem dX8_copy_91 : decode cX8_copy 91 = .ok (.imul, 1) := by decide +kernel
theorem dX8_copy_92 : decode cX8_copy 92 = .ok (.iload_n 3, 1) := by decide +kernel
theorem dX8_copy_93 : decode cX8_copy 93 = .ok (.iadd, 1) := by decide +kernel
theorem dX8_copy_94 : decode cX8_copy 94 = .ok (.aload_n 0, 1) := by decide +kernel
theorem dX8_copy_95 : decode cX8_copy 95 = .ok (.getfield 20, 3) := by decide +kernel
theorem dX8_copy_98 : decode cX8_copy 98 = .ok (.bipush 64, 2) := by decide +kernel
theorem dX8_copy_100 : decode cX8_copy 100 = .ok (.iload_n 1, 1) := by decide +kernel
theorem dX8_copy_101 : decode cX8_copy 101 = .ok (.imul, 1) := by decide +kernel
theorem dX8_copy_102 : decode cX8_copy 102 = .ok (.iload_n 3, 1) := by decide +kernel
theorem dX8_copy_103 : decode cX8_copy 103 = .ok (.iadd, 1) := by decide +kernel
theorem dX8_copy_104 : decode cX8_copy 104 = .ok (.iaload, 1) := by decide +kernel
theorem dX8_copy_105 : decode cX8_copy 105 = .ok (.iastore, 1) := by decide +kernel
theorem dX8_copy_106 : decode cX8_copy 106 = .ok (.iinc 3 1, 3) := by decide +kernel
theorem dX8_copy_109 : decode cX8_copy 109 = .ok (.goto (-79), 3) := by decide +kernel
theorem dX8_copy_112 : decode cX8_copy 112 = .ok (.aload_n 0, 1) := by decide +kernel
theorem dX8_copy_113 : decode cX8_copy 113 = .ok (.getfield 7, 3) := by decide +kernel
theorem dX8_copy_116 : decode cX8_copy 116 = .ok (.iload_n 2, 1) := by decide +kernel
theorem dX8_copy_117 : decode cX8_copy 117 = .ok (.iaload, 1) := by decide +kernel
theorem dX8_copy_118 : decode cX8_copy 118 = .ok (.ireturn, 1) := by decide +kernel
set_option maxRecDepth 20000 in
theorem ggX8_count_X8_isBook : GoodIn wsX8_count wsX8_isBook := goodIn_r _ [5, 6, 7, 4, 8] (by decide +kernel) (by decide +kernel)
set_option maxRecDepth 20000 in
theorem gX8_count_X8_isBook : GoodIn wsX8_count (va_wsS RX8 109 yX8_isBook wsX8_isBook) := goodIn_app (goodIn_of _ (by decide +kernel)) ggX8_count_X8_isBook
theorem dX8_count_0 : decode cX8_count 0 = .ok (.iload_n 1, 1) := by decide +kernel
theorem dX8_count_1 : decode cX8_count 1 = .ok (.invokestatic 109, 3) := by decide +kernel
theorem dX8_count_4 : decode cX8_count 4 = .ok (.ifCond .eq 12, 3) := by decide +kernel
theorem dX8_count_7 : decode cX8_count 7 = .ok (.aload_n 0, 1) := by decide +kernel
theorem dX8_count_8 : decode cX8_count 8 = .ok (.getfield 7, 3) := by decide +kernel
theorem dX8_count_11 : decode cX8_count 11 = .ok (.iload_n 1, 1) := by decide +kernel
theorem dX8_count_12 : decode cX8_count 12 = .ok (.iaload, 1) := by decide +kernel
theorem dX8_count_13 : decode cX8_count 13 = .ok (.goto 4, 3) := by decide +kernel
theorem dX8_count_16 : decode cX8_count 16 = .ok (.iconst (-1), 1) := by decide +kernel
theorem dX8_count_17 : decode cX8_count 17 = .ok (.ireturn, 1) := by decide +kernel
set_option maxRecDepth 20000 in
theorem ggX8_line_X8_isBook : GoodIn wsX8_line wsX8_isBook := goodIn_r _ [9, 10, 11, 8, 12] (by decide +kernel) (by decide +kernel)
set_option maxRecDepth 20000 in
theorem gX8_line_X8_isBook : GoodIn wsX8_line (va_wsS RX8 109 yX8_isBook wsX8_isBook) := goodIn_app (goodIn_of _ (by decide +kernel)) ggX8_line_X8_isBook
set_option maxRecDepth 20000 in
theorem ggX8_line_X8_lies : GoodIn wsX8_line wsX8_lies := goodIn_r _ [12] (by decide +kernel) (by decide +kernel)
set_option maxRecDepth 20000 in
theorem gX8_line_X8_lies : GoodIn wsX8_line (va_wsS RX8 92 yX8_lies wsX8_lies) := goodIn_app (goodIn_of _ (by decide +kernel)) ggX8_line_X8_lies
theorem dX8_line_0 : decode cX8_line 0 = .ok (.iload_n 1, 1) := by decide +kernel
theorem dX8_line_1 : decode cX8_line 1 = .ok (.invokestatic 109, 3) := by decide +kernel
theorem dX8_line_4 : decode cX8_line 4 = .ok (.ifCond .eq 19, 3) := by decide +kernel
theorem dX8_line_7 : decode cX8_line 7 = .ok (.iload_n 2, 1) := by decide +kernel
theorem dX8_line_8 : decode cX8_line 8 = .ok (.iconst 0, 1) := by decide +kernel
theorem dX8_line_9 : decode cX8_line 9 = .ok (.aload_n 0, 1) := by decide +kernel
theorem dX8_line_10 : decode cX8_line 10 = .ok (.getfield 7, 3) := by decide +kernel
theorem dX8_line_13 : decode cX8_line 13 = .ok (.iload_n 1, 1) := by decide +kernel
theorem dX8_line_14 : decode cX8_line 14 = .ok (.iaload, 1) := by decide +kernel
theorem dX8_line_15 : decode cX8_line 15 = .ok (.iconst 1, 1) := by decide +kernel
theorem dX8_line_16 : decode cX8_line 16 = .ok (.isub, 1) := by decide +kernel
theorem dX8_line_17 : decode cX8_line 17 = .ok (.invokestatic 92, 3) := by decide +kernel
theorem dX8_line_20 : decode cX8_line 20 = .ok (.ifCond .ne 7, 3) := by decide +kernel
theorem dX8_line_23 : decode cX8_line 23 = .ok (.ldc2_w 124, 3) := by decide +kernel
theorem dX8_line_26 : decode cX8_line 26 = .ok (.lreturn, 1) := by decide +kernel
theorem dX8_line_27 : decode cX8_line 27 = .ok (.bipush 64, 2) := by decide +kernel
theorem dX8_line_29 : decode cX8_line 29 = .ok (.iload_n 1, 1) := by decide +kernel
theorem dX8_line_30 : decode cX8_line 30 = .ok (.imul, 1) := by decide +kernel
theorem dX8_line_31 : decode cX8_line 31 = .ok (.iload_n 2, 1) := by decide +kernel
theorem dX8_line_32 : decode cX8_line 32 = .ok (.iadd, 1) := by decide +kernel
theorem dX8_line_33 : decode cX8_line 33 = .ok (.istore 4, 2) := by decide +kernel
theorem dX8_line_35 : decode cX8_line 35 = .ok (.iload_n 3, 1) := by decide +kernel
theorem dX8_line_36 : decode cX8_line 36 = .ok (.ifCond .ne 13, 3) := by decide +kernel
theorem dX8_line_39 : decode cX8_line 39 = .ok (.aload_n 0, 1) := by decide +kernel
theorem dX8_line_40 : decode cX8_line 40 = .ok (.getfield 13, 3) := by decide +kernel
theorem dX8_line_43 : decode cX8_line 43 = .ok (.iload 4, 2) := by decide +kernel
theorem dX8_line_45 : decode cX8_line 45 = .ok (.laload, 1) := by decide +kernel
theorem dX8_line_46 : decode cX8_line 46 = .ok (.goto 38, 3) := by decide +kernel
theorem dX8_line_49 : decode cX8_line 49 = .ok (.iload_n 3, 1) := by decide +kernel
theorem dX8_line_50 : decode cX8_line 50 = .ok (.iconst 1, 1) := by decide +kernel
theorem dX8_line_51 : decode cX8_line 51 = .ok (.if_icmp .ne 14, 3) := by decide +kernel
theorem dX8_line_54 : decode cX8_line 54 = .ok (.aload_n 0, 1) := by decide +kernel
theorem dX8_line_55 : decode cX8_line 55 = .ok (.getfield 17, 3) := by decide +kernel
theorem dX8_line_58 : decode cX8_line 58 = .ok (.iload 4, 2) := by decide +kernel
theorem dX8_line_60 : decode cX8_line 60 = .ok (.iaload, 1) := by decide +kernel
theorem dX8_line_61 : decode cX8_line 61 = .ok (.i2l, 1) := by decide +kernel
theorem dX8_line_62 : decode cX8_line 62 = .ok (.goto 22, 3) := by decide +kernel
theorem dX8_line_65 : decode cX8_line 65 = .ok (.iload_n 3, 1) := by decide +kernel
theorem dX8_line_66 : decode cX8_line 66 = .ok (.iconst 2, 1) := by decide +kernel
theorem dX8_line_67 : decode cX8_line 67 = .ok (.if_icmp .ne 14, 3) := by decide +kernel
theorem dX8_line_70 : decode cX8_line 70 = .ok (.aload_n 0, 1) := by decide +kernel
theorem dX8_line_71 : decode cX8_line 71 = .ok (.getfield 20, 3) := by decide +kernel
theorem dX8_line_74 : decode cX8_line 74 = .ok (.iload 4, 2) := by decide +kernel
theorem dX8_line_76 : decode cX8_line 76 = .ok (.iaload, 1) := by decide +kernel
theorem dX8_line_77 : decode cX8_line 77 = .ok (.i2l, 1) := by decide +kernel
theorem dX8_line_78 : decode cX8_line 78 = .ok (.goto 6, 3) := by decide +kernel
theorem dX8_line_81 : decode cX8_line 81 = .ok (.ldc2_w 124, 3) := by decide +kernel
theorem dX8_line_84 : decode cX8_line 84 = .ok (.lreturn, 1) := by decide +kernel
set_option maxRecDepth 20000 in
theorem ggX8_best_X8_begins : GoodIn wsX8_best wsX8_begins := goodIn_r _ [7, 8, 9, 6, 10] (by decide +kernel) (by decide +kernel)
set_option maxRecDepth 20000 in
theorem gX8_best_X8_begins : GoodIn wsX8_best (va_wsS RX8 126 yX8_begins wsX8_begins) := goodIn_app (goodIn_of _ (by decide +kernel)) ggX8_best_X8_begins
theorem dX8_best_0 : decode cX8_best 0 = .ok (.iconst (-1), 1) := by decide +kernel
theorem dX8_best_1 : decode cX8_best 1 = .ok (.istore 4, 2) := by decide +kernel
theorem dX8_best_3 : decode cX8_best 3 = .ok (.iconst 0, 1) := by decide +kernel
theorem dX8_best_4 : decode cX8_best 4 = .ok (.istore 5, 2) := by decide +kernel
theorem dX8_best_6 : decode cX8_best 6 = .ok (.iload 5, 2) := by decide +kernel
theorem dX8_best_8 : decode cX8_best 8 = .ok (.aload_n 0, 1) := by decide +kernel
theorem dX8_best_9 : decode cX8_best 9 = .ok (.getfield 7, 3) := by decide +kernel
theorem dX8_best_12 : decode cX8_best 12 = .ok (.iload_n 1, 1) := by decide +kernel
theorem dX8_best_13 : decode cX8_best 13 = .ok (.iaload, 1) := by decide +kernel
theorem dX8_best_14 : decode cX8_best 14 = .ok (.if_icmp .ge 80, 3) := by decide +kernel
theorem dX8_best_17 : decode cX8_best 17 = .ok (.lload_n 2, 1) := by decide +kernel
theorem dX8_best_18 : decode cX8_best 18 = .ok (.aload_n 0, 1) := by decide +kernel
theorem dX8_best_19 : decode cX8_best 19 = .ok (.getfield 13, 3) := by decide +kernel
theorem dX8_best_22 : decode cX8_best 22 = .ok (.bipush 64, 2) := by decide +kernel
theorem dX8_best_24 : decode cX8_best 24 = .ok (.iload_n 1, 1) := by decide +kernel
theorem dX8_best_25 : decode cX8_best 25 = .ok (.imul, 1) := by decide +kernel
theorem dX8_best_26 : decode cX8_best 26 = .ok (.iload 5, 2) := by decide +kernel
theorem dX8_best_28 : decode cX8_best 28 = .ok (.iadd, 1) := by decide +kernel
theorem dX8_best_29 : decode cX8_best 29 = .ok (.laload, 1) := by decide +kernel
theorem dX8_best_30 : decode cX8_best 30 = .ok (.aload_n 0, 1) := by decide +kernel
theorem dX8_best_31 : decode cX8_best 31 = .ok (.getfield 17, 3) := by decide +kernel
theorem dX8_best_34 : decode cX8_best 34 = .ok (.bipush 64, 2) := by decide +kernel
theorem dX8_best_36 : decode cX8_best 36 = .ok (.iload_n 1, 1) := by decide +kernel
theorem dX8_best_37 : decode cX8_best 37 = .ok (.imul, 1) := by decide +kernel
theorem dX8_best_38 : decode cX8_best 38 = .ok (.iload 5, 2) := by decide +kernel
theorem dX8_best_40 : decode cX8_best 40 = .ok (.iadd, 1) := by decide +kernel
theorem dX8_best_41 : decode cX8_best 41 = .ok (.iaload, 1) := by decide +kernel
theorem dX8_best_42 : decode cX8_best 42 = .ok (.invokestatic 126, 3) := by decide +kernel
theorem dX8_best_45 : decode cX8_best 45 = .ok (.ifCond .ne 6, 3) := by decide +kernel
theorem dX8_best_48 : decode cX8_best 48 = .ok (.goto 40, 3) := by decide +kernel
theorem dX8_best_51 : decode cX8_best 51 = .ok (.iload 4, 2) := by decide +kernel
theorem dX8_best_53 : decode cX8_best 53 = .ok (.iconst (-1), 1) := by decide +kernel
theorem dX8_best_54 : decode cX8_best 54 = .ok (.if_icmp .eq 30, 3) := by decide +kernel
theorem dX8_best_57 : decode cX8_best 57 = .ok (.aload_n 0, 1) := by decide +kernel
theorem dX8_best_58 : decode cX8_best 58 = .ok (.getfield 17, 3) := by decide +kernel
theorem dX8_best_61 : decode cX8_best 61 = .ok (.bipush 64, 2) := by decide +kernel
theorem dX8_best_63 : decode cX8_best 63 = .ok (.iload_n 1, 1) := by decide +kernel
theorem dX8_best_64 : decode cX8_best 64 = .ok (.imul, 1) := by decide +kernel
theorem dX8_best_65 : decode cX8_best 65 = .ok (.iload 5, 2) := by decide +kernel
theorem dX8_best_67 : decode cX8_best 67 = .ok (.iadd, 1) := by decide +kernel
theorem dX8_best_68 : decode cX8_best 68 = .ok (.iaload, 1) := by decide +kernel
theorem dX8_best_69 : decode cX8_best 69 = .ok (.aload_n 0, 1) := by decide +kernel
theorem dX8_best_70 : decode cX8_best 70 = .ok (.getfield 17, 3) := by decide +kernel
theorem dX8_best_73 : decode cX8_best 73 = .ok (.bipush 64, 2) := by decide +kernel
theorem dX8_best_75 : decode cX8_best 75 = .ok (.iload_n 1, 1) := by decide +kernel
theorem dX8_best_76 : decode cX8_best 76 = .ok (.imul, 1) := by decide +kernel
theorem dX8_best_77 : decode cX8_best 77 = .ok (.iload 4, 2) := by decide +kernel
theorem dX8_best_79 : decode cX8_best 79 = .ok (.iadd, 1) := by decide +kernel
theorem dX8_best_80 : decode cX8_best 80 = .ok (.iaload, 1) := by decide +kernel
theorem dX8_best_81 : decode cX8_best 81 = .ok (.if_icmp .le 7, 3) := by decide +kernel
theorem dX8_best_84 : decode cX8_best 84 = .ok (.iload 5, 2) := by decide +kernel
theorem dX8_best_86 : decode cX8_best 86 = .ok (.istore 4, 2) := by decide +kernel
theorem dX8_best_88 : decode cX8_best 88 = .ok (.iinc 5 1, 3) := by decide +kernel
theorem dX8_best_91 : decode cX8_best 91 = .ok (.goto (-85), 3) := by decide +kernel
theorem dX8_best_94 : decode cX8_best 94 = .ok (.iload 4, 2) := by decide +kernel
theorem dX8_best_96 : decode cX8_best 96 = .ok (.ireturn, 1) := by decide +kernel
set_option maxRecDepth 20000 in
theorem ggX8_leads_X8_best : GoodIn wsX8_leads wsX8_best := goodIn_r _ [6, 7, 8, 9, 10, 11, 5, 12, 13, 14, 15, 16, 17, 18, 19, 20, 21, 22, 23, 24, 25, 26, 27, 28, 29, 30, 31, 32, 33, 34, 35, 36, 37, 38, 39, 40, 41, 42, 43, 44, 45, 46, 47, 48, 49] (by decide +kernel) (by decide +kernel)
set_option maxRecDepth 20000 in
theorem gX8_leads_X8_best : GoodIn wsX8_leads (wsV RX8 130 RX8 yX8_best wsX8_best) := goodIn_app (goodIn_of _ (by decide +kernel)) ggX8_leads_X8_best
theorem dX8_leads_0 : decode cX8_leads 0 = .ok (.aload_n 0, 1) := by decide +kernel
theorem dX8_leads_1 : decode cX8_leads 1 = .ok (.iload_n 1, 1) := by decide +kernel
theorem dX8_leads_2 : decode cX8_leads 2 = .ok (.lload_n 2, 1) := by decide +kernel
theorem dX8_leads_3 : decode cX8_leads 3 = .ok (.invokevirtual 130, 3) := by decide +kernel
theorem dX8_leads_6 : decode cX8_leads 6 = .ok (.istore 4, 2) := by decide +kernel
theorem dX8_leads_8 : decode cX8_leads 8 = .ok (.iload 4, 2) := by decide +kernel
theorem dX8_leads_10 : decode cX8_leads 10 = .ok (.iconst (-1), 1) := by decide +kernel
theorem dX8_leads_11 : decode cX8_leads 11 = .ok (.if_icmp .ne 8, 3) := by decide +kernel
theorem dX8_leads_14 : decode cX8_leads 14 = .ok (.bipush 16, 2) := by decide +kernel
theorem dX8_leads_16 : decode cX8_leads 16 = .ok (.goto 15, 3) := by decide +kernel
theorem dX8_leads_19 : decode cX8_leads 19 = .ok (.aload_n 0, 1) := by decide +kernel
theorem dX8_leads_20 : decode cX8_leads 20 = .ok (.getfield 20, 3) := by decide +kernel
theorem dX8_leads_23 : decode cX8_leads 23 = .ok (.bipush 64, 2) := by decide +kernel
theorem dX8_leads_25 : decode cX8_leads 25 = .ok (.iload_n 1, 1) := by decide +kernel
theorem dX8_leads_26 : decode cX8_leads 26 = .ok (.imul, 1) := by decide +kernel
theorem dX8_leads_27 : decode cX8_leads 27 = .ok (.iload 4, 2) := by decide +kernel
theorem dX8_leads_29 : decode cX8_leads 29 = .ok (.iadd, 1) := by decide +kernel
theorem dX8_leads_30 : decode cX8_leads 30 = .ok (.iaload, 1) := by decide +kernel
theorem dX8_leads_31 : decode cX8_leads 31 = .ok (.ireturn, 1) := by decide +kernel
set_option maxRecDepth 20000 in
theorem ggX8_find_X8_isBook : GoodIn wsX8_find wsX8_isBook := goodIn_r _ [4, 5, 6, 3, 7] (by decide +kernel) (by decide +kernel)
set_option maxRecDepth 20000 in
theorem gX8_find_X8_isBook : GoodIn wsX8_find (va_wsS RX8 109 yX8_isBook wsX8_isBook) := goodIn_app (goodIn_of _ (by decide +kernel)) ggX8_find_X8_isBook
set_option maxRecDepth 20000 in
theorem ggX8_find_X8_number : GoodIn wsX8_find wsX8_number := goodIn_r _ [10, 11] (by decide +kernel) (by decide +kernel)
set_option maxRecDepth 20000 in
theorem gX8_find_X8_number : GoodIn wsX8_find (va_wsS RX8 98 yX8_number wsX8_number) := goodIn_app (goodIn_of _ (by decide +kernel)) ggX8_find_X8_number
set_option maxRecDepth 20000 in
theorem ggX8_find_X8_leads : GoodIn wsX8_find wsX8_leads := goodIn_r _ [15, 16, 17, 18, 19, 3, 20, 21, 22, 23, 24, 25, 26, 27, 28, 29, 30, 31, 32, 33, 34, 35, 36, 37, 38, 39, 40, 41, 42, 43, 44, 45, 46, 47, 48, 49, 50, 51, 52, 53, 54, 55, 56, 57, 58, 59, 60, 61, 62, 63] (by decide +kernel) (by decide +kernel)
set_option maxRecDepth 20000 in
theorem gX8_find_X8_leads : GoodIn wsX8_find (wsV RX8 134 RX8 yX8_leads wsX8_leads) := goodIn_app (goodIn_of _ (by decide +kernel)) ggX8_find_X8_leads
theorem dX8_find_0 : decode cX8_find 0 = .ok (.iload_n 1, 1) := by decide +kernel
theorem dX8_find_1 : decode cX8_find 1 = .ok (.invokestatic 109, 3) := by decide +kernel
theorem dX8_find_4 : decode cX8_find 4 = .ok (.ifCond .eq 15, 3) := by decide +kernel
theorem dX8_find_7 : decode cX8_find 7 = .ok (.aload_n 0, 1) := by decide +kernel
theorem dX8_find_8 : decode cX8_find 8 = .ok (.iload_n 1, 1) := by decide +kernel
theorem dX8_find_9 : decode cX8_find 9 = .ok (.iload_n 2, 1) := by decide +kernel
theorem dX8_find_10 : decode cX8_find 10 = .ok (.invokestatic 98, 3) := by decide +kernel
theorem dX8_find_13 : decode cX8_find 13 = .ok (.invokevirtual 134, 3) := by decide +kernel
theorem dX8_find_16 : decode cX8_find 16 = .ok (.goto 4, 3) := by decide +kernel
theorem dX8_find_19 : decode cX8_find 19 = .ok (.iconst (-1), 1) := by decide +kernel
theorem dX8_find_20 : decode cX8_find 20 = .ok (.ireturn, 1) := by decide +kernel
set_option maxRecDepth 20000 in
theorem ggX8_longest_X8_isBook : GoodIn wsX8_longest wsX8_isBook := goodIn_r _ [4, 5, 6, 3, 7] (by decide +kernel) (by decide +kernel)
set_option maxRecDepth 20000 in
theorem gX8_longest_X8_isBook : GoodIn wsX8_longest (va_wsS RX8 109 yX8_isBook wsX8_isBook) := goodIn_app (goodIn_of _ (by decide +kernel)) ggX8_longest_X8_isBook
set_option maxRecDepth 20000 in
theorem ggX8_longest_X8_number : GoodIn wsX8_longest wsX8_number := goodIn_r _ [10, 11] (by decide +kernel) (by decide +kernel)
set_option maxRecDepth 20000 in
theorem gX8_longest_X8_number : GoodIn wsX8_longest (va_wsS RX8 98 yX8_number wsX8_number) := goodIn_app (goodIn_of _ (by decide +kernel)) ggX8_longest_X8_number
set_option maxRecDepth 20000 in
theorem ggX8_longest_X8_best : GoodIn wsX8_longest wsX8_best := goodIn_r _ [15, 16, 17, 18, 19, 20, 3, 21, 22, 23, 24, 25, 26, 27, 28, 29, 30, 31, 32, 33, 34, 35, 36, 37, 38, 39, 40, 41, 42, 43, 44, 45, 46, 47, 48, 49, 50, 51, 52, 53, 54, 55, 56, 57, 58] (by decide +kernel) (by decide +kernel)
set_option maxRecDepth 20000 in
theorem gX8_longest_X8_best : GoodIn wsX8_longest (wsV RX8 130 RX8 yX8_best wsX8_best) := goodIn_app (goodIn_of _ (by decide +kernel)) ggX8_longest_X8_best
theorem dX8_longest_0 : decode cX8_longest 0 = .ok (.iload_n 1, 1) := by decide +kernel
theorem dX8_longest_1 : decode cX8_longest 1 = .ok (.invokestatic 109, 3) := by decide +kernel
theorem dX8_longest_4 : decode cX8_longest 4 = .ok (.ifCond .eq 15, 3) := by decide +kernel
theorem dX8_longest_7 : decode cX8_longest 7 = .ok (.aload_n 0, 1) := by decide +kernel
theorem dX8_longest_8 : decode cX8_longest 8 = .ok (.iload_n 1, 1) := by decide +kernel
theorem dX8_longest_9 : decode cX8_longest 9 = .ok (.iload_n 2, 1) := by decide +kernel
theorem dX8_longest_10 : decode cX8_longest 10 = .ok (.invokestatic 98, 3) := by decide +kernel
theorem dX8_longest_13 : decode cX8_longest 13 = .ok (.invokevirtual 130, 3) := by decide +kernel
theorem dX8_longest_16 : decode cX8_longest 16 = .ok (.goto 4, 3) := by decide +kernel
theorem dX8_longest_19 : decode cX8_longest 19 = .ok (.iconst (-1), 1) := by decide +kernel
theorem dX8_longest_20 : decode cX8_longest 20 = .ok (.ireturn, 1) := by decide +kernel
set_option maxRecDepth 20000 in
theorem ggX8_leads__X8_leads : GoodIn wsX8_leads_ wsX8_leads := goodIn_r _ [5, 6, 7, 8, 9, 4, 10, 11, 12, 13, 14, 15, 16, 17, 18, 19, 20, 21, 22, 23, 24, 25, 26, 27, 28, 29, 30, 31, 32, 33, 34, 35, 36, 37, 38, 39, 40, 41, 42, 43, 44, 45, 46, 47, 48, 49, 50, 51, 52, 53] (by decide +kernel) (by decide +kernel)
set_option maxRecDepth 20000 in
theorem gX8_leads__X8_leads : GoodIn wsX8_leads_ (wsV RX8 134 RX8 yX8_leads wsX8_leads) := goodIn_app (goodIn_of _ (by decide +kernel)) ggX8_leads__X8_leads
theorem dX8_leads__0 : decode cX8_leads_ 0 = .ok (.aload_n 0, 1) := by decide +kernel
theorem dX8_leads__1 : decode cX8_leads_ 1 = .ok (.iload_n 2, 1) := by decide +kernel
theorem dX8_leads__2 : decode cX8_leads_ 2 = .ok (.lload 4, 2) := by decide +kernel
theorem dX8_leads__4 : decode cX8_leads_ 4 = .ok (.invokevirtual 134, 3) := by decide +kernel
theorem dX8_leads__7 : decode cX8_leads_ 7 = .ok (.istore 6, 2) := by decide +kernel
theorem dX8_leads__9 : decode cX8_leads_ 9 = .ok (.iload_n 1, 1) := by decide +kernel
theorem dX8_leads__10 : decode cX8_leads_ 10 = .ok (.iconst 3, 1) := by decide +kernel
theorem dX8_leads__11 : decode cX8_leads_ 11 = .ok (.if_icmp .ne 6, 3) := by decide +kernel
theorem dX8_leads__14 : decode cX8_leads_ 14 = .ok (.iload 6, 2) := by decide +kernel
theorem dX8_leads__16 : decode cX8_leads_ 16 = .ok (.ireturn, 1) := by decide +kernel
theorem dX8_leads__17 : decode cX8_leads_ 17 = .ok (.aload_n 0, 1) := by decide +kernel
theorem dX8_leads__18 : decode cX8_leads_ 18 = .ok (.iload_n 3, 1) := by decide +kernel
theorem dX8_leads__19 : decode cX8_leads_ 19 = .ok (.lload 4, 2) := by decide +kernel
theorem dX8_leads__21 : decode cX8_leads_ 21 = .ok (.invokevirtual 134, 3) := by decide +kernel
theorem dX8_leads__24 : decode cX8_leads_ 24 = .ok (.istore 7, 2) := by decide +kernel
theorem dX8_leads__26 : decode cX8_leads_ 26 = .ok (.iload_n 1, 1) := by decide +kernel
theorem dX8_leads__27 : decode cX8_leads_ 27 = .ok (.tableswitch 70 0 2 #[25, 40, 55], 25) := by decide +kernel
theorem dX8_leads__52 : decode cX8_leads_ 52 = .ok (.iload 6, 2) := by decide +kernel
theorem dX8_leads__54 : decode cX8_leads_ 54 = .ok (.bipush 16, 2) := by decide +kernel
theorem dX8_leads__56 : decode cX8_leads_ 56 = .ok (.if_icmp .eq 8, 3) := by decide +kernel
theorem dX8_leads__59 : decode cX8_leads_ 59 = .ok (.iload 6, 2) := by decide +kernel
theorem dX8_leads__61 : decode cX8_leads_ 61 = .ok (.goto 5, 3) := by decide +kernel
theorem dX8_leads__64 : decode cX8_leads_ 64 = .ok (.iload 7, 2) := by decide +kernel
theorem dX8_leads__66 : decode cX8_leads_ 66 = .ok (.ireturn, 1) := by decide +kernel
theorem dX8_leads__67 : decode cX8_leads_ 67 = .ok (.iload 6, 2) := by decide +kernel
theorem dX8_leads__69 : decode cX8_leads_ 69 = .ok (.iload 7, 2) := by decide +kernel
theorem dX8_leads__71 : decode cX8_leads_ 71 = .ok (.if_icmp .ne 8, 3) := by decide +kernel
theorem dX8_leads__74 : decode cX8_leads_ 74 = .ok (.iload 6, 2) := by decide +kernel
theorem dX8_leads__76 : decode cX8_leads_ 76 = .ok (.goto 5, 3) := by decide +kernel
theorem dX8_leads__79 : decode cX8_leads_ 79 = .ok (.bipush 16, 2) := by decide +kernel
theorem dX8_leads__81 : decode cX8_leads_ 81 = .ok (.ireturn, 1) := by decide +kernel
theorem dX8_leads__82 : decode cX8_leads_ 82 = .ok (.iload 7, 2) := by decide +kernel
theorem dX8_leads__84 : decode cX8_leads_ 84 = .ok (.bipush 16, 2) := by decide +kernel
theorem dX8_leads__86 : decode cX8_leads_ 86 = .ok (.if_icmp .ne 8, 3) := by decide +kernel
theorem dX8_leads__89 : decode cX8_leads_ 89 = .ok (.iload 6, 2) := by decide +kernel
theorem dX8_leads__91 : decode cX8_leads_ 91 = .ok (.goto 5, 3) := by decide +kernel
theorem dX8_leads__94 : decode cX8_leads_ 94 = .ok (.bipush 16, 2) := by decide +kernel
theorem dX8_leads__96 : decode cX8_leads_ 96 = .ok (.ireturn, 1) := by decide +kernel
