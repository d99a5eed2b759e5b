theorem dX8_least_24 : decode cX8_least 24 = .ok (.invokevirtual 189, 3) := by decide +kernel
theorem dX8_least_27 : decode cX8_least 27 = .ok (.istore_n 3, 1) := by decide +kernel
theorem dX8_least_28 : decode cX8_least 28 = .ok (.aload_n 0, 1) := by decide +kernel
theorem dX8_least_29 : decode cX8_least 29 = .ok (.iload_n 2, 1) := by decide +kernel
theorem dX8_least_30 : decode cX8_least 30 = .ok (.invokevirtual 193, 3) := by decide +kernel
theorem dX8_least_33 : decode cX8_least 33 = .ok (.ireturn, 1) := by decide +kernel
set_option maxRecDepth 20000 in
theorem ggX8_combine_X8_lies : GoodIn wsX8_combine wsX8_lies := goodIn_r _ [4] (by decide +kernel) (by decide +kernel)
set_option maxRecDepth 20000 in
theorem gX8_combine_X8_lies : GoodIn wsX8_combine (va_wsS RX8 92 yX8_lies wsX8_lies) := goodIn_app (goodIn_of _ (by decide +kernel)) ggX8_combine_X8_lies
set_option maxRecDepth 20000 in
theorem ggX8_combine_X8_isBook : GoodIn wsX8_combine wsX8_isBook := goodIn_r _ [7, 1, 2, 3, 4] (by decide +kernel) (by decide +kernel)
set_option maxRecDepth 20000 in
theorem gX8_combine_X8_isBook : GoodIn wsX8_combine (va_wsS RX8 109 yX8_isBook wsX8_isBook) := goodIn_app (goodIn_of _ (by decide +kernel)) ggX8_combine_X8_isBook
set_option maxRecDepth 20000 in
theorem ggX8_combine_X8_makeSpans : GoodIn wsX8_combine wsX8_makeSpans := goodIn_r _ [11, 12, 13, 14, 15, 16, 17, 3, 18, 19, 20, 21, 22, 23, 24, 25, 26, 27, 28, 29, 30, 31, 32, 33, 34, 35, 36, 37, 38, 39, 40, 41, 42, 43, 44, 45, 100, 101, 102, 103, 104, 105, 106, 107, 108, 109, 110, 111, 112, 113, 114, 115, 116, 117, 118, 119, 120, 121, 122, 123, 124, 125, 126, 127, 128, 129, 130, 131, 132, 133] (by decide +kernel) (by decide +kernel)
set_option maxRecDepth 20000 in
theorem gX8_combine_X8_makeSpans : GoodIn wsX8_combine (wsV RX8 154 RX8 yX8_makeSpans wsX8_makeSpans) := goodIn_app (goodIn_of _ (by decide +kernel)) ggX8_combine_X8_makeSpans
set_option maxRecDepth 20000 in
theorem ggX8_combine_X8_makeLeast : GoodIn wsX8_combine wsX8_makeLeast := goodIn_r _ [49, 50, 51, 52, 53, 54, 55, 56, 14, 57, 58, 59, 60, 3, 61, 62, 12, 13, 63, 64, 27, 28, 29, 65, 66, 67, 68, 69, 70, 71, 72, 73, 74, 75, 76, 77, 78, 79, 80, 81, 82, 83, 84, 19, 85, 86, 87, 100, 101, 102, 103, 104, 105, 106, 107, 108, 109, 110, 111, 112, 113, 114, 115, 116, 117, 118, 119, 120, 121, 122, 123, 124, 125, 126, 127, 128, 129, 130, 131, 132, 133] (by decide +kernel) (by decide +kernel)
set_option maxRecDepth 20000 in
theorem gX8_combine_X8_makeLeast : GoodIn wsX8_combine (wsV RX8 189 RX8 yX8_makeLeast wsX8_makeLeast) := goodIn_app (goodIn_of _ (by decide +kernel)) ggX8_combine_X8_makeLeast
set_option maxRecDepth 20000 in
theorem ggX8_combine_X8_becomes : GoodIn wsX8_combine wsX8_becomes := goodIn_r _ [91, 24, 57, 52, 53, 54, 92, 93, 94, 3, 95, 25, 26, 38, 96, 97, 98, 99, 100, 101, 102, 103, 104, 105, 106, 107, 108, 109, 110, 111, 112, 113, 114, 115, 116, 117, 118, 119, 120, 121, 122, 123, 124, 125, 126, 127, 128, 129, 130, 131, 132, 133] (by decide +kernel) (by decide +kernel)
set_option maxRecDepth 20000 in
theorem gX8_combine_X8_becomes : GoodIn wsX8_combine (wsV RX8 193 RX8 yX8_becomes wsX8_becomes) := goodIn_app (goodIn_of _ (by decide +kernel)) ggX8_combine_X8_becomes
theorem dX8_combine_0 : decode cX8_combine 0 = .ok (.iload_n 1, 1) := by decide +kernel
theorem dX8_combine_1 : decode cX8_combine 1 = .ok (.iconst 0, 1) := by decide +kernel
theorem dX8_combine_2 : decode cX8_combine 2 = .ok (.iconst 2, 1) := by decide +kernel
theorem dX8_combine_3 : decode cX8_combine 3 = .ok (.invokestatic 92, 3) := by decide +kernel
theorem dX8_combine_6 : decode cX8_combine 6 = .ok (.ifCond .eq 25, 3) := by decide +kernel
theorem dX8_combine_9 : decode cX8_combine 9 = .ok (.iload_n 2, 1) := by decide +kernel
theorem dX8_combine_10 : decode cX8_combine 10 = .ok (.invokestatic 109, 3) := by decide +kernel
theorem dX8_combine_13 : decode cX8_combine 13 = .ok (.ifCond .eq 18, 3) := by decide +kernel
theorem dX8_combine_16 : decode cX8_combine 16 = .ok (.iload_n 3, 1) := by decide +kernel
theorem dX8_combine_17 : decode cX8_combine 17 = .ok (.invokestatic 109, 3) := by decide +kernel
theorem dX8_combine_20 : decode cX8_combine 20 = .ok (.ifCond .eq 11, 3) := by decide +kernel
theorem dX8_combine_23 : decode cX8_combine 23 = .ok (.iload 4, 2) := by decide +kernel
theorem dX8_combine_25 : decode cX8_combine 25 = .ok (.invokestatic 109, 3) := by decide +kernel
theorem dX8_combine_28 : decode cX8_combine 28 = .ok (.ifCond .ne 5, 3) := by decide +kernel
theorem dX8_combine_31 : decode cX8_combine 31 = .ok (.iconst (-1), 1) := by decide +kernel
theorem dX8_combine_32 : decode cX8_combine 32 = .ok (.ireturn, 1) := by decide +kernel
theorem dX8_combine_33 : decode cX8_combine 33 = .ok (.aload_n 0, 1) := by decide +kernel
theorem dX8_combine_34 : decode cX8_combine 34 = .ok (.iload_n 1, 1) := by decide +kernel
theorem dX8_combine_35 : decode cX8_combine 35 = .ok (.iload_n 2, 1) := by decide +kernel
theorem dX8_combine_36 : decode cX8_combine 36 = .ok (.iload_n 3, 1) := by decide +kernel
theorem dX8_combine_37 : decode cX8_combine 37 = .ok (.invokevirtual 154, 3) := by decide +kernel
theorem dX8_combine_40 : decode cX8_combine 40 = .ok (.aload_n 0, 1) := by decide +kernel
theorem dX8_combine_41 : decode cX8_combine 41 = .ok (.invokevirtual 189, 3) := by decide +kernel
theorem dX8_combine_44 : decode cX8_combine 44 = .ok (.bipush 64, 2) := by decide +kernel
theorem dX8_combine_46 : decode cX8_combine 46 = .ok (.if_icmp .le 8, 3) := by decide +kernel
theorem dX8_combine_49 : decode cX8_combine 49 = .ok (.bipush (-2), 2) := by decide +kernel
theorem dX8_combine_51 : decode cX8_combine 51 = .ok (.goto 9, 3) := by decide +kernel
theorem dX8_combine_54 : decode cX8_combine 54 = .ok (.aload_n 0, 1) := by decide +kernel
theorem dX8_combine_55 : decode cX8_combine 55 = .ok (.iload 4, 2) := by decide +kernel
theorem dX8_combine_57 : decode cX8_combine 57 = .ok (.invokevirtual 193, 3) := by decide +kernel
theorem dX8_combine_60 : decode cX8_combine 60 = .ok (.ireturn, 1) := by decide +kernel
set_option maxRecDepth 20000 in
theorem ggX8_cover_X8_number : GoodIn wsX8_cover wsX8_number := goodIn_r _ [7, 8] (by decide +kernel) (by decide +kernel)
set_option maxRecDepth 20000 in
theorem gX8_cover_X8_number : GoodIn wsX8_cover (va_wsS RX8 98 yX8_number wsX8_number) := goodIn_app (goodIn_of _ (by decide +kernel)) ggX8_cover_X8_number
set_option maxRecDepth 20000 in
theorem ggX8_cover_X8_size : GoodIn wsX8_cover wsX8_size := goodIn_r _ [11] (by decide +kernel) (by decide +kernel)
set_option maxRecDepth 20000 in
theorem gX8_cover_X8_size : GoodIn wsX8_cover (va_wsS RX8 102 yX8_size wsX8_size) := goodIn_app (goodIn_of _ (by decide +kernel)) ggX8_cover_X8_size
theorem dX8_cover_0 : decode cX8_cover 0 = .ok (.iload_n 1, 1) := by decide +kernel
theorem dX8_cover_1 : decode cX8_cover 1 = .ok (.invokestatic 98, 3) := by decide +kernel
theorem dX8_cover_4 : decode cX8_cover 4 = .ok (.lstore_n 3, 1) := by decide +kernel
theorem dX8_cover_5 : decode cX8_cover 5 = .ok (.iload_n 2, 1) := by decide +kernel
theorem dX8_cover_6 : decode cX8_cover 6 = .ok (.invokestatic 98, 3) := by decide +kernel
theorem dX8_cover_9 : decode cX8_cover 9 = .ok (.lstore 5, 2) := by decide +kernel
theorem dX8_cover_11 : decode cX8_cover 11 = .ok (.lload 5, 2) := by decide +kernel
theorem dX8_cover_13 : decode cX8_cover 13 = .ok (.lload_n 3, 1) := by decide +kernel
theorem dX8_cover_14 : decode cX8_cover 14 = .ok (.lcmp, 1) := by decide +kernel
theorem dX8_cover_15 : decode cX8_cover 15 = .ok (.ifCond .ge 5, 3) := by decide +kernel
theorem dX8_cover_18 : decode cX8_cover 18 = .ok (.iconst (-1), 1) := by decide +kernel
theorem dX8_cover_19 : decode cX8_cover 19 = .ok (.ireturn, 1) := by decide +kernel
theorem dX8_cover_20 : decode cX8_cover 20 = .ok (.aload_n 0, 1) := by decide +kernel
theorem dX8_cover_21 : decode cX8_cover 21 = .ok (.iconst 0, 1) := by decide +kernel
theorem dX8_cover_22 : decode cX8_cover 22 = .ok (.putfield 196, 3) := by decide +kernel
theorem dX8_cover_25 : decode cX8_cover 25 = .ok (.lload_n 3, 1) := by decide +kernel
theorem dX8_cover_26 : decode cX8_cover 26 = .ok (.lload 5, 2) := by decide +kernel
theorem dX8_cover_28 : decode cX8_cover 28 = .ok (.lcmp, 1) := by decide +kernel
theorem dX8_cover_29 : decode cX8_cover 29 = .ok (.ifCond .gt 81, 3) := by decide +kernel
theorem dX8_cover_32 : decode cX8_cover 32 = .ok (.iconst 0, 1) := by decide +kernel
theorem dX8_cover_33 : decode cX8_cover 33 = .ok (.istore 7, 2) := by decide +kernel
theorem dX8_cover_35 : decode cX8_cover 35 = .ok (.lload_n 3, 1) := by decide +kernel
theorem dX8_cover_36 : decode cX8_cover 36 = .ok (.iload 7, 2) := by decide +kernel
theorem dX8_cover_38 : decode cX8_cover 38 = .ok (.invokestatic 102, 3) := by decide +kernel
theorem dX8_cover_41 : decode cX8_cover 41 = .ok (.lrem, 1) := by decide +kernel
theorem dX8_cover_42 : decode cX8_cover 42 = .ok (.lconst 0, 1) := by decide +kernel
theorem dX8_cover_43 : decode cX8_cover 43 = .ok (.lcmp, 1) := by decide +kernel
theorem dX8_cover_44 : decode cX8_cover 44 = .ok (.ifCond .ne 18, 3) := by decide +kernel
theorem dX8_cover_47 : decode cX8_cover 47 = .ok (.lload_n 3, 1) := by decide +kernel
theorem dX8_cover_48 : decode cX8_cover 48 = .ok (.iload 7, 2) := by decide +kernel
theorem dX8_cover_50 : decode cX8_cover 50 = .ok (.invokestatic 102, 3) := by decide +kernel
theorem dX8_cover_53 : decode cX8_cover 53 = .ok (.ladd, 1) := by decide +kernel
theorem dX8_cover_54 : decode cX8_cover 54 = .ok (.lconst 1, 1) := by decide +kernel
theorem dX8_cover_55 : decode cX8_cover 55 = .ok (.lsub, 1) := by decide +kernel
theorem dX8_cover_56 : decode cX8_cover 56 = .ok (.lload 5, 2) := by decide +kernel
theorem dX8_cover_58 : decode cX8_cover 58 = .ok (.lcmp, 1) := by decide +kernel
theorem dX8_cover_59 : decode cX8_cover 59 = .ok (.ifCond .le 9, 3) := by decide +kernel
theorem dX8_cover_62 : decode cX8_cover 62 = .ok (.iinc 7 1, 3) := by decide +kernel
theorem dX8_cover_65 : decode cX8_cover 65 = .ok (.goto (-30), 3) := by decide +kernel
theorem dX8_cover_68 : decode cX8_cover 68 = .ok (.aload_n 0, 1) := by decide +kernel
theorem dX8_cover_69 : decode cX8_cover 69 = .ok (.getfield 59, 3) := by decide +kernel
theorem dX8_cover_72 : decode cX8_cover 72 = .ok (.aload_n 0, 1) := by decide +kernel
theorem dX8_cover_73 : decode cX8_cover 73 = .ok (.getfield 196, 3) := by decide +kernel
theorem dX8_cover_76 : decode cX8_cover 76 = .ok (.lload_n 3, 1) := by decide +kernel
theorem dX8_cover_77 : decode cX8_cover 77 = .ok (.lastore, 1) := by decide +kernel
theorem dX8_cover_78 : decode cX8_cover 78 = .ok (.aload_n 0, 1) := by decide +kernel
theorem dX8_cover_79 : decode cX8_cover 79 = .ok (.getfield 62, 3) := by decide +kernel
theorem dX8_cover_82 : decode cX8_cover 82 = .ok (.aload_n 0, 1) := by decide +kernel
theorem dX8_cover_83 : decode cX8_cover 83 = .ok (.getfield 196, 3) := by decide +kernel
theorem dX8_cover_86 : decode cX8_cover 86 = .ok (.iload 7, 2) := by decide +kernel
theorem dX8_cover_88 : decode cX8_cover 88 = .ok (.iastore, 1) := by decide +kernel
theorem dX8_cover_89 : decode cX8_cover 89 = .ok (.aload_n 0, 1) := by decide +kernel
theorem dX8_cover_90 : decode cX8_cover 90 = .ok (.dup, 1) := by decide +kernel
theorem dX8_cover_91 : decode cX8_cover 91 = .ok (.getfield 196, 3) := by decide +kernel
theorem dX8_cover_94 : decode cX8_cover 94 = .ok (.iconst 1, 1) := by decide +kernel
theorem dX8_cover_95 : decode cX8_cover 95 = .ok (.iadd, 1) := by decide +kernel
theorem dX8_cover_96 : decode cX8_cover 96 = .ok (.putfield 196, 3) := by decide +kernel
theorem dX8_cover_99 : decode cX8_cover 99 = .ok (.lload_n 3, 1) := by decide +kernel
theorem dX8_cover_100 : decode cX8_cover 100 = .ok (.iload 7, 2) := by decide +kernel
theorem dX8_cover_102 : decode cX8_cover 102 = .ok (.invokestatic 102, 3) := by decide +kernel
theorem dX8_cover_105 : decode cX8_cover 105 = .ok (.ladd, 1) := by decide +kernel
theorem dX8_cover_106 : decode cX8_cover 106 = .ok (.lstore_n 3, 1) := by decide +kernel
theorem dX8_cover_107 : decode cX8_cover 107 = .ok (.goto (-82), 3) := by decide +kernel
theorem dX8_cover_110 : decode cX8_cover 110 = .ok (.aload_n 0, 1) := by decide +kernel
theorem dX8_cover_111 : decode cX8_cover 111 = .ok (.getfield 196, 3) := by decide +kernel
theorem dX8_cover_114 : decode cX8_cover 114 = .ok (.ireturn, 1) := by decide +kernel
set_option maxRecDepth 20000 in
theorem ggX8_piece_X8_lies : GoodIn wsX8_piece wsX8_lies := goodIn_r _ [8] (by decide +kernel) (by decide +kernel)
set_option maxRecDepth 20000 in
theorem gX8_piece_X8_lies : GoodIn wsX8_piece (va_wsS RX8 92 yX8_lies wsX8_lies) := goodIn_app (goodIn_of _ (by decide +kernel)) ggX8_piece_X8_lies
theorem dX8_piece_0 : decode cX8_piece 0 = .ok (.iload_n 1, 1) := by decide +kernel
theorem dX8_piece_1 : decode cX8_piece 1 = .ok (.iconst 0, 1) := by decide +kernel
theorem dX8_piece_2 : decode cX8_piece 2 = .ok (.aload_n 0, 1) := by decide +kernel
theorem dX8_piece_3 : decode cX8_piece 3 = .ok (.getfield 196, 3) := by decide +kernel
theorem dX8_piece_6 : decode cX8_piece 6 = .ok (.iconst 1, 1) := by decide +kernel
theorem dX8_piece_7 : decode cX8_piece 7 = .ok (.isub, 1) := by decide +kernel
theorem dX8_piece_8 : decode cX8_piece 8 = .ok (.invokestatic 92, 3) := by decide +kernel
theorem dX8_piece_11 : decode cX8_piece 11 = .ok (.ifCond .ne 7, 3) := by decide +kernel
theorem dX8_piece_14 : decode cX8_piece 14 = .ok (.ldc2_w 124, 3) := by decide +kernel
theorem dX8_piece_17 : decode cX8_piece 17 = .ok (.lreturn, 1) := by decide +kernel
theorem dX8_piece_18 : decode cX8_piece 18 = .ok (.iload_n 2, 1) := by decide +kernel
theorem dX8_piece_19 : decode cX8_piece 19 = .ok (.ifCond .ne 12, 3) := by decide +kernel
theorem dX8_piece_22 : decode cX8_piece 22 = .ok (.aload_n 0, 1) := by decide +kernel
theorem dX8_piece_23 : decode cX8_piece 23 = .ok (.getfield 59, 3) := by decide +kernel
theorem dX8_piece_26 : decode cX8_piece 26 = .ok (.iload_n 1, 1) := by decide +kernel
theorem dX8_piece_27 : decode cX8_piece 27 = .ok (.laload, 1) := by decide +kernel
theorem dX8_piece_28 : decode cX8_piece 28 = .ok (.goto 21, 3) := by decide +kernel
theorem dX8_piece_31 : decode cX8_piece 31 = .ok (.iload_n 2, 1) := by decide +kernel
theorem dX8_piece_32 : decode cX8_piece 32 = .ok (.iconst 1, 1) := by decide +kernel
theorem dX8_piece_33 : decode cX8_piece 33 = .ok (.if_icmp .ne 13, 3) := by decide +kernel
theorem dX8_piece_36 : decode cX8_piece 36 = .ok (.aload_n 0, 1) := by decide +kernel
theorem dX8_piece_37 : decode cX8_piece 37 = .ok (.getfield 62, 3) := by decide +kernel
theorem dX8_piece_40 : decode cX8_piece 40 = .ok (.iload_n 1, 1) := by decide +kernel
theorem dX8_piece_41 : decode cX8_piece 41 = .ok (.iaload, 1) := by decide +kernel
theorem dX8_piece_42 : decode cX8_piece 42 = .ok (.i2l, 1) := by decide +kernel
theorem dX8_piece_43 : decode cX8_piece 43 = .ok (.goto 6, 3) := by decide +kernel
theorem dX8_piece_46 : decode cX8_piece 46 = .ok (.ldc2_w 124, 3) := by decide +kernel
theorem dX8_piece_49 : decode cX8_piece 49 = .ok (.lreturn, 1) := by decide +kernel
theorem dX8_step_0 : decode cX8_step 0 = .ok (.aload_n 0, 1) := by decide +kernel
theorem dX8_step_1 : decode cX8_step 1 = .ok (.getfield 65, 3) := by decide +kernel
theorem dX8_step_4 : decode cX8_step 4 = .ok (.aload_n 0, 1) := by decide +kernel
theorem dX8_step_5 : decode cX8_step 5 = .ok (.getfield 199, 3) := by decide +kernel
theorem dX8_step_8 : decode cX8_step 8 = .ok (.iload_n 1, 1) := by decide +kernel
theorem dX8_step_9 : decode cX8_step 9 = .ok (.iastore, 1) := by decide +kernel
theorem dX8_step_10 : decode cX8_step 10 = .ok (.aload_n 0, 1) := by decide +kernel
theorem dX8_step_11 : decode cX8_step 11 = .ok (.getfield 68, 3) := by decide +kernel
theorem dX8_step_14 : decode cX8_step 14 = .ok (.aload_n 0, 1) := by decide +kernel
theorem dX8_step_15 : decode cX8_step 15 = .ok (.getfield 199, 3) := by decide +kernel
theorem dX8_step_18 : decode cX8_step 18 = .ok (.lload_n 2, 1) := by decide +kernel
theorem dX8_step_19 : decode cX8_step 19 = .ok (.lastore, 1) := by decide +kernel
theorem dX8_step_20 : decode cX8_step 20 = .ok (.aload_n 0, 1) := by decide +kernel
theorem dX8_step_21 : decode cX8_step 21 = .ok (.getfield 71, 3) := by decide +kernel
theorem dX8_step_24 : decode cX8_step 24 = .ok (.aload_n 0, 1) := by decide +kernel
theorem dX8_step_25 : decode cX8_step 25 = .ok (.getfield 199, 3) := by decide +kernel
theorem dX8_step_28 : decode cX8_step 28 = .ok (.iload 4, 2) := by decide +kernel
theorem dX8_step_30 : decode cX8_step 30 = .ok (.iastore, 1) := by decide +kernel
theorem dX8_step_31 : decode cX8_step 31 = .ok (.aload_n 0, 1) := by decide +kernel
theorem dX8_step_32 : decode cX8_step 32 = .ok (.getfield 74, 3) := by decide +kernel
theorem dX8_step_35 : decode cX8_step 35 = .ok (.aload_n 0, 1) := by decide +kernel
theorem dX8_step_36 : decode cX8_step 36 = .ok (.getfield 199, 3) := by decide +kernel
theorem dX8_step_39 : decode cX8_step 39 = .ok (.iload 5, 2) := by decide +kernel
theorem dX8_step_41 : decode cX8_step 41 = .ok (.iastore, 1) := by decide +kernel
theorem dX8_step_42 : decode cX8_step 42 = .ok (.aload_n 0, 1) := by decide +kernel
theorem dX8_step_43 : decode cX8_step 43 = .ok (.dup, 1) := by decide +kernel
theorem dX8_step_44 : decode cX8_step 44 = .ok (.getfield 199, 3) := by decide +kernel
theorem dX8_step_47 : decode cX8_step 47 = .ok (.iconst 1, 1) := by decide +kernel
theorem dX8_step_48 : decode cX8_step 48 = .ok (.iadd, 1) := by decide +kernel
theorem dX8_step_49 : decode cX8_step 49 = .ok (.putfield 199, 3) := by decide +kernel
theorem dX8_step_52 : decode cX8_step 52 = .ok (.return_, 1) := by decide +kernel
set_option maxRecDepth 20000 in
theorem ggX8_way_X8_isBook : GoodIn wsX8_way wsX8_isBook := goodIn_r _ [14, 15, 16, 13, 17] (by decide +kernel) (by decide +kernel)
set_option maxRecDepth 20000 in
theorem gX8_way_X8_isBook : GoodIn wsX8_way (va_wsS RX8 109 yX8_isBook wsX8_isBook) := goodIn_app (goodIn_of _ (by decide +kernel)) ggX8_way_X8_isBook
set_option maxRecDepth 20000 in
theorem ggX8_way_X8_at : GoodIn wsX8_way wsX8_at := goodIn_r _ [21, 3, 4, 5, 30, 31, 32, 33, 34, 35, 36, 37, 38, 39, 40, 41, 42, 43, 44, 45, 46, 47, 48, 49, 50, 51, 52, 53, 54, 55, 56, 57, 58, 59, 60, 61, 62, 63] (by decide +kernel) (by decide +kernel)
set_option maxRecDepth 20000 in
theorem gX8_way_X8_at : GoodIn wsX8_way (wsV RX8 117 RX8 yX8_at wsX8_at) := goodIn_app (goodIn_of _ (by decide +kernel)) ggX8_way_X8_at
set_option maxRecDepth 20000 in
theorem ggX8_way_X8_step : GoodIn wsX8_way wsX8_step := goodIn_r _ [25, 26, 2, 27, 28, 29, 30, 31, 32, 33, 34, 35, 36, 37, 38, 39, 40, 41, 42, 43, 44, 45, 46, 47, 48, 49, 50, 51, 52, 53, 54, 55, 56, 57, 58, 59, 60, 61, 62, 63] (by decide +kernel) (by decide +kernel)
set_option maxRecDepth 20000 in
theorem gX8_way_X8_step : GoodIn wsX8_way (wsV RX8 206 RX8 yX8_step wsX8_step) := goodIn_app (goodIn_of _ (by decide +kernel)) ggX8_way_X8_step
theorem dX8_way_0 : decode cX8_way 0 = .ok (.iload_n 1, 1) := by decide +kernel
theorem dX8_way_1 : decode cX8_way 1 = .ok (.invokestatic 109, 3) := by decide +kernel
theorem dX8_way_4 : decode cX8_way 4 = .ok (.ifCond .eq 10, 3) := by decide +kernel
theorem dX8_way_7 : decode cX8_way 7 = .ok (.iload_n 2, 1) := by decide +kernel
theorem dX8_way_8 : decode cX8_way 8 = .ok (.invokestatic 109, 3) := by decide +kernel
theorem dX8_way_11 : decode cX8_way 11 = .ok (.ifCond .ne 5, 3) := by decide +kernel
theorem dX8_way_14 : decode cX8_way 14 = .ok (.iconst (-1), 1) := by decide +kernel
theorem dX8_way_15 : decode cX8_way 15 = .ok (.ireturn, 1) := by decide +kernel
theorem dX8_way_16 : decode cX8_way 16 = .ok (.aload_n 0, 1) := by decide +kernel
theorem dX8_way_17 : decode cX8_way 17 = .ok (.iconst 1, 1) := by decide +kernel
theorem dX8_way_18 : decode cX8_way 18 = .ok (.putfield 202, 3) := by decide +kernel
theorem dX8_way_21 : decode cX8_way 21 = .ok (.aload_n 0, 1) := by decide +kernel
theorem dX8_way_22 : decode cX8_way 22 = .ok (.iconst 0, 1) := by decide +kernel
theorem dX8_way_23 : decode cX8_way 23 = .ok (.putfield 199, 3) := by decide +kernel
theorem dX8_way_26 : decode cX8_way 26 = .ok (.bipush 32, 2) := by decide +kernel
theorem dX8_way_28 : decode cX8_way 28 = .ok (.istore_n 3, 1) := by decide +kernel
theorem dX8_way_29 : decode cX8_way 29 = .ok (.iload_n 3, 1) := by decide +kernel
theorem dX8_way_30 : decode cX8_way 30 = .ok (.ifCond .lt 118, 3) := by decide +kernel
theorem dX8_way_33 : decode cX8_way 33 = .ok (.iconst 0, 1) := by decide +kernel
theorem dX8_way_34 : decode cX8_way 34 = .ok (.istore 4, 2) := by decide +kernel
theorem dX8_way_36 : decode cX8_way 36 = .ok (.iload 4, 2) := by decide +kernel
theorem dX8_way_38 : decode cX8_way 38 = .ok (.aload_n 0, 1) := by decide +kernel
theorem dX8_way_39 : decode cX8_way 39 = .ok (.getfield 7, 3) := by decide +kernel
theorem dX8_way_42 : decode cX8_way 42 = .ok (.iload_n 2, 1) := by decide +kernel
theorem dX8_way_43 : decode cX8_way 43 = .ok (.iaload, 1) := by decide +kernel
theorem dX8_way_44 : decode cX8_way 44 = .ok (.if_icmp .ge 98, 3) := by decide +kernel
theorem dX8_way_47 : decode cX8_way 47 = .ok (.bipush 64, 2) := by decide +kernel
theorem dX8_way_49 : decode cX8_way 49 = .ok (.iload_n 2, 1) := by decide +kernel
theorem dX8_way_50 : decode cX8_way 50 = .ok (.imul, 1) := by decide +kernel
theorem dX8_way_51 : decode cX8_way 51 = .ok (.iload 4, 2) := by decide +kernel
theorem dX8_way_53 : decode cX8_way 53 = .ok (.iadd, 1) := by decide +kernel
theorem dX8_way_54 : decode cX8_way 54 = .ok (.istore 5, 2) := by decide +kernel
theorem dX8_way_56 : decode cX8_way 56 = .ok (.aload_n 0, 1) := by decide +kernel
theorem dX8_way_57 : decode cX8_way 57 = .ok (.iload_n 1, 1) := by decide +kernel
theorem dX8_way_58 : decode cX8_way 58 = .ok (.aload_n 0, 1) := by decide +kernel
theorem dX8_way_59 : decode cX8_way 59 = .ok (.getfield 13, 3) := by decide +kernel
theorem dX8_way_62 : decode cX8_way 62 = .ok (.iload 5, 2) := by decide +kernel
theorem dX8_way_64 : decode cX8_way 64 = .ok (.laload, 1) := by decide +kernel
theorem dX8_way_65 : decode cX8_way 65 = .ok (.aload_n 0, 1) := by decide +kernel
theorem dX8_way_66 : decode cX8_way 66 = .ok (.getfield 17, 3) := by decide +kernel
theorem dX8_way_69 : decode cX8_way 69 = .ok (.iload 5, 2) := by decide +kernel
theorem dX8_way_71 : decode cX8_way 71 = .ok (.iaload, 1) := by decide +kernel
theorem dX8_way_72 : decode cX8_way 72 = .ok (.invokevirtual 117, 3) := by decide +kernel
theorem dX8_way_75 : decode cX8_way 75 = .ok (.istore 6, 2) := by decide +kernel
theorem dX8_way_77 : decode cX8_way 77 = .ok (.aload_n 0, 1) := by decide +kernel
theorem dX8_way_78 : decode cX8_way 78 = .ok (.getfield 17, 3) := by decide +kernel
theorem dX8_way_81 : decode cX8_way 81 = .ok (.iload 5, 2) := by decide +kernel
theorem dX8_way_83 : decode cX8_way 83 = .ok (.iaload, 1) := by decide +kernel
theorem dX8_way_84 : decode cX8_way 84 = .ok (.iload_n 3, 1) := by decide +kernel
theorem dX8_way_85 : decode cX8_way 85 = .ok (.if_icmp .ne 51, 3) := by decide +kernel
theorem dX8_way_88 : decode cX8_way 88 = .ok (.iload 6, 2) := by decide +kernel
theorem dX8_way_90 : decode cX8_way 90 = .ok (.iconst (-1), 1) := by decide +kernel
theorem dX8_way_91 : decode cX8_way 91 = .ok (.if_icmp .eq 25, 3) := by decide +kernel
theorem dX8_way_94 : decode cX8_way 94 = .ok (.aload_n 0, 1) := by decide +kernel
theorem dX8_way_95 : decode cX8_way 95 = .ok (.getfield 20, 3) := by decide +kernel
theorem dX8_way_98 : decode cX8_way 98 = .ok (.bipush 64, 2) := by decide +kernel
theorem dX8_way_100 : decode cX8_way 100 = .ok (.iload_n 1, 1) := by decide +kernel
theorem dX8_way_101 : decode cX8_way 101 = .ok (.imul, 1) := by decide +kernel
theorem dX8_way_102 : decode cX8_way 102 = .ok (.iload 6, 2) := by decide +kernel
theorem dX8_way_104 : decode cX8_way 104 = .ok (.iadd, 1) := by decide +kernel
theorem dX8_way_105 : decode cX8_way 105 = .ok (.iaload, 1) := by decide +kernel
theorem dX8_way_106 : decode cX8_way 106 = .ok (.aload_n 0, 1) := by decide +kernel
theorem dX8_way_107 : decode cX8_way 107 = .ok (.getfield 20, 3) := by decide +kernel
theorem dX8_way_110 : decode cX8_way 110 = .ok (.iload 5, 2) := by decide +kernel
theorem dX8_way_112 : decode cX8_way 112 = .ok (.iaload, 1) := by decide +kernel
theorem dX8_way_113 : decode cX8_way 113 = .ok (.if_icmp .eq 23, 3) := by decide +kernel
theorem dX8_way_116 : decode cX8_way 116 = .ok (.aload_n 0, 1) := by decide +kernel
theorem dX8_way_117 : decode cX8_way 117 = .ok (.iconst 1, 1) := by decide +kernel
theorem dX8_way_118 : decode cX8_way 118 = .ok (.aload_n 0, 1) := by decide +kernel
theorem dX8_way_119 : decode cX8_way 119 = .ok (.getfield 13, 3) := by decide +kernel
theorem dX8_way_122 : decode cX8_way 122 = .ok (.iload 5, 2) := by decide +kernel
theorem dX8_way_124 : decode cX8_way 124 = .ok (.laload, 1) := by decide +kernel
theorem dX8_way_125 : decode cX8_way 125 = .ok (.iload_n 3, 1) := by decide +kernel
theorem dX8_way_126 : decode cX8_way 126 = .ok (.aload_n 0, 1) := by decide +kernel
theorem dX8_way_127 : decode cX8_way 127 = .ok (.getfield 20, 3) := by decide +kernel
theorem dX8_way_130 : decode cX8_way 130 = .ok (.iload 5, 2) := by decide +kernel
theorem dX8_way_132 : decode cX8_way 132 = .ok (.iaload, 1) := by decide +kernel
theorem dX8_way_133 : decode cX8_way 133 = .ok (.invokevirtual 206, 3) := by decide +kernel
theorem dX8_way_136 : decode cX8_way 136 = .ok (.iinc 4 1, 3) := by decide +kernel
theorem dX8_way_139 : decode cX8_way 139 = .ok (.goto (-103), 3) := by decide +kernel
theorem dX8_way_142 : decode cX8_way 142 = .ok (.iinc 3 (-1), 3) := by decide +kernel
theorem dX8_way_145 : decode cX8_way 145 = .ok (.goto (-116), 3) := by decide +kernel
theorem dX8_way_148 : decode cX8_way 148 = .ok (.iconst 0, 1) := by decide +kernel
theorem dX8_way_149 : decode cX8_way 149 = .ok (.istore_n 3, 1) := by decide +kernel
theorem dX8_way_150 : decode cX8_way 150 = .ok (.iload_n 3, 1) := by decide +kernel
theorem dX8_way_151 : decode cX8_way 151 = .ok (.bipush 32, 2) := by decide +kernel
theorem dX8_way_153 : decode cX8_way 153 = .ok (.if_icmp .gt 86, 3) := by decide +kernel
theorem dX8_way_156 : decode cX8_way 156 = .ok (.iconst 0, 1) := by decide +kernel
theorem dX8_way_157 : decode cX8_way 157 = .ok (.istore 4, 2) := by decide +kernel
theorem dX8_way_159 : decode cX8_way 159 = .ok (.iload 4, 2) := by decide +kernel
theorem dX8_way_161 : decode cX8_way 161 = .ok (.aload_n 0, 1) := by decide +kernel
theorem dX8_way_162 : decode cX8_way 162 = .ok (.getfield 7, 3) := by decide +kernel
theorem dX8_way_165 : decode cX8_way 165 = .ok (.iload_n 1, 1) := by decide +kernel
theorem dX8_way_166 : decode cX8_way 166 = .ok (.iaload, 1) := by decide +kernel
theorem dX8_way_167 : decode cX8_way 167 = .ok (.if_icmp .ge 66, 3) := by decide +kernel
theorem dX8_way_170 : decode cX8_way 170 = .ok (.bipush 64, 2) := by decide +kernel
theorem dX8_way_172 : decode cX8_way 172 = .ok (.iload_n 1, 1) := by decide +kernel
theorem dX8_way_173 : decode cX8_way 173 = .ok (.imul, 1) := by decide +kernel
theorem dX8_way_174 : decode cX8_way 174 = .ok (.iload 4, 2) := by decide +kernel
theorem dX8_way_176 : decode cX8_way 176 = .ok (.iadd, 1) := by decide +kernel
theorem dX8_way_177 : decode cX8_way 177 = .ok (.istore 5, 2) := by decide +kernel
theorem dX8_way_179 : decode cX8_way 179 = .ok (.aload_n 0, 1) := by decide +kernel
theorem dX8_way_180 : decode cX8_way 180 = .ok (.getfield 17, 3) := by decide +kernel
theorem dX8_way_183 : decode cX8_way 183 = .ok (.iload 5, 2) := by decide +kernel
theorem dX8_way_185 : decode cX8_way 185 = .ok (.iaload, 1) := by decide +kernel
theorem dX8_way_186 : decode cX8_way 186 = .ok (.iload_n 3, 1) := by decide +kernel
theorem dX8_way_187 : decode cX8_way 187 = .ok (.if_icmp .ne 40, 3) := by decide +kernel
theorem dX8_way_190 : decode cX8_way 190 = .ok (.aload_n 0, 1) := by decide +kernel
theorem dX8_way_191 : decode cX8_way 191 = .ok (.iload_n 2, 1) := by decide +kernel
theorem dX8_way_192 : decode cX8_way 192 = .ok (.aload_n 0, 1) := by decide +kernel
theorem dX8_way_193 : decode cX8_way 193 = .ok (.getfield 13, 3) := by decide +kernel
theorem dX8_way_196 : decode cX8_way 196 = .ok (.iload 5, 2) := by decide +kernel
theorem dX8_way_198 : decode cX8_way 198 = .ok (.laload, 1) := by decide +kernel
theorem dX8_way_199 : decode cX8_way 199 = .ok (.iload_n 3, 1) := by decide +kernel
theorem dX8_way_200 : decode cX8_way 200 = .ok (.invokevirtual 117, 3) := by decide +kernel
theorem dX8_way_203 : decode cX8_way 203 = .ok (.iconst (-1), 1) := by decide +kernel
theorem dX8_way_204 : decode cX8_way 204 = .ok (.if_icmp .ne 23, 3) := by decide +kernel
theorem dX8_way_207 : decode cX8_way 207 = .ok (.aload_n 0, 1) := by decide +kernel
theorem dX8_way_208 : decode cX8_way 208 = .ok (.iconst 0, 1) := by decide +kernel
theorem dX8_way_209 : decode cX8_way 209 = .ok (.aload_n 0, 1) := by decide +kernel
theorem dX8_way_210 : decode cX8_way 210 = .ok (.getfield 13, 3) := by decide +kernel
theorem dX8_way_213 : decode cX8_way 213 = .ok (.iload 5, 2) := by decide +kernel
theorem dX8_way_215 : decode cX8_way 215 = .ok (.laload, 1) := by decide +kernel
theorem dX8_way_216 : decode cX8_way 216 = .ok (.iload_n 3, 1) := by decide +kernel
theorem dX8_way_217 : decode cX8_way 217 = .ok (.aload_n 0, 1) := by decide +kernel
theorem dX8_way_218 : decode cX8_way 218 = .ok (.getfield 20, 3) := by decide +kernel
theorem dX8_way_221 : decode cX8_way 221 = .ok (.iload 5, 2) := by decide +kernel
theorem dX8_way_223 : decode cX8_way 223 = .ok (.iaload, 1) := by decide +kernel
theorem dX8_way_224 : decode cX8_way 224 = .ok (.invokevirtual 206, 3) := by decide +kernel
theorem dX8_way_227 : decode cX8_way 227 = .ok (.iinc 4 1, 3) := by decide +kernel
theorem dX8_way_230 : decode cX8_way 230 = .ok (.goto (-71), 3) := by decide +kernel
theorem dX8_way_233 : decode cX8_way 233 = .ok (.iinc 3 1, 3) := by decide +kernel
theorem dX8_way_236 : decode cX8_way 236 = .ok (.goto (-86), 3) := by decide +kernel
theorem dX8_way_239 : decode cX8_way 239 = .ok (.aload_n 0, 1) := by decide +kernel
theorem dX8_way_240 : decode cX8_way 240 = .ok (.aload_n 0, 1) := by decide +kernel
theorem dX8_way_241 : decode cX8_way 241 = .ok (.getfield 7, 3) := by decide +kernel
theorem dX8_way_244 : decode cX8_way 244 = .ok (.iload_n 1, 1) := by decide +kernel
theorem dX8_way_245 : decode cX8_way 245 = .ok (.iaload, 1) := by decide +kernel
theorem dX8_way_246 : decode cX8_way 246 = .ok (.putfield 209, 3) := by decide +kernel
theorem dX8_way_249 : decode cX8_way 249 = .ok (.iconst 0, 1) := by decide +kernel
theorem dX8_way_250 : decode cX8_way 250 = .ok (.istore_n 3, 1) := by decide +kernel
theorem dX8_way_251 : decode cX8_way 251 = .ok (.iload_n 3, 1) := by decide +kernel
theorem dX8_way_252 : decode cX8_way 252 = .ok (.aload_n 0, 1) := by decide +kernel
theorem dX8_way_253 : decode cX8_way 253 = .ok (.getfield 7, 3) := by decide +kernel
theorem dX8_way_256 : decode cX8_way 256 = .ok (.iload_n 1, 1) := by decide +kernel
theorem dX8_way_257 : decode cX8_way 257 = .ok (.iaload, 1) := by decide +kernel
theorem dX8_way_258 : decode cX8_way 258 = .ok (.if_icmp .ge 60, 3) := by decide +kernel
theorem dX8_way_261 : decode cX8_way 261 = .ok (.aload_n 0, 1) := by decide +kernel
theorem dX8_way_262 : decode cX8_way 262 = .ok (.getfield 77, 3) := by decide +kernel
theorem dX8_way_265 : decode cX8_way 265 = .ok (.iload_n 3, 1) := by decide +kernel
theorem dX8_way_266 : decode cX8_way 266 = .ok (.aload_n 0, 1) := by decide +kernel
theorem dX8_way_267 : decode cX8_way 267 = .ok (.getfield 13, 3) := by decide +kernel
theorem dX8_way_270 : decode cX8_way 270 = .ok (.bipush 64, 2) := by decide +kernel
theorem dX8_way_272 : decode cX8_way 272 = .ok (.iload_n 1, 1) := by decide +kernel
theorem dX8_way_273 : decode cX8_way 273 = .ok (.imul, 1) := by decide +kernel
theorem dX8_way_274 : decode cX8_way 274 = .ok (.iload_n 3, 1) := by decide +kernel
theorem dX8_way_275 : decode cX8_way 275 = .ok (.iadd, 1) := by decide +kernel
theorem dX8_way_276 : decode cX8_way 276 = .ok (.laload, 1) := by decide +kernel
theorem dX8_way_277 : decode cX8_way 277 = .ok (.lastore, 1) := by decide +kernel
theorem dX8_way_278 : decode cX8_way 278 = .ok (.aload_n 0, 1) := by decide +kernel
theorem dX8_way_279 : decode cX8_way 279 = .ok (.getfield 80, 3) := by decide +kernel
theorem dX8_way_282 : decode cX8_way 282 = .ok (.iload_n 3, 1) := by decide +kernel
theorem dX8_way_283 : decode cX8_way 283 = .ok (.aload_n 0, 1) := by decide +kernel
theorem dX8_way_284 : decode cX8_way 284 = .ok (.getfield 17, 3) := by decide +kernel
theorem dX8_way_287 : decode cX8_way 287 = .ok (.bipush 64, 2) := by decide +kernel
theorem dX8_way_289 : decode cX8_way 289 = .ok (.iload_n 1, 1) := by decide +kernel
theorem dX8_way_290 : decode cX8_way 290 = .ok (.imul, 1) := by decide +kernel
theorem dX8_way_291 : decode cX8_way 291 = .ok (.iload_n 3, 1) := by decide +kernel
theorem dX8_way_292 : decode cX8_way 292 = .ok (.iadd, 1) := by decide +kernel
theorem dX8_way_293 : decode cX8_way 293 = .ok (.iaload, 1) := by decide +kernel
theorem dX8_way_294 : decode cX8_way 294 = .ok (.iastore, 1) := by decide +kernel
theorem dX8_way_295 : decode cX8_way 295 = .ok (.aload_n 0, 1) := by decide +kernel
theorem dX8_way_296 : decode cX8_way 296 = .ok (.getfield 83, 3) := by decide +kernel
theorem dX8_way_299 : decode cX8_way 299 = .ok (.iload_n 3, 1) := by decide +kernel
theorem dX8_way_300 : decode cX8_way 300 = .ok (.aload_n 0, 1) := by decide +kernel
theorem dX8_way_301 : decode cX8_way 301 = .ok (.getfield 20, 3) := by decide +kernel
theorem dX8_way_304 : decode cX8_way 304 = .ok (.bipush 64, 2) := by decide +kernel
theorem dX8_way_306 : decode cX8_way 306 = .ok (.iload_n 1, 1) := by decide +kernel
theorem dX8_way_307 : decode cX8_way 307 = .ok (.imul, 1) := by decide +kernel
theorem dX8_way_308 : decode cX8_way 308 = .ok (.iload_n 3, 1) := by decide +kernel
theorem dX8_way_309 : decode cX8_way 309 = .ok (.iadd, 1) := by decide +kernel
theorem dX8_way_310 : decode cX8_way 310 = .ok (.iaload, 1) := by decide +kernel
theorem dX8_way_311 : decode cX8_way 311 = .ok (.iastore, 1) := by decide +kernel
theorem dX8_way_312 : decode cX8_way 312 = .ok (.iinc 3 1, 3) := by decide +kernel
theorem dX8_way_315 : decode cX8_way 315 = .ok (.goto (-64), 3) := by decide +kernel
theorem dX8_way_318 : decode cX8_way 318 = .ok (.aload_n 0, 1) := by decide +kernel
theorem dX8_way_319 : decode cX8_way 319 = .ok (.getfield 199, 3) := by decide +kernel
theorem dX8_way_322 : decode cX8_way 322 = .ok (.ireturn, 1) := by decide +kernel
set_option maxRecDepth 20000 in
theorem ggX8_step__X8_lies : GoodIn wsX8_step_ wsX8_lies := goodIn_r _ [11] (by decide +kernel) (by decide +kernel)
set_option maxRecDepth 20000 in
theorem gX8_step__X8_lies : GoodIn wsX8_step_ (va_wsS RX8 92 yX8_lies wsX8_lies) := goodIn_app (goodIn_of _ (by decide +kernel)) ggX8_step__X8_lies
theorem dX8_step__0 : decode cX8_step_ 0 = .ok (.aload_n 0, 1) := by decide +kernel
theorem dX8_step__1 : decode cX8_step_ 1 = .ok (.getfield 202, 3) := by decide +kernel
theorem dX8_step__4 : decode cX8_step_ 4 = .ok (.ifCond .eq 17, 3) := by decide +kernel
theorem dX8_step__7 : decode cX8_step_ 7 = .ok (.iload_n 1, 1) := by decide +kernel
theorem dX8_step__8 : decode cX8_step_ 8 = .ok (.iconst 0, 1) := by decide +kernel
theorem dX8_step__9 : decode cX8_step_ 9 = .ok (.aload_n 0, 1) := by decide +kernel
theorem dX8_step__10 : decode cX8_step_ 10 = .ok (.getfield 199, 3) := by decide +kernel
theorem dX8_step__13 : decode cX8_step_ 13 = .ok (.iconst 1, 1) := by decide +kernel
theorem dX8_step__14 : decode cX8_step_ 14 = .ok (.isub, 1) := by decide +kernel
theorem dX8_step__15 : decode cX8_step_ 15 = .ok (.invokestatic 92, 3) := by decide +kernel
theorem dX8_step__18 : decode cX8_step_ 18 = .ok (.ifCond .ne 7, 3) := by decide +kernel
theorem dX8_step__21 : decode cX8_step_ 21 = .ok (.ldc2_w 124, 3) := by decide +kernel
theorem dX8_step__24 : decode cX8_step_ 24 = .ok (.lreturn, 1) := by decide +kernel
theorem dX8_step__25 : decode cX8_step_ 25 = .ok (.iload_n 2, 1) := by decide +kernel
theorem dX8_step__26 : decode cX8_step_ 26 = .ok (.tableswitch 61 0 3 #[30, 38, 45, 53], 30) := by decide +kernel
theorem dX8_step__56 : decode cX8_step_ 56 = .ok (.aload_n 0, 1) := by decide +kernel
theorem dX8_step__57 : decode cX8_step_ 57 = .ok (.getfield 65, 3) := by decide +kernel
theorem dX8_step__60 : decode cX8_step_ 60 = .ok (.iload_n 1, 1) := by decide +kernel
theorem dX8_step__61 : decode cX8_step_ 61 = .ok (.iaload, 1) := by decide +kernel
theorem dX8_step__62 : decode cX8_step_ 62 = .ok (.i2l, 1) := by decide +kernel
theorem dX8_step__63 : decode cX8_step_ 63 = .ok (.lreturn, 1) := by decide +kernel
theorem dX8_step__64 : decode cX8_step_ 64 = .ok (.aload_n 0, 1) := by decide +kernel
theorem dX8_step__65 : decode cX8_step_ 65 = .ok (.getfield 68, 3) := by decide +kernel
theorem dX8_step__68 : decode cX8_step_ 68 = .ok (.iload_n 1, 1) := by decide +kernel
theorem dX8_step__69 : decode cX8_step_ 69 = .ok (.laload, 1) := by decide +kernel
theorem dX8_step__70 : decode cX8_step_ 70 = .ok (.lreturn, 1) := by decide +kernel
theorem dX8_step__71 : decode cX8_step_ 71 = .ok (.aload_n 0, 1) := by decide +kernel
theorem dX8_step__72 : decode cX8_step_ 72 = .ok (.getfield 71, 3) := by decide +kernel
theorem dX8_step__75 : decode cX8_step_ 75 = .ok (.iload_n 1, 1) := by decide +kernel
theorem dX8_step__76 : decode cX8_step_ 76 = .ok (.iaload, 1) := by decide +kernel
theorem dX8_step__77 : decode cX8_step_ 77 = .ok (.i2l, 1) := by decide +kernel
theorem dX8_step__78 : decode cX8_step_ 78 = .ok (.lreturn, 1) := by decide +kernel
theorem dX8_step__79 : decode cX8_step_ 79 = .ok (.aload_n 0, 1) := by decide +kernel
theorem dX8_step__80 : decode cX8_step_ 80 = .ok (.getfield 74, 3) := by decide +kernel
theorem dX8_step__83 : decode cX8_step_ 83 = .ok (.iload_n 1, 1) := by decide +kernel
theorem dX8_step__84 : decode cX8_step_ 84 = .ok (.iaload, 1) := by decide +kernel
theorem dX8_step__85 : decode cX8_step_ 85 = .ok (.i2l, 1) := by decide +kernel
theorem dX8_step__86 : decode cX8_step_ 86 = .ok (.lreturn, 1) := by decide +kernel
theorem dX8_step__87 : decode cX8_step_ 87 = .ok (.ldc2_w 124, 3) := by decide +kernel
theorem dX8_step__90 : decode cX8_step_ 90 = .ok (.lreturn, 1) := by decide +kernel
theorem dX8_done_0 : decode cX8_done 0 = .ok (.bipush (-2), 2) := by decide +kernel
theorem dX8_done_2 : decode cX8_done 2 = .ok (.istore 5, 2) := by decide +kernel
theorem dX8_done_4 : decode cX8_done 4 = .ok (.iconst 0, 1) := by decide +kernel
theorem dX8_done_5 : decode cX8_done 5 = .ok (.istore 6, 2) := by decide +kernel
theorem dX8_done_7 : decode cX8_done 7 = .ok (.iload 6, 2) := by decide +kernel
theorem dX8_done_9 : decode cX8_done 9 = .ok (.iload_n 1, 1) := by decide +kernel
theorem dX8_done_10 : decode cX8_done 10 = .ok (.if_icmp .ge 57, 3) := by decide +kernel
theorem dX8_done_13 : decode cX8_done 13 = .ok (.aload_n 0, 1) := by decide +kernel
theorem dX8_done_14 : decode cX8_done 14 = .ok (.getfield 68, 3) := by decide +kernel
theorem dX8_done_17 : decode cX8_done 17 = .ok (.iload 6, 2) := by decide +kernel
theorem dX8_done_19 : decode cX8_done 19 = .ok (.laload, 1) := by decide +kernel
theorem dX8_done_20 : decode cX8_done 20 = .ok (.lload_n 2, 1) := by decide +kernel
theorem dX8_done_21 : decode cX8_done 21 = .ok (.lcmp, 1) := by decide +kernel
theorem dX8_done_22 : decode cX8_done 22 = .ok (.ifCond .ne 39, 3) := by decide +kernel
theorem dX8_done_25 : decode cX8_done 25 = .ok (.aload_n 0, 1) := by decide +kernel
theorem dX8_done_26 : decode cX8_done 26 = .ok (.getfield 71, 3) := by decide +kernel
theorem dX8_done_29 : decode cX8_done 29 = .ok (.iload 6, 2) := by decide +kernel
theorem dX8_done_31 : decode cX8_done 31 = .ok (.iaload, 1) := by decide +kernel
theorem dX8_done_32 : decode cX8_done 32 = .ok (.iload 4, 2) := by decide +kernel
theorem dX8_done_34 : decode cX8_done 34 = .ok (.if_icmp .ne 27, 3) := by decide +kernel
theorem dX8_done_37 : decode cX8_done 37 = .ok (.aload_n 0, 1) := by decide +kernel
theorem dX8_done_38 : decode cX8_done 38 = .ok (.getfield 65, 3) := by decide +kernel
theorem dX8_done_41 : decode cX8_done 41 = .ok (.iload 6, 2) := by decide +kernel
theorem dX8_done_43 : decode cX8_done 43 = .ok (.iaload, 1) := by decide +kernel
theorem dX8_done_44 : decode cX8_done 44 = .ok (.iconst 1, 1) := by decide +kernel
theorem dX8_done_45 : decode cX8_done 45 = .ok (.if_icmp .ne 13, 3) := by decide +kernel
theorem dX8_done_48 : decode cX8_done 48 = .ok (.aload_n 0, 1) := by decide +kernel
theorem dX8_done_49 : decode cX8_done 49 = .ok (.getfield 74, 3) := by decide +kernel
theorem dX8_done_52 : decode cX8_done 52 = .ok (.iload 6, 2) := by decide +kernel
theorem dX8_done_54 : decode cX8_done 54 = .ok (.iaload, 1) := by decide +kernel
theorem dX8_done_55 : decode cX8_done 55 = .ok (.goto 4, 3) := by decide +kernel
theorem dX8_done_58 : decode cX8_done 58 = .ok (.iconst (-1), 1) := by decide +kernel
theorem dX8_done_59 : decode cX8_done 59 = .ok (.istore 5, 2) := by decide +kernel
theorem dX8_done_61 : decode cX8_done 61 = .ok (.iinc 6 1, 3) := by decide +kernel
theorem dX8_done_64 : decode cX8_done 64 = .ok (.goto (-57), 3) := by decide +kernel
theorem dX8_done_67 : decode cX8_done 67 = .ok (.iload 5, 2) := by decide +kernel
theorem dX8_done_69 : decode cX8_done 69 = .ok (.ireturn, 1) := by decide +kernel
set_option maxRecDepth 20000 in
theorem ggX8_led_X8_lies : GoodIn wsX8_led wsX8_lies := goodIn_r _ [14] (by decide +kernel) (by decide +kernel)
set_option maxRecDepth 20000 in
theorem gX8_led_X8_lies : GoodIn wsX8_led (va_wsS RX8 92 yX8_lies wsX8_lies) := goodIn_app (goodIn_of _ (by decide +kernel)) ggX8_led_X8_lies
set_option maxRecDepth 20000 in
theorem ggX8_led_X8_number : GoodIn wsX8_led wsX8_number := goodIn_r _ [17, 18] (by decide +kernel) (by decide +kernel)
set_option maxRecDepth 20000 in
theorem gX8_led_X8_number : GoodIn wsX8_led (va_wsS RX8 98 yX8_number wsX8_number) := goodIn_app (goodIn_of _ (by decide +kernel)) ggX8_led_X8_number
set_option maxRecDepth 20000 in
theorem ggX8_led_X8_done : GoodIn wsX8_led wsX8_done := goodIn_r _ [22, 8, 9, 7, 10, 29, 30, 31, 32, 33, 34, 35, 36, 37, 38, 39, 40, 41, 42, 43, 44, 45, 46, 47, 48, 49, 50, 51, 52, 53, 54, 55, 56, 57, 58, 59, 60, 61, 62] (by decide +kernel) (by decide +kernel)
set_option maxRecDepth 20000 in
theorem gX8_led_X8_done : GoodIn wsX8_led (wsV RX8 212 RX8 yX8_done wsX8_done) := goodIn_app (goodIn_of _ (by decide +kernel)) ggX8_led_X8_done
set_option maxRecDepth 20000 in
theorem ggX8_led_X8_begins : GoodIn wsX8_led wsX8_begins := goodIn_r _ [25, 26, 27, 13, 28] (by decide +kernel) (by decide +kernel)
set_option maxRecDepth 20000 in
theorem gX8_led_X8_begins : GoodIn wsX8_led (va_wsS RX8 126 yX8_begins wsX8_begins) := goodIn_app (goodIn_of _ (by decide +kernel)) ggX8_led_X8_begins
theorem dX8_led_0 : decode cX8_led 0 = .ok (.aload_n 0, 1) := by decide +kernel
theorem dX8_led_1 : decode cX8_led 1 = .ok (.getfield 202, 3) := by decide +kernel
theorem dX8_led_4 : decode cX8_led 4 = .ok (.ifCond .eq 15, 3) := by decide +kernel
theorem dX8_led_7 : decode cX8_led 7 = .ok (.iload_n 1, 1) := by decide +kernel
theorem dX8_led_8 : decode cX8_led 8 = .ok (.iconst 0, 1) := by decide +kernel
theorem dX8_led_9 : decode cX8_led 9 = .ok (.aload_n 0, 1) := by decide +kernel
theorem dX8_led_10 : decode cX8_led 10 = .ok (.getfield 199, 3) := by decide +kernel
theorem dX8_led_13 : decode cX8_led 13 = .ok (.invokestatic 92, 3) := by decide +kernel
theorem dX8_led_16 : decode cX8_led 16 = .ok (.ifCond .ne 5, 3) := by decide +kernel
theorem dX8_led_19 : decode cX8_led 19 = .ok (.iconst (-1), 1) := by decide +kernel
theorem dX8_led_20 : decode cX8_led 20 = .ok (.ireturn, 1) := by decide +kernel
theorem dX8_led_21 : decode cX8_led 21 = .ok (.iload_n 2, 1) := by decide +kernel
theorem dX8_led_22 : decode cX8_led 22 = .ok (.invokestatic 98, 3) := by decide +kernel
theorem dX8_led_25 : decode cX8_led 25 = .ok (.lstore_n 3, 1) := by decide +kernel
theorem dX8_led_26 : decode cX8_led 26 = .ok (.iconst (-1), 1) := by decide +kernel
theorem dX8_led_27 : decode cX8_led 27 = .ok (.istore 5, 2) := by decide +kernel
theorem dX8_led_29 : decode cX8_led 29 = .ok (.bipush 16, 2) := by decide +kernel
theorem dX8_led_31 : decode cX8_led 31 = .ok (.istore 6, 2) := by decide +kernel
theorem dX8_led_33 : decode cX8_led 33 = .ok (.iconst 0, 1) := by decide +kernel
theorem dX8_led_34 : decode cX8_led 34 = .ok (.istore 7, 2) := by decide +kernel
theorem dX8_led_36 : decode cX8_led 36 = .ok (.iload 7, 2) := by decide +kernel
theorem dX8_led_38 : decode cX8_led 38 = .ok (.aload_n 0, 1) := by decide +kernel
theorem dX8_led_39 : decode cX8_led 39 = .ok (.getfield 209, 3) := by decide +kernel
theorem dX8_led_42 : decode cX8_led 42 = .ok (.if_icmp .ge 102, 3) := by decide +kernel
theorem dX8_led_45 : decode cX8_led 45 = .ok (.aload_n 0, 1) := by decide +kernel
theorem dX8_led_46 : decode cX8_led 46 = .ok (.iload_n 1, 1) := by decide +kernel
theorem dX8_led_47 : decode cX8_led 47 = .ok (.aload_n 0, 1) := by decide +kernel
theorem dX8_led_48 : decode cX8_led 48 = .ok (.getfield 77, 3) := by decide +kernel
theorem dX8_led_51 : decode cX8_led 51 = .ok (.iload 7, 2) := by decide +kernel
theorem dX8_led_53 : decode cX8_led 53 = .ok (.laload, 1) := by decide +kernel
theorem dX8_led_54 : decode cX8_led 54 = .ok (.aload_n 0, 1) := by decide +kernel
theorem dX8_led_55 : decode cX8_led 55 = .ok (.getfield 80, 3) := by decide +kernel
theorem dX8_led_58 : decode cX8_led 58 = .ok (.iload 7, 2) := by decide +kernel
theorem dX8_led_60 : decode cX8_led 60 = .ok (.iaload, 1) := by decide +kernel
theorem dX8_led_61 : decode cX8_led 61 = .ok (.invokevirtual 212, 3) := by decide +kernel
theorem dX8_led_64 : decode cX8_led 64 = .ok (.istore 8, 2) := by decide +kernel
theorem dX8_led_66 : decode cX8_led 66 = .ok (.iload 8, 2) := by decide +kernel
theorem dX8_led_68 : decode cX8_led 68 = .ok (.iconst (-1), 1) := by decide +kernel
theorem dX8_led_69 : decode cX8_led 69 = .ok (.if_icmp .eq 69, 3) := by decide +kernel
theorem dX8_led_72 : decode cX8_led 72 = .ok (.lload_n 3, 1) := by decide +kernel
theorem dX8_led_73 : decode cX8_led 73 = .ok (.aload_n 0, 1) := by decide +kernel
theorem dX8_led_74 : decode cX8_led 74 = .ok (.getfield 77, 3) := by decide +kernel
theorem dX8_led_77 : decode cX8_led 77 = .ok (.iload 7, 2) := by decide +kernel
theorem dX8_led_79 : decode cX8_led 79 = .ok (.laload, 1) := by decide +kernel
theorem dX8_led_80 : decode cX8_led 80 = .ok (.aload_n 0, 1) := by decide +kernel
theorem dX8_led_81 : decode cX8_led 81 = .ok (.getfield 80, 3) := by decide +kernel
theorem dX8_led_84 : decode cX8_led 84 = .ok (.iload 7, 2) := by decide +kernel
theorem dX8_led_86 : decode cX8_led 86 = .ok (.iaload, 1) := by decide +kernel
theorem dX8_led_87 : decode cX8_led 87 = .ok (.invokestatic 126, 3) := by decide +kernel
theorem dX8_led_90 : decode cX8_led 90 = .ok (.ifCond .eq 48, 3) := by decide +kernel
theorem dX8_led_93 : decode cX8_led 93 = .ok (.aload_n 0, 1) := by decide +kernel
theorem dX8_led_94 : decode cX8_led 94 = .ok (.getfield 80, 3) := by decide +kernel
theorem dX8_led_97 : decode cX8_led 97 = .ok (.iload 7, 2) := by decide +kernel
theorem dX8_led_99 : decode cX8_led 99 = .ok (.iaload, 1) := by decide +kernel
theorem dX8_led_100 : decode cX8_led 100 = .ok (.iload 5, 2) := by decide +kernel
theorem dX8_led_102 : decode cX8_led 102 = .ok (.if_icmp .gt 6, 3) := by decide +kernel
theorem dX8_led_105 : decode cX8_led 105 = .ok (.goto 33, 3) := by decide +kernel
theorem dX8_led_108 : decode cX8_led 108 = .ok (.aload_n 0, 1) := by decide +kernel
theorem dX8_led_109 : decode cX8_led 109 = .ok (.getfield 80, 3) := by decide +kernel
theorem dX8_led_112 : decode cX8_led 112 = .ok (.iload 7, 2) := by decide +kernel
theorem dX8_led_114 : decode cX8_led 114 = .ok (.iaload, 1) := by decide +kernel
theorem dX8_led_115 : decode cX8_led 115 = .ok (.istore 5, 2) := by decide +kernel
theorem dX8_led_117 : decode cX8_led 117 = .ok (.iload 8, 2) := by decide +kernel
theorem dX8_led_119 : decode cX8_led 119 = .ok (.bipush (-2), 2) := by decide +kernel
theorem dX8_led_121 : decode cX8_led 121 = .ok (.if_icmp .ne 13, 3) := by decide +kernel
theorem dX8_led_124 : decode cX8_led 124 = .ok (.aload_n 0, 1) := by decide +kernel
theorem dX8_led_125 : decode cX8_led 125 = .ok (.getfield 83, 3) := by decide +kernel
theorem dX8_led_128 : decode cX8_led 128 = .ok (.iload 7, 2) := by decide +kernel
theorem dX8_led_130 : decode cX8_led 130 = .ok (.iaload, 1) := by decide +kernel
theorem dX8_led_131 : decode cX8_led 131 = .ok (.goto 5, 3) := by decide +kernel
theorem dX8_led_134 : decode cX8_led 134 = .ok (.iload 8, 2) := by decide +kernel
theorem dX8_led_136 : decode cX8_led 136 = .ok (.istore 6, 2) := by decide +kernel
theorem dX8_led_138 : decode cX8_led 138 = .ok (.iinc 7 1, 3) := by decide +kernel
theorem dX8_led_141 : decode cX8_led 141 = .ok (.goto (-105), 3) := by decide +kernel
theorem dX8_led_144 : decode cX8_led 144 = .ok (.iconst 0, 1) := by decide +kernel
theorem dX8_led_145 : decode cX8_led 145 = .ok (.istore 7, 2) := by decide +kernel
theorem dX8_led_147 : decode cX8_led 147 = .ok (.iload 7, 2) := by decide +kernel
theorem dX8_led_149 : decode cX8_led 149 = .ok (.iload_n 1, 1) := by decide +kernel
theorem dX8_led_150 : decode cX8_led 150 = .ok (.if_icmp .ge 73, 3) := by decide +kernel
theorem dX8_led_153 : decode cX8_led 153 = .ok (.aload_n 0, 1) := by decide +kernel
theorem dX8_led_154 : decode cX8_led 154 = .ok (.getfield 65, 3) := by decide +kernel
theorem dX8_led_157 : decode cX8_led 157 = .ok (.iload 7, 2) := by decide +kernel
theorem dX8_led_159 : decode cX8_led 159 = .ok (.iaload, 1) := by decide +kernel
theorem dX8_led_160 : decode cX8_led 160 = .ok (.ifCond .eq 57, 3) := by decide +kernel
theorem dX8_led_163 : decode cX8_led 163 = .ok (.lload_n 3, 1) := by decide +kernel
theorem dX8_led_164 : decode cX8_led 164 = .ok (.aload_n 0, 1) := by decide +kernel
theorem dX8_led_165 : decode cX8_led 165 = .ok (.getfield 68, 3) := by decide +kernel
theorem dX8_led_168 : decode cX8_led 168 = .ok (.iload 7, 2) := by decide +kernel
theorem dX8_led_170 : decode cX8_led 170 = .ok (.laload, 1) := by decide +kernel
theorem dX8_led_171 : decode cX8_led 171 = .ok (.aload_n 0, 1) := by decide +kernel
theorem dX8_led_172 : decode cX8_led 172 = .ok (.getfield 71, 3) := by decide +kernel
theorem dX8_led_175 : decode cX8_led 175 = .ok (.iload 7, 2) := by decide +kernel
theorem dX8_led_177 : decode cX8_led 177 = .ok (.iaload, 1) := by decide +kernel
theorem dX8_led_178 : decode cX8_led 178 = .ok (.invokestatic 126, 3) := by decide +kernel
theorem dX8_led_181 : decode cX8_led 181 = .ok (.ifCond .eq 36, 3) := by decide +kernel
theorem dX8_led_184 : decode cX8_led 184 = .ok (.aload_n 0, 1) := by decide +kernel
theorem dX8_led_185 : decode cX8_led 185 = .ok (.getfield 71, 3) := by decide +kernel
theorem dX8_led_188 : decode cX8_led 188 = .ok (.iload 7, 2) := by decide +kernel
theorem dX8_led_190 : decode cX8_led 190 = .ok (.iaload, 1) := by decide +kernel
theorem dX8_led_191 : decode cX8_led 191 = .ok (.iload 5, 2) := by decide +kernel
theorem dX8_led_193 : decode cX8_led 193 = .ok (.if_icmp .gt 6, 3) := by decide +kernel
theorem dX8_led_196 : decode cX8_led 196 = .ok (.goto 21, 3) := by decide +kernel
theorem dX8_led_199 : decode cX8_led 199 = .ok (.aload_n 0, 1) := by decide +kernel
theorem dX8_led_200 : decode cX8_led 200 = .ok (.getfield 71, 3) := by decide +kernel
theorem dX8_led_203 : decode cX8_led 203 = .ok (.iload 7, 2) := by decide +kernel
theorem dX8_led_205 : decode cX8_led 205 = .ok (.iaload, 1) := by decide +kernel
theorem dX8_led_206 : decode cX8_led 206 = .ok (.istore 5, 2) := by decide +kernel
theorem dX8_led_208 : decode cX8_led 208 = .ok (.aload_n 0, 1) := by decide +kernel
theorem dX8_led_209 : decode cX8_led 209 = .ok (.getfield 74, 3) := by decide +kernel
theorem dX8_led_212 : decode cX8_led 212 = .ok (.iload 7, 2) := by decide +kernel
theorem dX8_led_214 : decode cX8_led 214 = .ok (.iaload, 1) := by decide +kernel
theorem dX8_led_215 : decode cX8_led 215 = .ok (.istore 6, 2) := by decide +kernel
theorem dX8_led_217 : decode cX8_led 217 = .ok (.iinc 7 1, 3) := by decide +kernel
theorem dX8_led_220 : decode cX8_led 220 = .ok (.goto (-73), 3) := by decide +kernel
theorem dX8_led_223 : decode cX8_led 223 = .ok (.iload 6, 2) := by decide +kernel
theorem dX8_led_225 : decode cX8_led 225 = .ok (.ireturn, 1) := by decide +kernel
theorem dX8_counts_0 : decode cX8_counts 0 = .ok (.iconst 0, 1) := by decide +kernel
theorem dX8_counts_1 : decode cX8_counts 1 = .ok (.istore 4, 2) := by decide +kernel
theorem dX8_counts_3 : decode cX8_counts 3 = .ok (.iload 4, 2) := by decide +kernel
theorem dX8_counts_5 : decode cX8_counts 5 = .ok (.aload_n 0, 1) := by decide +kernel
theorem dX8_counts_6 : decode cX8_counts 6 = .ok (.getfield 215, 3) := by decide +kernel
theorem dX8_counts_9 : decode cX8_counts 9 = .ok (.if_icmp .ge 33, 3) := by decide +kernel
theorem dX8_counts_12 : decode cX8_counts 12 = .ok (.aload_n 0, 1) := by decide +kernel
theorem dX8_counts_13 : decode cX8_counts 13 = .ok (.getfield 86, 3) := by decide +kernel
theorem dX8_counts_16 : decode cX8_counts 16 = .ok (.iload 4, 2) := by decide +kernel
theorem dX8_counts_18 : decode cX8_counts 18 = .ok (.laload, 1) := by decide +kernel
theorem dX8_counts_19 : decode cX8_counts 19 = .ok (.lload_n 1, 1) := by decide +kernel
theorem dX8_counts_20 : decode cX8_counts 20 = .ok (.lcmp, 1) := by decide +kernel
theorem dX8_counts_21 : decode cX8_counts 21 = .ok (.ifCond .ne 15, 3) := by decide +kernel
theorem dX8_counts_24 : decode cX8_counts 24 = .ok (.aload_n 0, 1) := by decide +kernel
theorem dX8_counts_25 : decode cX8_counts 25 = .ok (.getfield 89, 3) := by decide +kernel
theorem dX8_counts_28 : decode cX8_counts 28 = .ok (.iload 4, 2) := by decide +kernel
theorem dX8_counts_30 : decode cX8_counts 30 = .ok (.iaload, 1) := by decide +kernel
theorem dX8_counts_31 : decode cX8_counts 31 = .ok (.iload_n 3, 1) := by decide +kernel
theorem dX8_counts_32 : decode cX8_counts 32 = .ok (.if_icmp .ne 4, 3) := by decide +kernel
theorem dX8_counts_35 : decode cX8_counts 35 = .ok (.return_, 1) := by decide +kernel
theorem dX8_counts_36 : decode cX8_counts 36 = .ok (.iinc 4 1, 3) := by decide +kernel
theorem dX8_counts_39 : decode cX8_counts 39 = .ok (.goto (-36), 3) := by decide +kernel
theorem dX8_counts_42 : decode cX8_counts 42 = .ok (.aload_n 0, 1) := by decide +kernel
theorem dX8_counts_43 : decode cX8_counts 43 = .ok (.getfield 86, 3) := by decide +kernel
theorem dX8_counts_46 : decode cX8_counts 46 = .ok (.aload_n 0, 1) := by decide +kernel
theorem dX8_counts_47 : decode cX8_counts 47 = .ok (.getfield 215, 3) := by decide +kernel
theorem dX8_counts_50 : decode cX8_counts 50 = .ok (.lload_n 1, 1) := by decide +kernel
theorem dX8_counts_51 : decode cX8_counts 51 = .ok (.lastore, 1) := by decide +kernel
theorem dX8_counts_52 : decode cX8_counts 52 = .ok (.aload_n 0, 1) := by decide +kernel
theorem dX8_counts_53 : decode cX8_counts 53 = .ok (.getfield 89, 3) := by decide +kernel
theorem dX8_counts_56 : decode cX8_counts 56 = .ok (.aload_n 0, 1) := by decide +kernel
theorem dX8_counts_57 : decode cX8_counts 57 = .ok (.getfield 215, 3) := by decide +kernel
theorem dX8_counts_60 : decode cX8_counts 60 = .ok (.iload_n 3, 1) := by decide +kernel
theorem dX8_counts_61 : decode cX8_counts 61 = .ok (.iastore, 1) := by decide +kernel
theorem dX8_counts_62 : decode cX8_counts 62 = .ok (.aload_n 0, 1) := by decide +kernel
theorem dX8_counts_63 : decode cX8_counts 63 = .ok (.dup, 1) := by decide +kernel
theorem dX8_counts_64 : decode cX8_counts 64 = .ok (.getfield 215, 3) := by decide +kernel
theorem dX8_counts_67 : decode cX8_counts 67 = .ok (.iconst 1, 1) := by decide +kernel
theorem dX8_counts_68 : decode cX8_counts 68 = .ok (.iadd, 1) := by decide +kernel
theorem dX8_counts_69 : decode cX8_counts 69 = .ok (.putfield 215, 3) := by decide +kernel
theorem dX8_counts_72 : decode cX8_counts 72 = .ok (.return_, 1) := by decide +kernel
set_option maxRecDepth 20000 in
theorem ggX8_pressed_X8_counts : GoodIn wsX8_pressed wsX8_counts := goodIn_r _ [8, 9, 10, 11, 18, 19, 20, 21, 22, 23, 24, 25, 26, 27, 28, 29, 30, 31, 32, 33, 34, 35, 36, 37, 38, 39, 40, 41, 42, 43, 44, 45, 46, 47, 48, 49, 50, 51] (by decide +kernel) (by decide +kernel)
set_option maxRecDepth 20000 in
theorem gX8_pressed_X8_counts : GoodIn wsX8_pressed (wsV RX8 218 RX8 yX8_counts wsX8_counts) := goodIn_app (goodIn_of _ (by decide +kernel)) ggX8_pressed_X8_counts
set_option maxRecDepth 20000 in
theorem ggX8_pressed_X8_begins : GoodIn wsX8_pressed wsX8_begins := goodIn_r _ [14, 15, 16, 7, 17] (by decide +kernel) (by decide +kernel)
set_option maxRecDepth 20000 in
theorem gX8_pressed_X8_begins : GoodIn wsX8_pressed (va_wsS RX8 126 yX8_begins wsX8_begins) := goodIn_app (goodIn_of _ (by decide +kernel)) ggX8_pressed_X8_begins
set_option maxRecDepth 20000 in
theorem ggX8_pressed_X8_size : GoodIn wsX8_pressed wsX8_size := goodIn_r _ [17] (by decide +kernel) (by decide +kernel)
set_option maxRecDepth 20000 in
theorem gX8_pressed_X8_size : GoodIn wsX8_pressed (va_wsS RX8 102 yX8_size wsX8_size) := goodIn_app (goodIn_of _ (by decide +kernel)) ggX8_pressed_X8_size
theorem dX8_pressed_0 : decode cX8_pressed 0 = .ok (.aload_n 0, 1) := by decide +kernel
theorem dX8_pressed_1 : decode cX8_pressed 1 = .ok (.lconst 0, 1) := by decide +kernel
theorem dX8_pressed_2 : decode cX8_pressed 2 = .ok (.iconst 0, 1) := by decide +kernel
theorem dX8_pressed_3 : decode cX8_pressed 3 = .ok (.invokevirtual 218, 3) := by decide +kernel
theorem dX8_pressed_6 : decode cX8_pressed 6 = .ok (.iconst 0, 1) := by decide +kernel
theorem dX8_pressed_7 : decode cX8_pressed 7 = .ok (.istore_n 2, 1) := by decide +kernel
theorem dX8_pressed_8 : decode cX8_pressed 8 = .ok (.iload_n 2, 1) := by decide +kernel
theorem dX8_pressed_9 : decode cX8_pressed 9 = .ok (.aload_n 0, 1) := by decide +kernel
theorem dX8_pressed_10 : decode cX8_pressed 10 = .ok (.getfield 7, 3) := by decide +kernel
theorem dX8_pressed_13 : decode cX8_pressed 13 = .ok (.iload_n 1, 1) := by decide +kernel
theorem dX8_pressed_14 : decode cX8_pressed 14 = .ok (.iaload, 1) := by decide +kernel
theorem dX8_pressed_15 : decode cX8_pressed 15 = .ok (.if_icmp .ge 158, 3) := by decide +kernel
theorem dX8_pressed_18 : decode cX8_pressed 18 = .ok (.bipush 64, 2) := by decide +kernel
theorem dX8_pressed_20 : decode cX8_pressed 20 = .ok (.iload_n 1, 1) := by decide +kernel
theorem dX8_pressed_21 : decode cX8_pressed 21 = .ok (.imul, 1) := by decide +kernel
theorem dX8_pressed_22 : decode cX8_pressed 22 = .ok (.iload_n 2, 1) := by decide +kernel
theorem dX8_pressed_23 : decode cX8_pressed 23 = .ok (.iadd, 1) := by decide +kernel
theorem dX8_pressed_24 : decode cX8_pressed 24 = .ok (.istore_n 3, 1) := by decide +kernel
theorem dX8_pressed_25 : decode cX8_pressed 25 = .ok (.aload_n 0, 1) := by decide +kernel
theorem dX8_pressed_26 : decode cX8_pressed 26 = .ok (.aload_n 0, 1) := by decide +kernel
theorem dX8_pressed_27 : decode cX8_pressed 27 = .ok (.getfield 13, 3) := by decide +kernel
theorem dX8_pressed_30 : decode cX8_pressed 30 = .ok (.iload_n 3, 1) := by decide +kernel
theorem dX8_pressed_31 : decode cX8_pressed 31 = .ok (.laload, 1) := by decide +kernel
theorem dX8_pressed_32 : decode cX8_pressed 32 = .ok (.aload_n 0, 1) := by decide +kernel
theorem dX8_pressed_33 : decode cX8_pressed 33 = .ok (.getfield 17, 3) := by decide +kernel
theorem dX8_pressed_36 : decode cX8_pressed 36 = .ok (.iload_n 3, 1) := by decide +kernel
theorem dX8_pressed_37 : decode cX8_pressed 37 = .ok (.iaload, 1) := by decide +kernel
theorem dX8_pressed_38 : decode cX8_pressed 38 = .ok (.invokevirtual 218, 3) := by decide +kernel
theorem dX8_pressed_41 : decode cX8_pressed 41 = .ok (.iconst 0, 1) := by decide +kernel
theorem dX8_pressed_42 : decode cX8_pressed 42 = .ok (.istore 4, 2) := by decide +kernel
theorem dX8_pressed_44 : decode cX8_pressed 44 = .ok (.iload 4, 2) := by decide +kernel
theorem dX8_pressed_46 : decode cX8_pressed 46 = .ok (.iload_n 2, 1) := by decide +kernel
theorem dX8_pressed_47 : decode cX8_pressed 47 = .ok (.if_icmp .ge 120, 3) := by decide +kernel
theorem dX8_pressed_50 : decode cX8_pressed 50 = .ok (.bipush 64, 2) := by decide +kernel
theorem dX8_pressed_52 : decode cX8_pressed 52 = .ok (.iload_n 1, 1) := by decide +kernel
theorem dX8_pressed_53 : decode cX8_pressed 53 = .ok (.imul, 1) := by decide +kernel
theorem dX8_pressed_54 : decode cX8_pressed 54 = .ok (.iload 4, 2) := by decide +kernel
theorem dX8_pressed_56 : decode cX8_pressed 56 = .ok (.iadd, 1) := by decide +kernel
theorem dX8_pressed_57 : decode cX8_pressed 57 = .ok (.istore 5, 2) := by decide +kernel
theorem dX8_pressed_59 : decode cX8_pressed 59 = .ok (.iconst 0, 1) := by decide +kernel
theorem dX8_pressed_60 : decode cX8_pressed 60 = .ok (.istore 6, 2) := by decide +kernel
theorem dX8_pressed_62 : decode cX8_pressed 62 = .ok (.iload 6, 2) := by decide +kernel
theorem dX8_pressed_64 : decode cX8_pressed 64 = .ok (.aload_n 0, 1) := by decide +kernel
theorem dX8_pressed_65 : decode cX8_pressed 65 = .ok (.getfield 17, 3) := by decide +kernel
theorem dX8_pressed_68 : decode cX8_pressed 68 = .ok (.iload_n 3, 1) := by decide +kernel
theorem dX8_pressed_69 : decode cX8_pressed 69 = .ok (.iaload, 1) := by decide +kernel
theorem dX8_pressed_70 : decode cX8_pressed 70 = .ok (.if_icmp .ge 44, 3) := by decide +kernel
theorem dX8_pressed_73 : decode cX8_pressed 73 = .ok (.iload 6, 2) := by decide +kernel
theorem dX8_pressed_75 : decode cX8_pressed 75 = .ok (.aload_n 0, 1) := by decide +kernel
theorem dX8_pressed_76 : decode cX8_pressed 76 = .ok (.getfield 17, 3) := by decide +kernel
theorem dX8_pressed_79 : decode cX8_pressed 79 = .ok (.iload 5, 2) := by decide +kernel
theorem dX8_pressed_81 : decode cX8_pressed 81 = .ok (.iaload, 1) := by decide +kernel
theorem dX8_pressed_82 : decode cX8_pressed 82 = .ok (.if_icmp .ge 32, 3) := by decide +kernel
theorem dX8_pressed_85 : decode cX8_pressed 85 = .ok (.aload_n 0, 1) := by decide +kernel
theorem dX8_pressed_86 : decode cX8_pressed 86 = .ok (.getfield 13, 3) := by decide +kernel
theorem dX8_pressed_89 : decode cX8_pressed 89 = .ok (.iload_n 3, 1) := by decide +kernel
theorem dX8_pressed_90 : decode cX8_pressed 90 = .ok (.laload, 1) := by decide +kernel
theorem dX8_pressed_91 : decode cX8_pressed 91 = .ok (.aload_n 0, 1) := by decide +kernel
theorem dX8_pressed_92 : decode cX8_pressed 92 = .ok (.getfield 13, 3) := by decide +kernel
theorem dX8_pressed_95 : decode cX8_pressed 95 = .ok (.iload 5, 2) := by decide +kernel
theorem dX8_pressed_97 : decode cX8_pressed 97 = .ok (.laload, 1) := by decide +kernel
theorem dX8_pressed_98 : decode cX8_pressed 98 = .ok (.iload 6, 2) := by decide +kernel
theorem dX8_pressed_100 : decode cX8_pressed 100 = .ok (.iconst 1, 1) := by decide +kernel
theorem dX8_pressed_101 : decode cX8_pressed 101 = .ok (.iadd, 1) := by decide +kernel
theorem dX8_pressed_102 : decode cX8_pressed 102 = .ok (.invokestatic 126, 3) := by decide +kernel
theorem dX8_pressed_105 : decode cX8_pressed 105 = .ok (.ifCond .eq 9, 3) := by decide +kernel
theorem dX8_pressed_108 : decode cX8_pressed 108 = .ok (.iinc 6 1, 3) := by decide +kernel
theorem dX8_pressed_111 : decode cX8_pressed 111 = .ok (.goto (-49), 3) := by decide +kernel
theorem dX8_pressed_114 : decode cX8_pressed 114 = .ok (.iload 6, 2) := by decide +kernel
theorem dX8_pressed_116 : decode cX8_pressed 116 = .ok (.aload_n 0, 1) := by decide +kernel
theorem dX8_pressed_117 : decode cX8_pressed 117 = .ok (.getfield 17, 3) := by decide +kernel
theorem dX8_pressed_120 : decode cX8_pressed 120 = .ok (.iload_n 3, 1) := by decide +kernel
theorem dX8_pressed_121 : decode cX8_pressed 121 = .ok (.iaload, 1) := by decide +kernel
theorem dX8_pressed_122 : decode cX8_pressed 122 = .ok (.if_icmp .ge 39, 3) := by decide +kernel
theorem dX8_pressed_125 : decode cX8_pressed 125 = .ok (.iload 6, 2) := by decide +kernel
theorem dX8_pressed_127 : decode cX8_pressed 127 = .ok (.aload_n 0, 1) := by decide +kernel
theorem dX8_pressed_128 : decode cX8_pressed 128 = .ok (.getfield 17, 3) := by decide +kernel
theorem dX8_pressed_131 : decode cX8_pressed 131 = .ok (.iload 5, 2) := by decide +kernel
theorem dX8_pressed_133 : decode cX8_pressed 133 = .ok (.iaload, 1) := by decide +kernel
theorem dX8_pressed_134 : decode cX8_pressed 134 = .ok (.if_icmp .ge 27, 3) := by decide +kernel
theorem dX8_pressed_137 : decode cX8_pressed 137 = .ok (.aload_n 0, 1) := by decide +kernel
theorem dX8_pressed_138 : decode cX8_pressed 138 = .ok (.aload_n 0, 1) := by decide +kernel
theorem dX8_pressed_139 : decode cX8_pressed 139 = .ok (.getfield 13, 3) := by decide +kernel
theorem dX8_pressed_142 : decode cX8_pressed 142 = .ok (.iload_n 3, 1) := by decide +kernel
theorem dX8_pressed_143 : decode cX8_pressed 143 = .ok (.laload, 1) := by decide +kernel
theorem dX8_pressed_144 : decode cX8_pressed 144 = .ok (.iload 6, 2) := by decide +kernel
theorem dX8_pressed_146 : decode cX8_pressed 146 = .ok (.invokestatic 102, 3) := by decide +kernel
theorem dX8_pressed_149 : decode cX8_pressed 149 = .ok (.ldiv, 1) := by decide +kernel
theorem dX8_pressed_150 : decode cX8_pressed 150 = .ok (.iload 6, 2) := by decide +kernel
theorem dX8_pressed_152 : decode cX8_pressed 152 = .ok (.invokestatic 102, 3) := by decide +kernel
theorem dX8_pressed_155 : decode cX8_pressed 155 = .ok (.lmul, 1) := by decide +kernel
theorem dX8_pressed_156 : decode cX8_pressed 156 = .ok (.iload 6, 2) := by decide +kernel
theorem dX8_pressed_158 : decode cX8_pressed 158 = .ok (.invokevirtual 218, 3) := by decide +kernel
theorem dX8_pressed_161 : decode cX8_pressed 161 = .ok (.iinc 4 1, 3) := by decide +kernel
theorem dX8_pressed_164 : decode cX8_pressed 164 = .ok (.goto (-120), 3) := by decide +kernel
theorem dX8_pressed_167 : decode cX8_pressed 167 = .ok (.iinc 2 1, 3) := by decide +kernel
theorem dX8_pressed_170 : decode cX8_pressed 170 = .ok (.goto (-162), 3) := by decide +kernel
theorem dX8_pressed_173 : decode cX8_pressed 173 = .ok (.return_, 1) := by decide +kernel
set_option maxRecDepth 20000 in
theorem ggX8_strides_X8_counts : GoodIn wsX8_strides wsX8_counts := goodIn_r _ [8, 9, 10, 11, 15, 16, 17, 18, 19, 20, 21, 22, 23, 24, 25, 26, 27, 28, 29, 30, 31, 32, 33, 34, 35, 36, 37, 38, 39, 40, 41, 42, 43, 44, 45, 46, 47, 48] (by decide +kernel) (by decide +kernel)
set_option maxRecDepth 20000 in
theorem gX8_strides_X8_counts : GoodIn wsX8_strides (wsV RX8 218 RX8 yX8_counts wsX8_counts) := goodIn_app (goodIn_of _ (by decide +kernel)) ggX8_strides_X8_counts
set_option maxRecDepth 20000 in
theorem ggX8_strides_X8_size : GoodIn wsX8_strides wsX8_size := goodIn_r _ [14] (by decide +kernel) (by decide +kernel)
set_option maxRecDepth 20000 in
theorem gX8_strides_X8_size : GoodIn wsX8_strides (va_wsS RX8 102 yX8_size wsX8_size) := goodIn_app (goodIn_of _ (by decide +kernel)) ggX8_strides_X8_size
theorem dX8_strides_0 : decode cX8_strides 0 = .ok (.aload_n 0, 1) := by decide +kernel
theorem dX8_strides_1 : decode cX8_strides 1 = .ok (.lconst 0, 1) := by decide +kernel
theorem dX8_strides_2 : decode cX8_strides 2 = .ok (.iconst 0, 1) := by decide +kernel
theorem dX8_strides_3 : decode cX8_strides 3 = .ok (.invokevirtual 218, 3) := by decide +kernel
theorem dX8_strides_6 : decode cX8_strides 6 = .ok (.iconst 0, 1) := by decide +kernel
theorem dX8_strides_7 : decode cX8_strides 7 = .ok (.istore_n 2, 1) := by decide +kernel
theorem dX8_strides_8 : decode cX8_strides 8 = .ok (.iload_n 2, 1) := by decide +kernel
theorem dX8_strides_9 : decode cX8_strides 9 = .ok (.aload_n 0, 1) := by decide +kernel
theorem dX8_strides_10 : decode cX8_strides 10 = .ok (.getfield 7, 3) := by decide +kernel
theorem dX8_strides_13 : decode cX8_strides 13 = .ok (.iload_n 1, 1) := by decide +kernel
theorem dX8_strides_14 : decode cX8_strides 14 = .ok (.iaload, 1) := by decide +kernel
theorem dX8_strides_15 : decode cX8_strides 15 = .ok (.if_icmp .ge 61, 3) := by decide +kernel
theorem dX8_strides_18 : decode cX8_strides 18 = .ok (.bipush 64, 2) := by decide +kernel
theorem dX8_strides_20 : decode cX8_strides 20 = .ok (.iload_n 1, 1) := by decide +kernel
theorem dX8_strides_21 : decode cX8_strides 21 = .ok (.imul, 1) := by decide +kernel
theorem dX8_strides_22 : decode cX8_strides 22 = .ok (.iload_n 2, 1) := by decide +kernel
theorem dX8_strides_23 : decode cX8_strides 23 = .ok (.iadd, 1) := by decide +kernel
theorem dX8_strides_24 : decode cX8_strides 24 = .ok (.istore_n 3, 1) := by decide +kernel
theorem dX8_strides_25 : decode cX8_strides 25 = .ok (.bipush 6, 2) := by decide +kernel
theorem dX8_strides_27 : decode cX8_strides 27 = .ok (.istore 4, 2) := by decide +kernel
theorem dX8_strides_29 : decode cX8_strides 29 = .ok (.iload 4, 2) := by decide +kernel
theorem dX8_strides_31 : decode cX8_strides 31 = .ok (.aload_n 0, 1) := by decide +kernel
theorem dX8_strides_32 : decode cX8_strides 32 = .ok (.getfield 17, 3) := by decide +kernel
theorem dX8_strides_35 : decode cX8_strides 35 = .ok (.iload_n 3, 1) := by decide +kernel
theorem dX8_strides_36 : decode cX8_strides 36 = .ok (.iaload, 1) := by decide +kernel
theorem dX8_strides_37 : decode cX8_strides 37 = .ok (.if_icmp .ge 33, 3) := by decide +kernel
theorem dX8_strides_40 : decode cX8_strides 40 = .ok (.aload_n 0, 1) := by decide +kernel
theorem dX8_strides_41 : decode cX8_strides 41 = .ok (.aload_n 0, 1) := by decide +kernel
theorem dX8_strides_42 : decode cX8_strides 42 = .ok (.getfield 13, 3) := by decide +kernel
theorem dX8_strides_45 : decode cX8_strides 45 = .ok (.iload_n 3, 1) := by decide +kernel
theorem dX8_strides_46 : decode cX8_strides 46 = .ok (.laload, 1) := by decide +kernel
theorem dX8_strides_47 : decode cX8_strides 47 = .ok (.iload 4, 2) := by decide +kernel
theorem dX8_strides_49 : decode cX8_strides 49 = .ok (.invokestatic 102, 3) := by decide +kernel
theorem dX8_strides_52 : decode cX8_strides 52 = .ok (.ldiv, 1) := by decide +kernel
theorem dX8_strides_53 : decode cX8_strides 53 = .ok (.iload 4, 2) := by decide +kernel
theorem dX8_strides_55 : decode cX8_strides 55 = .ok (.invokestatic 102, 3) := by decide +kernel
theorem dX8_strides_58 : decode cX8_strides 58 = .ok (.lmul, 1) := by decide +kernel
theorem dX8_strides_59 : decode cX8_strides 59 = .ok (.iload 4, 2) := by decide +kernel
theorem dX8_strides_61 : decode cX8_strides 61 = .ok (.invokevirtual 218, 3) := by decide +kernel
theorem dX8_strides_64 : decode cX8_strides 64 = .ok (.iinc 4 6, 3) := by decide +kernel
theorem dX8_strides_67 : decode cX8_strides 67 = .ok (.goto (-38), 3) := by decide +kernel
theorem dX8_strides_70 : decode cX8_strides 70 = .ok (.iinc 2 1, 3) := by decide +kernel
theorem dX8_strides_73 : decode cX8_strides 73 = .ok (.goto (-65), 3) := by decide +kernel
theorem dX8_strides_76 : decode cX8_strides 76 = .ok (.return_, 1) := by decide +kernel
set_option maxRecDepth 20000 in
theorem ggX8_steps_X8_isBook : GoodIn wsX8_steps wsX8_isBook := goodIn_r _ [7, 8, 9, 6, 10] (by decide +kernel) (by decide +kernel)
set_option maxRecDepth 20000 in
theorem gX8_steps_X8_isBook : GoodIn wsX8_steps (va_wsS RX8 109 yX8_isBook wsX8_isBook) := goodIn_app (goodIn_of _ (by decide +kernel)) ggX8_steps_X8_isBook
set_option maxRecDepth 20000 in
theorem ggX8_steps_X8_strides : GoodIn wsX8_steps wsX8_strides := goodIn_r _ [14, 15, 16, 17, 18, 19, 20, 6, 21, 1, 2, 3, 22, 23, 24, 32, 33, 34, 35, 36, 37, 38, 39, 40, 41, 42, 43, 44, 45, 46, 47, 48, 49, 50, 51, 52, 53, 54, 55, 56, 57, 58, 59, 60, 61, 62, 63, 64, 65] (by decide +kernel) (by decide +kernel)
set_option maxRecDepth 20000 in
theorem gX8_steps_X8_strides : GoodIn wsX8_steps (wsV RX8 222 RX8 yX8_strides wsX8_strides) := goodIn_app (goodIn_of _ (by decide +kernel)) ggX8_steps_X8_strides
set_option maxRecDepth 20000 in
theorem ggX8_steps_X8_number : GoodIn wsX8_steps wsX8_number := goodIn_r _ [27, 28] (by decide +kernel) (by decide +kernel)
set_option maxRecDepth 20000 in
theorem gX8_steps_X8_number : GoodIn wsX8_steps (va_wsS RX8 98 yX8_number wsX8_number) := goodIn_app (goodIn_of _ (by decide +kernel)) ggX8_steps_X8_number
set_option maxRecDepth 20000 in
theorem ggX8_steps_X8_begins : GoodIn wsX8_steps wsX8_begins := goodIn_r _ [31, 22, 23, 6, 24] (by decide +kernel) (by decide +kernel)
set_option maxRecDepth 20000 in
theorem gX8_steps_X8_begins : GoodIn wsX8_steps (va_wsS RX8 126 yX8_begins wsX8_begins) := goodIn_app (goodIn_of _ (by decide +kernel)) ggX8_steps_X8_begins
theorem dX8_steps_0 : decode cX8_steps 0 = .ok (.iload_n 1, 1) := by decide +kernel
theorem dX8_steps_1 : decode cX8_steps 1 = .ok (.invokestatic 109, 3) := by decide +kernel
theorem dX8_steps_4 : decode cX8_steps 4 = .ok (.ifCond .ne 5, 3) := by decide +kernel
theorem dX8_steps_7 : decode cX8_steps 7 = .ok (.iconst (-1), 1) := by decide +kernel
theorem dX8_steps_8 : decode cX8_steps 8 = .ok (.ireturn, 1) := by decide +kernel
theorem dX8_steps_9 : decode cX8_steps 9 = .ok (.aload_n 0, 1) := by decide +kernel
theorem dX8_steps_10 : decode cX8_steps 10 = .ok (.iconst 0, 1) := by decide +kernel
theorem dX8_steps_11 : decode cX8_steps 11 = .ok (.putfield 215, 3) := by decide +kernel
theorem dX8_steps_14 : decode cX8_steps 14 = .ok (.aload_n 0, 1) := by decide +kernel
theorem dX8_steps_15 : decode cX8_steps 15 = .ok (.iload_n 1, 1) := by decide +kernel
theorem dX8_steps_16 : decode cX8_steps 16 = .ok (.invokevirtual 222, 3) := by decide +kernel
theorem dX8_steps_19 : decode cX8_steps 19 = .ok (.iconst 0, 1) := by decide +kernel
theorem dX8_steps_20 : decode cX8_steps 20 = .ok (.istore_n 3, 1) := by decide +kernel
theorem dX8_steps_21 : decode cX8_steps 21 = .ok (.iconst 0, 1) := by decide +kernel
theorem dX8_steps_22 : decode cX8_steps 22 = .ok (.istore 4, 2) := by decide +kernel
theorem dX8_steps_24 : decode cX8_steps 24 = .ok (.iload 4, 2) := by decide +kernel
theorem dX8_steps_26 : decode cX8_steps 26 = .ok (.aload_n 0, 1) := by decide +kernel
theorem dX8_steps_27 : decode cX8_steps 27 = .ok (.getfield 215, 3) := by decide +kernel
theorem dX8_steps_30 : decode cX8_steps 30 = .ok (.if_icmp .ge 41, 3) := by decide +kernel
theorem dX8_steps_33 : decode cX8_steps 33 = .ok (.iload_n 3, 1) := by decide +kernel
theorem dX8_steps_34 : decode cX8_steps 34 = .ok (.iload_n 2, 1) := by decide +kernel
theorem dX8_steps_35 : decode cX8_steps 35 = .ok (.invokestatic 98, 3) := by decide +kernel
theorem dX8_steps_38 : decode cX8_steps 38 = .ok (.aload_n 0, 1) := by decide +kernel
theorem dX8_steps_39 : decode cX8_steps 39 = .ok (.getfield 86, 3) := by decide +kernel
theorem dX8_steps_42 : decode cX8_steps 42 = .ok (.iload 4, 2) := by decide +kernel
theorem dX8_steps_44 : decode cX8_steps 44 = .ok (.laload, 1) := by decide +kernel
theorem dX8_steps_45 : decode cX8_steps 45 = .ok (.aload_n 0, 1) := by decide +kernel
theorem dX8_steps_46 : decode cX8_steps 46 = .ok (.getfield 89, 3) := by decide +kernel
theorem dX8_steps_49 : decode cX8_steps 49 = .ok (.iload 4, 2) := by decide +kernel
theorem dX8_steps_51 : decode cX8_steps 51 = .ok (.iaload, 1) := by decide +kernel
theorem dX8_steps_52 : decode cX8_steps 52 = .ok (.invokestatic 126, 3) := by decide +kernel
theorem dX8_steps_55 : decode cX8_steps 55 = .ok (.ifCond .eq 7, 3) := by decide +kernel
theorem dX8_steps_58 : decode cX8_steps 58 = .ok (.iconst 1, 1) := by decide +kernel
theorem dX8_steps_59 : decode cX8_steps 59 = .ok (.goto 4, 3) := by decide +kernel
theorem dX8_steps_62 : decode cX8_steps 62 = .ok (.iconst 0, 1) := by decide +kernel
theorem dX8_steps_63 : decode cX8_steps 63 = .ok (.iadd, 1) := by decide +kernel
theorem dX8_steps_64 : decode cX8_steps 64 = .ok (.istore_n 3, 1) := by decide +kernel
theorem dX8_steps_65 : decode cX8_steps 65 = .ok (.iinc 4 1, 3) := by decide +kernel
theorem dX8_steps_68 : decode cX8_steps 68 = .ok (.goto (-44), 3) := by decide +kernel
theorem dX8_steps_71 : decode cX8_steps 71 = .ok (.iload_n 3, 1) := by decide +kernel
theorem dX8_steps_72 : decode cX8_steps 72 = .ok (.ireturn, 1) := by decide +kernel
set_option maxRecDepth 20000 in
theorem ggX8_nodes_X8_isBook : GoodIn wsX8_nodes wsX8_isBook := goodIn_r _ [8, 9, 10, 7, 11] (by decide +kernel) (by decide +kernel)
set_option maxRecDepth 20000 in
theorem gX8_nodes_X8_isBook : GoodIn wsX8_nodes (va_wsS RX8 109 yX8_isBook wsX8_isBook) := goodIn_app (goodIn_of _ (by decide +kernel)) ggX8_nodes_X8_isBook
set_option maxRecDepth 20000 in
theorem ggX8_nodes_X8_lies : GoodIn wsX8_nodes wsX8_lies := goodIn_r _ [11] (by decide +kernel) (by decide +kernel)
set_option maxRecDepth 20000 in
theorem gX8_nodes_X8_lies : GoodIn wsX8_nodes (va_wsS RX8 92 yX8_lies wsX8_lies) := goodIn_app (goodIn_of _ (by decide +kernel)) ggX8_nodes_X8_lies
set_option maxRecDepth 20000 in
theorem ggX8_nodes_X8_pressed : GoodIn wsX8_nodes wsX8_pressed := goodIn_r _ [15, 16, 17, 18, 19, 20, 21, 7, 22, 2, 4, 3, 23, 24, 25, 26, 27, 28, 33, 34, 35, 36, 37, 38, 39, 40, 41, 42, 43, 44, 45, 46, 47, 48, 49, 50, 51, 52, 53, 54, 55, 56, 57, 58, 59, 60, 61, 62, 63, 64, 65, 66] (by decide +kernel) (by decide +kernel)
set_option maxRecDepth 20000 in
theorem gX8_nodes_X8_pressed : GoodIn wsX8_nodes (wsV RX8 225 RX8 yX8_pressed wsX8_pressed) := goodIn_app (goodIn_of _ (by decide +kernel)) ggX8_nodes_X8_pressed
set_option maxRecDepth 20000 in
theorem ggX8_nodes_X8_strides : GoodIn wsX8_nodes wsX8_strides := goodIn_r _ [32, 16, 18, 17, 19, 20, 21, 7, 22, 2, 4, 3, 26, 27, 28, 33, 34, 35, 36, 37, 38, 39, 40, 41, 42, 43, 44, 45, 46, 47, 48, 49, 50, 51, 52, 53, 54, 55, 56, 57, 58, 59, 60, 61, 62, 63, 64, 65, 66] (by decide +kernel) (by decide +kernel)
set_option maxRecDepth 20000 in
theorem gX8_nodes_X8_strides : GoodIn wsX8_nodes (wsV RX8 222 RX8 yX8_strides wsX8_strides) := goodIn_app (goodIn_of _ (by decide +kernel)) ggX8_nodes_X8_strides
theorem dX8_nodes_0 : decode cX8_nodes 0 = .ok (.iload_n 1, 1) := by decide +kernel
theorem dX8_nodes_1 : decode cX8_nodes 1 = .ok (.invokestatic 109, 3) := by decide +kernel
theorem dX8_nodes_4 : decode cX8_nodes 4 = .ok (.ifCond .eq 12, 3) := by decide +kernel
theorem dX8_nodes_7 : decode cX8_nodes 7 = .ok (.iload_n 2, 1) := by decide +kernel
theorem dX8_nodes_8 : decode cX8_nodes 8 = .ok (.iconst 0, 1) := by decide +kernel
theorem dX8_nodes_9 : decode cX8_nodes 9 = .ok (.iconst 3, 1) := by decide +kernel
theorem dX8_nodes_10 : decode cX8_nodes 10 = .ok (.invokestatic 92, 3) := by decide +kernel
theorem dX8_nodes_13 : decode cX8_nodes 13 = .ok (.ifCond .ne 7, 3) := by decide +kernel
theorem dX8_nodes_16 : decode cX8_nodes 16 = .ok (.ldc2_w 124, 3) := by decide +kernel
theorem dX8_nodes_19 : decode cX8_nodes 19 = .ok (.lreturn, 1) := by decide +kernel
theorem dX8_nodes_20 : decode cX8_nodes 20 = .ok (.aload_n 0, 1) := by decide +kernel
theorem dX8_nodes_21 : decode cX8_nodes 21 = .ok (.iconst 0, 1) := by decide +kernel
theorem dX8_nodes_22 : decode cX8_nodes 22 = .ok (.putfield 215, 3) := by decide +kernel
theorem dX8_nodes_25 : decode cX8_nodes 25 = .ok (.iload_n 2, 1) := by decide +kernel
theorem dX8_nodes_26 : decode cX8_nodes 26 = .ok (.ifCond .ne 14, 3) := by decide +kernel
theorem dX8_nodes_29 : decode cX8_nodes 29 = .ok (.aload_n 0, 1) := by decide +kernel
theorem dX8_nodes_30 : decode cX8_nodes 30 = .ok (.iload_n 1, 1) := by decide +kernel
theorem dX8_nodes_31 : decode cX8_nodes 31 = .ok (.invokevirtual 225, 3) := by decide +kernel
theorem dX8_nodes_34 : decode cX8_nodes 34 = .ok (.aload_n 0, 1) := by decide +kernel
theorem dX8_nodes_35 : decode cX8_nodes 35 = .ok (.getfield 215, 3) := by decide +kernel
theorem dX8_nodes_38 : decode cX8_nodes 38 = .ok (.i2l, 1) := by decide +kernel
theorem dX8_nodes_39 : decode cX8_nodes 39 = .ok (.lreturn, 1) := by decide +kernel
theorem dX8_nodes_40 : decode cX8_nodes 40 = .ok (.aload_n 0, 1) := by decide +kernel
theorem dX8_nodes_41 : decode cX8_nodes 41 = .ok (.iload_n 1, 1) := by decide +kernel
theorem dX8_nodes_42 : decode cX8_nodes 42 = .ok (.invokevirtual 222, 3) := by decide +kernel
theorem dX8_nodes_45 : decode cX8_nodes 45 = .ok (.iload_n 2, 1) := by decide +kernel
theorem dX8_nodes_46 : decode cX8_nodes 46 = .ok (.iconst 1, 1) := by decide +kernel
theorem dX8_nodes_47 : decode cX8_nodes 47 = .ok (.if_icmp .ne 9, 3) := by decide +kernel
theorem dX8_nodes_50 : decode cX8_nodes 50 = .ok (.aload_n 0, 1) := by decide +kernel
theorem dX8_nodes_51 : decode cX8_nodes 51 = .ok (.getfield 215, 3) := by decide +kernel
theorem dX8_nodes_54 : decode cX8_nodes 54 = .ok (.i2l, 1) := by decide +kernel
theorem dX8_nodes_55 : decode cX8_nodes 55 = .ok (.lreturn, 1) := by decide +kernel
theorem dX8_nodes_56 : decode cX8_nodes 56 = .ok (.iconst 0, 1) := by decide +kernel
theorem dX8_nodes_57 : decode cX8_nodes 57 = .ok (.istore_n 3, 1) := by decide +kernel
theorem dX8_nodes_58 : decode cX8_nodes 58 = .ok (.lconst 0, 1) := by decide +kernel
theorem dX8_nodes_59 : decode cX8_nodes 59 = .ok (.lstore 4, 2) := by decide +kernel
theorem dX8_nodes_61 : decode cX8_nodes 61 = .ok (.iconst 0, 1) := by decide +kernel
theorem dX8_nodes_62 : decode cX8_nodes 62 = .ok (.istore 6, 2) := by decide +kernel
theorem dX8_nodes_64 : decode cX8_nodes 64 = .ok (.iload 6, 2) := by decide +kernel
theorem dX8_nodes_66 : decode cX8_nodes 66 = .ok (.aload_n 0, 1) := by decide +kernel
theorem dX8_nodes_67 : decode cX8_nodes 67 = .ok (.getfield 215, 3) := by decide +kernel
theorem dX8_nodes_70 : decode cX8_nodes 70 = .ok (.if_icmp .ge 64, 3) := by decide +kernel
theorem dX8_nodes_73 : decode cX8_nodes 73 = .ok (.aload_n 0, 1) := by decide +kernel
theorem dX8_nodes_74 : decode cX8_nodes 74 = .ok (.getfield 89, 3) := by decide +kernel
theorem dX8_nodes_77 : decode cX8_nodes 77 = .ok (.iload 6, 2) := by decide +kernel
theorem dX8_nodes_79 : decode cX8_nodes 79 = .ok (.iaload, 1) := by decide +kernel
theorem dX8_nodes_80 : decode cX8_nodes 80 = .ok (.iload_n 3, 1) := by decide +kernel
theorem dX8_nodes_81 : decode cX8_nodes 81 = .ok (.if_icmp .lt 47, 3) := by decide +kernel
theorem dX8_nodes_84 : decode cX8_nodes 84 = .ok (.aload_n 0, 1) := by decide +kernel
theorem dX8_nodes_85 : decode cX8_nodes 85 = .ok (.getfield 89, 3) := by decide +kernel
theorem dX8_nodes_88 : decode cX8_nodes 88 = .ok (.iload 6, 2) := by decide +kernel
theorem dX8_nodes_90 : decode cX8_nodes 90 = .ok (.iaload, 1) := by decide +kernel
theorem dX8_nodes_91 : decode cX8_nodes 91 = .ok (.iload_n 3, 1) := by decide +kernel
theorem dX8_nodes_92 : decode cX8_nodes 92 = .ok (.if_icmp .ne 19, 3) := by decide +kernel
theorem dX8_nodes_95 : decode cX8_nodes 95 = .ok (.aload_n 0, 1) := by decide +kernel
theorem dX8_nodes_96 : decode cX8_nodes 96 = .ok (.getfield 86, 3) := by decide +kernel
theorem dX8_nodes_99 : decode cX8_nodes 99 = .ok (.iload 6, 2) := by decide +kernel
theorem dX8_nodes_101 : decode cX8_nodes 101 = .ok (.laload, 1) := by decide +kernel
theorem dX8_nodes_102 : decode cX8_nodes 102 = .ok (.lload 4, 2) := by decide +kernel
theorem dX8_nodes_104 : decode cX8_nodes 104 = .ok (.lcmp, 1) := by decide +kernel
theorem dX8_nodes_105 : decode cX8_nodes 105 = .ok (.ifCond .lt 6, 3) := by decide +kernel
theorem dX8_nodes_108 : decode cX8_nodes 108 = .ok (.goto 20, 3) := by decide +kernel
theorem dX8_nodes_111 : decode cX8_nodes 111 = .ok (.aload_n 0, 1) := by decide +kernel
theorem dX8_nodes_112 : decode cX8_nodes 112 = .ok (.getfield 89, 3) := by decide +kernel
theorem dX8_nodes_115 : decode cX8_nodes 115 = .ok (.iload 6, 2) := by decide +kernel
theorem dX8_nodes_117 : decode cX8_nodes 117 = .ok (.iaload, 1) := by decide +kernel
theorem dX8_nodes_118 : decode cX8_nodes 118 = .ok (.istore_n 3, 1) := by decide +kernel
theorem dX8_nodes_119 : decode cX8_nodes 119 = .ok (.aload_n 0, 1) := by decide +kernel
theorem dX8_nodes_120 : decode cX8_nodes 120 = .ok (.getfield 86, 3) := by decide +kernel
theorem dX8_nodes_123 : decode cX8_nodes 123 = .ok (.iload 6, 2) := by decide +kernel
theorem dX8_nodes_125 : decode cX8_nodes 125 = .ok (.laload, 1) := by decide +kernel
theorem dX8_nodes_126 : decode cX8_nodes 126 = .ok (.lstore 4, 2) := by decide +kernel
theorem dX8_nodes_128 : decode cX8_nodes 128 = .ok (.iinc 6 1, 3) := by decide +kernel
theorem dX8_nodes_131 : decode cX8_nodes 131 = .ok (.goto (-67), 3) := by decide +kernel
theorem dX8_nodes_134 : decode cX8_nodes 134 = .ok (.iload_n 2, 1) := by decide +kernel
theorem dX8_nodes_135 : decode cX8_nodes 135 = .ok (.iconst 2, 1) := by decide +kernel
theorem dX8_nodes_136 : decode cX8_nodes 136 = .ok (.if_icmp .ne 13, 3) := by decide +kernel
theorem dX8_nodes_139 : decode cX8_nodes 139 = .ok (.iload_n 3, 1) := by decide +kernel
theorem dX8_nodes_140 : decode cX8_nodes 140 = .ok (.bipush 6, 2) := by decide +kernel
theorem dX8_nodes_142 : decode cX8_nodes 142 = .ok (.idiv, 1) := by decide +kernel
theorem dX8_nodes_143 : decode cX8_nodes 143 = .ok (.iconst 1, 1) := by decide +kernel
theorem dX8_nodes_144 : decode cX8_nodes 144 = .ok (.iadd, 1) := by decide +kernel
theorem dX8_nodes_145 : decode cX8_nodes 145 = .ok (.i2l, 1) := by decide +kernel
theorem dX8_nodes_146 : decode cX8_nodes 146 = .ok (.goto 5, 3) := by decide +kernel
theorem dX8_nodes_149 : decode cX8_nodes 149 = .ok (.lload 4, 2) := by decide +kernel
theorem dX8_nodes_151 : decode cX8_nodes 151 = .ok (.lreturn, 1) := by decide +kernel
theorem dJ9_max_7cf53_0 : decode cJ9_max_7cf53 0 = .ok (.iload_n 0, 1) := by decide +kernel
theorem dJ9_max_7cf53_1 : decode cJ9_max_7cf53 1 = .ok (.iload_n 1, 1) := by decide +kernel
theorem dJ9_max_7cf53_2 : decode cJ9_max_7cf53 2 = .ok (.if_icmp .lt 7, 3) := by decide +kernel
theorem dJ9_max_7cf53_5 : decode cJ9_max_7cf53 5 = .ok (.iload_n 0, 1) := by decide +kernel
theorem dJ9_max_7cf53_6 : decode cJ9_max_7cf53 6 = .ok (.goto 4, 3) := by decide +kernel
theorem dJ9_max_7cf53_9 : decode cJ9_max_7cf53 9 = .ok (.iload_n 1, 1) := by decide +kernel
theorem dJ9_max_7cf53_10 : decode cJ9_max_7cf53 10 = .ok (.ireturn, 1) := by decide +kernel
theorem dJ9_min_7cf53_0 : decode cJ9_min_7cf53 0 = .ok (.iload_n 0, 1) := by decide +kernel
theorem dJ9_min_7cf53_1 : decode cJ9_min_7cf53 1 = .ok (.iload_n 1, 1) := by decide +kernel
theorem dJ9_min_7cf53_2 : decode cJ9_min_7cf53 2 = .ok (.if_icmp .gt 7, 3) := by decide +kernel
theorem dJ9_min_7cf53_5 : decode cJ9_min_7cf53 5 = .ok (.iload_n 0, 1) := by decide +kernel
theorem dJ9_min_7cf53_6 : decode cJ9_min_7cf53 6 = .ok (.goto 4, 3) := by decide +kernel
theorem dJ9_min_7cf53_9 : decode cJ9_min_7cf53 9 = .ok (.iload_n 1, 1) := by decide +kernel
theorem dJ9_min_7cf53_10 : decode cJ9_min_7cf53 10 = .ok (.ireturn, 1) := by decide +kernel
theorem dJ9_min_f86c9_0 : decode cJ9_min_f86c9 0 = .ok (.lload_n 0, 1) := by decide +kernel
theorem dJ9_min_f86c9_1 : decode cJ9_min_f86c9 1 = .ok (.lload_n 2, 1) := by decide +kernel
theorem dJ9_min_f86c9_2 : decode cJ9_min_f86c9 2 = .ok (.lcmp, 1) := by decide +kernel
theorem dJ9_min_f86c9_3 : decode cJ9_min_f86c9 3 = .ok (.ifCond .gt 7, 3) := by decide +kernel
theorem dJ9_min_f86c9_6 : decode cJ9_min_f86c9 6 = .ok (.lload_n 0, 1) := by decide +kernel
theorem dJ9_min_f86c9_7 : decode cJ9_min_f86c9 7 = .ok (.goto 4, 3) := by decide +kernel
theorem dJ9_min_f86c9_10 : decode cJ9_min_f86c9 10 = .ok (.lload_n 2, 1) := by decide +kernel
theorem dJ9_min_f86c9_11 : decode cJ9_min_f86c9 11 = .ok (.lreturn, 1) := by decide +kernel
