theorem dX6_lay_36 : decode cX6_lay 36 = .ok (.iinc 3 (-1), 3) := by decide +kernel
theorem dX6_lay_39 : decode cX6_lay 39 = .ok (.goto (-14), 3) := by decide +kernel
theorem dX6_lay_42 : decode cX6_lay 42 = .ok (.iconst 0, 1) := by decide +kernel
theorem dX6_lay_43 : decode cX6_lay 43 = .ok (.istore_n 3, 1) := by decide +kernel
theorem dX6_lay_44 : decode cX6_lay 44 = .ok (.iload_n 3, 1) := by decide +kernel
theorem dX6_lay_45 : decode cX6_lay 45 = .ok (.bipush 32, 2) := by decide +kernel
theorem dX6_lay_47 : decode cX6_lay 47 = .ok (.if_icmp .gt 16, 3) := by decide +kernel
theorem dX6_lay_50 : decode cX6_lay 50 = .ok (.aload_n 0, 1) := by decide +kernel
theorem dX6_lay_51 : decode cX6_lay 51 = .ok (.aload_n 1, 1) := by decide +kernel
theorem dX6_lay_52 : decode cX6_lay 52 = .ok (.aload_n 2, 1) := by decide +kernel
theorem dX6_lay_53 : decode cX6_lay 53 = .ok (.iload_n 3, 1) := by decide +kernel
theorem dX6_lay_54 : decode cX6_lay 54 = .ok (.invokevirtual 45, 3) := by decide +kernel
theorem dX6_lay_57 : decode cX6_lay 57 = .ok (.iinc 3 1, 3) := by decide +kernel
theorem dX6_lay_60 : decode cX6_lay 60 = .ok (.goto (-16), 3) := by decide +kernel
theorem dX6_lay_63 : decode cX6_lay 63 = .ok (.aload_n 0, 1) := by decide +kernel
theorem dX6_lay_64 : decode cX6_lay 64 = .ok (.aload_n 0, 1) := by decide +kernel
theorem dX6_lay_65 : decode cX6_lay 65 = .ok (.getfield 20, 3) := by decide +kernel
theorem dX6_lay_68 : decode cX6_lay 68 = .ok (.getfield 48, 3) := by decide +kernel
theorem dX6_lay_71 : decode cX6_lay 71 = .ok (.aload_n 0, 1) := by decide +kernel
theorem dX6_lay_72 : decode cX6_lay 72 = .ok (.getfield 23, 3) := by decide +kernel
theorem dX6_lay_75 : decode cX6_lay 75 = .ok (.getfield 48, 3) := by decide +kernel
theorem dX6_lay_78 : decode cX6_lay 78 = .ok (.iadd, 1) := by decide +kernel
theorem dX6_lay_79 : decode cX6_lay 79 = .ok (.putfield 30, 3) := by decide +kernel
theorem dX6_lay_82 : decode cX6_lay 82 = .ok (.return_, 1) := by decide +kernel
set_option maxRecDepth 20000 in
theorem ggX6_appendPuts_X2_hasLine : GoodIn wsX6_appendPuts wsX2_hasLine := goodIn_r _ [10, 11, 12, 13, 14, 9, 15, 16, 17, 18, 19, 20, 21, 22, 23, 24, 25, 26, 27, 28, 29, 30, 36, 37, 38, 39, 40] (by decide +kernel) (by decide +kernel)
set_option maxRecDepth 20000 in
theorem gX6_appendPuts_X2_hasLine : GoodIn wsX6_appendPuts (wsV RX6 58 RX2 yX2_hasLine wsX2_hasLine) := goodIn_app (goodIn_of _ (by decide +kernel)) ggX6_appendPuts_X2_hasLine
set_option maxRecDepth 20000 in
theorem ggX6_appendPuts_X2_append : GoodIn wsX6_appendPuts wsX2_append := goodIn_r _ [34, 16, 35, 21, 22, 11, 36, 37, 38, 39, 40] (by decide +kernel) (by decide +kernel)
set_option maxRecDepth 20000 in
theorem gX6_appendPuts_X2_append : GoodIn wsX6_appendPuts (wsV RX6 62 RX2 yX2_append wsX2_append) := goodIn_app (goodIn_of _ (by decide +kernel)) ggX6_appendPuts_X2_append
theorem dX6_appendPuts_0 : decode cX6_appendPuts 0 = .ok (.iconst 0, 1) := by decide +kernel
theorem dX6_appendPuts_1 : decode cX6_appendPuts 1 = .ok (.istore 4, 2) := by decide +kernel
theorem dX6_appendPuts_3 : decode cX6_appendPuts 3 = .ok (.iload 4, 2) := by decide +kernel
theorem dX6_appendPuts_5 : decode cX6_appendPuts 5 = .ok (.aload_n 2, 1) := by decide +kernel
theorem dX6_appendPuts_6 : decode cX6_appendPuts 6 = .ok (.getfield 48, 3) := by decide +kernel
theorem dX6_appendPuts_9 : decode cX6_appendPuts 9 = .ok (.if_icmp .ge 64, 3) := by decide +kernel
theorem dX6_appendPuts_12 : decode cX6_appendPuts 12 = .ok (.aload_n 2, 1) := by decide +kernel
theorem dX6_appendPuts_13 : decode cX6_appendPuts 13 = .ok (.getfield 49, 3) := by decide +kernel
theorem dX6_appendPuts_16 : decode cX6_appendPuts 16 = .ok (.iload 4, 2) := by decide +kernel
theorem dX6_appendPuts_18 : decode cX6_appendPuts 18 = .ok (.iaload, 1) := by decide +kernel
theorem dX6_appendPuts_19 : decode cX6_appendPuts 19 = .ok (.iload_n 3, 1) := by decide +kernel
theorem dX6_appendPuts_20 : decode cX6_appendPuts 20 = .ok (.if_icmp .ne 47, 3) := by decide +kernel
theorem dX6_appendPuts_23 : decode cX6_appendPuts 23 = .ok (.aload_n 1, 1) := by decide +kernel
theorem dX6_appendPuts_24 : decode cX6_appendPuts 24 = .ok (.aload_n 2, 1) := by decide +kernel
theorem dX6_appendPuts_25 : decode cX6_appendPuts 25 = .ok (.getfield 52, 3) := by decide +kernel
theorem dX6_appendPuts_28 : decode cX6_appendPuts 28 = .ok (.iload 4, 2) := by decide +kernel
theorem dX6_appendPuts_30 : decode cX6_appendPuts 30 = .ok (.iaload, 1) := by decide +kernel
theorem dX6_appendPuts_31 : decode cX6_appendPuts 31 = .ok (.iload_n 3, 1) := by decide +kernel
theorem dX6_appendPuts_32 : decode cX6_appendPuts 32 = .ok (.aload_n 2, 1) := by decide +kernel
theorem dX6_appendPuts_33 : decode cX6_appendPuts 33 = .ok (.getfield 55, 3) := by decide +kernel
theorem dX6_appendPuts_36 : decode cX6_appendPuts 36 = .ok (.iload 4, 2) := by decide +kernel
theorem dX6_appendPuts_38 : decode cX6_appendPuts 38 = .ok (.iaload, 1) := by decide +kernel
theorem dX6_appendPuts_39 : decode cX6_appendPuts 39 = .ok (.invokevirtual 58, 3) := by decide +kernel
theorem dX6_appendPuts_42 : decode cX6_appendPuts 42 = .ok (.ifCond .ne 25, 3) := by decide +kernel
theorem dX6_appendPuts_45 : decode cX6_appendPuts 45 = .ok (.aload_n 0, 1) := by decide +kernel
theorem dX6_appendPuts_46 : decode cX6_appendPuts 46 = .ok (.getfield 20, 3) := by decide +kernel
theorem dX6_appendPuts_49 : decode cX6_appendPuts 49 = .ok (.aload_n 2, 1) := by decide +kernel
theorem dX6_appendPuts_50 : decode cX6_appendPuts 50 = .ok (.getfield 52, 3) := by decide +kernel
theorem dX6_appendPuts_53 : decode cX6_appendPuts 53 = .ok (.iload 4, 2) := by decide +kernel
theorem dX6_appendPuts_55 : decode cX6_appendPuts 55 = .ok (.iaload, 1) := by decide +kernel
theorem dX6_appendPuts_56 : decode cX6_appendPuts 56 = .ok (.iload_n 3, 1) := by decide +kernel
theorem dX6_appendPuts_57 : decode cX6_appendPuts 57 = .ok (.aload_n 2, 1) := by decide +kernel
theorem dX6_appendPuts_58 : decode cX6_appendPuts 58 = .ok (.getfield 55, 3) := by decide +kernel
theorem dX6_appendPuts_61 : decode cX6_appendPuts 61 = .ok (.iload 4, 2) := by decide +kernel
theorem dX6_appendPuts_63 : decode cX6_appendPuts 63 = .ok (.iaload, 1) := by decide +kernel
theorem dX6_appendPuts_64 : decode cX6_appendPuts 64 = .ok (.invokevirtual 62, 3) := by decide +kernel
theorem dX6_appendPuts_67 : decode cX6_appendPuts 67 = .ok (.iinc 4 1, 3) := by decide +kernel
theorem dX6_appendPuts_70 : decode cX6_appendPuts 70 = .ok (.goto (-67), 3) := by decide +kernel
theorem dX6_appendPuts_73 : decode cX6_appendPuts 73 = .ok (.return_, 1) := by decide +kernel
set_option maxRecDepth 20000 in
theorem ggX6_appendDrops_X2_hasBeginning : GoodIn wsX6_appendDrops wsX2_hasBeginning := goodIn_r _ [10, 11, 12, 13, 9, 14, 15, 16, 17, 18, 19, 20, 21, 22, 23, 24, 25, 26, 27, 28, 29, 36, 37, 38, 39, 40] (by decide +kernel) (by decide +kernel)
set_option maxRecDepth 20000 in
theorem gX6_appendDrops_X2_hasBeginning : GoodIn wsX6_appendDrops (wsV RX6 66 RX2 yX2_hasBeginning wsX2_hasBeginning) := goodIn_app (goodIn_of _ (by decide +kernel)) ggX6_appendDrops_X2_hasBeginning
set_option maxRecDepth 20000 in
theorem ggX6_appendDrops_X2_append : GoodIn wsX6_appendDrops wsX2_append := goodIn_r _ [33, 15, 34, 20, 21, 35, 36, 37, 38, 39, 40] (by decide +kernel) (by decide +kernel)
set_option maxRecDepth 20000 in
theorem gX6_appendDrops_X2_append : GoodIn wsX6_appendDrops (wsV RX6 62 RX2 yX2_append wsX2_append) := goodIn_app (goodIn_of _ (by decide +kernel)) ggX6_appendDrops_X2_append
theorem dX6_appendDrops_0 : decode cX6_appendDrops 0 = .ok (.iconst 0, 1) := by decide +kernel
theorem dX6_appendDrops_1 : decode cX6_appendDrops 1 = .ok (.istore 4, 2) := by decide +kernel
theorem dX6_appendDrops_3 : decode cX6_appendDrops 3 = .ok (.iload 4, 2) := by decide +kernel
theorem dX6_appendDrops_5 : decode cX6_appendDrops 5 = .ok (.aload_n 1, 1) := by decide +kernel
theorem dX6_appendDrops_6 : decode cX6_appendDrops 6 = .ok (.getfield 48, 3) := by decide +kernel
theorem dX6_appendDrops_9 : decode cX6_appendDrops 9 = .ok (.if_icmp .ge 57, 3) := by decide +kernel
theorem dX6_appendDrops_12 : decode cX6_appendDrops 12 = .ok (.aload_n 1, 1) := by decide +kernel
theorem dX6_appendDrops_13 : decode cX6_appendDrops 13 = .ok (.getfield 49, 3) := by decide +kernel
theorem dX6_appendDrops_16 : decode cX6_appendDrops 16 = .ok (.iload 4, 2) := by decide +kernel
theorem dX6_appendDrops_18 : decode cX6_appendDrops 18 = .ok (.iaload, 1) := by decide +kernel
theorem dX6_appendDrops_19 : decode cX6_appendDrops 19 = .ok (.iload_n 3, 1) := by decide +kernel
theorem dX6_appendDrops_20 : decode cX6_appendDrops 20 = .ok (.if_icmp .ne 40, 3) := by decide +kernel
theorem dX6_appendDrops_23 : decode cX6_appendDrops 23 = .ok (.aload_n 2, 1) := by decide +kernel
theorem dX6_appendDrops_24 : decode cX6_appendDrops 24 = .ok (.aload_n 1, 1) := by decide +kernel
theorem dX6_appendDrops_25 : decode cX6_appendDrops 25 = .ok (.getfield 52, 3) := by decide +kernel
theorem dX6_appendDrops_28 : decode cX6_appendDrops 28 = .ok (.iload 4, 2) := by decide +kernel
theorem dX6_appendDrops_30 : decode cX6_appendDrops 30 = .ok (.iaload, 1) := by decide +kernel
theorem dX6_appendDrops_31 : decode cX6_appendDrops 31 = .ok (.iload_n 3, 1) := by decide +kernel
theorem dX6_appendDrops_32 : decode cX6_appendDrops 32 = .ok (.invokevirtual 66, 3) := by decide +kernel
theorem dX6_appendDrops_35 : decode cX6_appendDrops 35 = .ok (.ifCond .ne 25, 3) := by decide +kernel
theorem dX6_appendDrops_38 : decode cX6_appendDrops 38 = .ok (.aload_n 0, 1) := by decide +kernel
theorem dX6_appendDrops_39 : decode cX6_appendDrops 39 = .ok (.getfield 23, 3) := by decide +kernel
theorem dX6_appendDrops_42 : decode cX6_appendDrops 42 = .ok (.aload_n 1, 1) := by decide +kernel
theorem dX6_appendDrops_43 : decode cX6_appendDrops 43 = .ok (.getfield 52, 3) := by decide +kernel
theorem dX6_appendDrops_46 : decode cX6_appendDrops 46 = .ok (.iload 4, 2) := by decide +kernel
theorem dX6_appendDrops_48 : decode cX6_appendDrops 48 = .ok (.iaload, 1) := by decide +kernel
theorem dX6_appendDrops_49 : decode cX6_appendDrops 49 = .ok (.iload_n 3, 1) := by decide +kernel
theorem dX6_appendDrops_50 : decode cX6_appendDrops 50 = .ok (.aload_n 1, 1) := by decide +kernel
theorem dX6_appendDrops_51 : decode cX6_appendDrops 51 = .ok (.getfield 55, 3) := by decide +kernel
theorem dX6_appendDrops_54 : decode cX6_appendDrops 54 = .ok (.iload 4, 2) := by decide +kernel
theorem dX6_appendDrops_56 : decode cX6_appendDrops 56 = .ok (.iaload, 1) := by decide +kernel
theorem dX6_appendDrops_57 : decode cX6_appendDrops 57 = .ok (.invokevirtual 62, 3) := by decide +kernel
theorem dX6_appendDrops_60 : decode cX6_appendDrops 60 = .ok (.iinc 4 1, 3) := by decide +kernel
theorem dX6_appendDrops_63 : decode cX6_appendDrops 63 = .ok (.goto (-60), 3) := by decide +kernel
theorem dX6_appendDrops_66 : decode cX6_appendDrops 66 = .ok (.return_, 1) := by decide +kernel
set_option maxRecDepth 20000 in
theorem ggX6_tell_X2_first : GoodIn wsX6_tell wsX2_first := goodIn_r _ [12, 13, 14, 15, 16, 17, 23, 24, 25, 26, 27] (by decide +kernel) (by decide +kernel)
set_option maxRecDepth 20000 in
theorem gX6_tell_X2_first : GoodIn wsX6_tell (wsV RX6 72 RX2 yX2_first wsX2_first) := goodIn_app (goodIn_of _ (by decide +kernel)) ggX6_tell_X2_first
theorem dX6_tell_0 : decode cX6_tell 0 = .ok (.iload_n 1, 1) := by decide +kernel
theorem dX6_tell_1 : decode cX6_tell 1 = .ok (.ifCond .lt 11, 3) := by decide +kernel
theorem dX6_tell_4 : decode cX6_tell 4 = .ok (.iload_n 1, 1) := by decide +kernel
theorem dX6_tell_5 : decode cX6_tell 5 = .ok (.aload_n 0, 1) := by decide +kernel
theorem dX6_tell_6 : decode cX6_tell 6 = .ok (.getfield 30, 3) := by decide +kernel
theorem dX6_tell_9 : decode cX6_tell 9 = .ok (.if_icmp .lt 7, 3) := by decide +kernel
theorem dX6_tell_12 : decode cX6_tell 12 = .ok (.ldc2_w 70, 3) := by decide +kernel
theorem dX6_tell_15 : decode cX6_tell 15 = .ok (.lreturn, 1) := by decide +kernel
theorem dX6_tell_16 : decode cX6_tell 16 = .ok (.iload_n 1, 1) := by decide +kernel
theorem dX6_tell_17 : decode cX6_tell 17 = .ok (.aload_n 0, 1) := by decide +kernel
theorem dX6_tell_18 : decode cX6_tell 18 = .ok (.getfield 20, 3) := by decide +kernel
theorem dX6_tell_21 : decode cX6_tell 21 = .ok (.getfield 48, 3) := by decide +kernel
theorem dX6_tell_24 : decode cX6_tell 24 = .ok (.if_icmp .ge 7, 3) := by decide +kernel
theorem dX6_tell_27 : decode cX6_tell 27 = .ok (.iconst 1, 1) := by decide +kernel
theorem dX6_tell_28 : decode cX6_tell 28 = .ok (.goto 4, 3) := by decide +kernel
theorem dX6_tell_31 : decode cX6_tell 31 = .ok (.iconst 0, 1) := by decide +kernel
theorem dX6_tell_32 : decode cX6_tell 32 = .ok (.istore_n 3, 1) := by decide +kernel
theorem dX6_tell_33 : decode cX6_tell 33 = .ok (.iload_n 3, 1) := by decide +kernel
theorem dX6_tell_34 : decode cX6_tell 34 = .ok (.ifCond .eq 10, 3) := by decide +kernel
theorem dX6_tell_37 : decode cX6_tell 37 = .ok (.aload_n 0, 1) := by decide +kernel
theorem dX6_tell_38 : decode cX6_tell 38 = .ok (.getfield 20, 3) := by decide +kernel
theorem dX6_tell_41 : decode cX6_tell 41 = .ok (.goto 7, 3) := by decide +kernel
theorem dX6_tell_44 : decode cX6_tell 44 = .ok (.aload_n 0, 1) := by decide +kernel
theorem dX6_tell_45 : decode cX6_tell 45 = .ok (.getfield 23, 3) := by decide +kernel
theorem dX6_tell_48 : decode cX6_tell 48 = .ok (.astore 4, 2) := by decide +kernel
theorem dX6_tell_50 : decode cX6_tell 50 = .ok (.iload_n 3, 1) := by decide +kernel
theorem dX6_tell_51 : decode cX6_tell 51 = .ok (.ifCond .eq 7, 3) := by decide +kernel
theorem dX6_tell_54 : decode cX6_tell 54 = .ok (.iload_n 1, 1) := by decide +kernel
theorem dX6_tell_55 : decode cX6_tell 55 = .ok (.goto 12, 3) := by decide +kernel
theorem dX6_tell_58 : decode cX6_tell 58 = .ok (.iload_n 1, 1) := by decide +kernel
theorem dX6_tell_59 : decode cX6_tell 59 = .ok (.aload_n 0, 1) := by decide +kernel
theorem dX6_tell_60 : decode cX6_tell 60 = .ok (.getfield 20, 3) := by decide +kernel
theorem dX6_tell_63 : decode cX6_tell 63 = .ok (.getfield 48, 3) := by decide +kernel
theorem dX6_tell_66 : decode cX6_tell 66 = .ok (.isub, 1) := by decide +kernel
theorem dX6_tell_67 : decode cX6_tell 67 = .ok (.istore 5, 2) := by decide +kernel
theorem dX6_tell_69 : decode cX6_tell 69 = .ok (.iload_n 2, 1) := by decide +kernel
theorem dX6_tell_70 : decode cX6_tell 70 = .ok (.tableswitch 68 0 3 #[30, 40, 48, 58], 30) := by decide +kernel
theorem dX6_tell_100 : decode cX6_tell 100 = .ok (.iload_n 3, 1) := by decide +kernel
theorem dX6_tell_101 : decode cX6_tell 101 = .ok (.ifCond .eq 7, 3) := by decide +kernel
theorem dX6_tell_104 : decode cX6_tell 104 = .ok (.lconst 1, 1) := by decide +kernel
theorem dX6_tell_105 : decode cX6_tell 105 = .ok (.goto 4, 3) := by decide +kernel
theorem dX6_tell_108 : decode cX6_tell 108 = .ok (.lconst 0, 1) := by decide +kernel
theorem dX6_tell_109 : decode cX6_tell 109 = .ok (.lreturn, 1) := by decide +kernel
theorem dX6_tell_110 : decode cX6_tell 110 = .ok (.aload 4, 2) := by decide +kernel
theorem dX6_tell_112 : decode cX6_tell 112 = .ok (.iload 5, 2) := by decide +kernel
theorem dX6_tell_114 : decode cX6_tell 114 = .ok (.invokevirtual 72, 3) := by decide +kernel
theorem dX6_tell_117 : decode cX6_tell 117 = .ok (.lreturn, 1) := by decide +kernel
theorem dX6_tell_118 : decode cX6_tell 118 = .ok (.aload 4, 2) := by decide +kernel
theorem dX6_tell_120 : decode cX6_tell 120 = .ok (.getfield 49, 3) := by decide +kernel
theorem dX6_tell_123 : decode cX6_tell 123 = .ok (.iload 5, 2) := by decide +kernel
theorem dX6_tell_125 : decode cX6_tell 125 = .ok (.iaload, 1) := by decide +kernel
theorem dX6_tell_126 : decode cX6_tell 126 = .ok (.i2l, 1) := by decide +kernel
theorem dX6_tell_127 : decode cX6_tell 127 = .ok (.lreturn, 1) := by decide +kernel
theorem dX6_tell_128 : decode cX6_tell 128 = .ok (.aload 4, 2) := by decide +kernel
theorem dX6_tell_130 : decode cX6_tell 130 = .ok (.getfield 55, 3) := by decide +kernel
theorem dX6_tell_133 : decode cX6_tell 133 = .ok (.iload 5, 2) := by decide +kernel
theorem dX6_tell_135 : decode cX6_tell 135 = .ok (.iaload, 1) := by decide +kernel
theorem dX6_tell_136 : decode cX6_tell 136 = .ok (.i2l, 1) := by decide +kernel
theorem dX6_tell_137 : decode cX6_tell 137 = .ok (.lreturn, 1) := by decide +kernel
theorem dX6_tell_138 : decode cX6_tell 138 = .ok (.ldc2_w 70, 3) := by decide +kernel
theorem dX6_tell_141 : decode cX6_tell 141 = .ok (.lreturn, 1) := by decide +kernel
set_option maxRecDepth 20000 in
theorem ggX6_goalBehind_X6_noteHolders : GoodIn wsX6_goalBehind wsX6_noteHolders := goodIn_r _ [15, 4, 16, 17, 2, 18, 19, 20, 21, 22, 23, 24, 25, 7, 8, 9, 31, 32, 33, 34, 35, 26, 27, 28, 29, 30] (by decide +kernel) (by decide +kernel)
set_option maxRecDepth 20000 in
theorem gX6_goalBehind_X6_noteHolders : GoodIn wsX6_goalBehind (wsV RX6 76 RX6 yX6_noteHolders wsX6_noteHolders) := goodIn_app (goodIn_of _ (by decide +kernel)) ggX6_goalBehind_X6_noteHolders
theorem dX6_goalBehind_0 : decode cX6_goalBehind 0 = .ok (.iload_n 1, 1) := by decide +kernel
theorem dX6_goalBehind_1 : decode cX6_goalBehind 1 = .ok (.ifCond .lt 11, 3) := by decide +kernel
theorem dX6_goalBehind_4 : decode cX6_goalBehind 4 = .ok (.iload_n 1, 1) := by decide +kernel
theorem dX6_goalBehind_5 : decode cX6_goalBehind 5 = .ok (.aload_n 0, 1) := by decide +kernel
theorem dX6_goalBehind_6 : decode cX6_goalBehind 6 = .ok (.getfield 30, 3) := by decide +kernel
theorem dX6_goalBehind_9 : decode cX6_goalBehind 9 = .ok (.if_icmp .le 5, 3) := by decide +kernel
theorem dX6_goalBehind_12 : decode cX6_goalBehind 12 = .ok (.iconst (-1), 1) := by decide +kernel
theorem dX6_goalBehind_13 : decode cX6_goalBehind 13 = .ok (.ireturn, 1) := by decide +kernel
theorem dX6_goalBehind_14 : decode cX6_goalBehind 14 = .ok (.iconst 0, 1) := by decide +kernel
theorem dX6_goalBehind_15 : decode cX6_goalBehind 15 = .ok (.istore_n 3, 1) := by decide +kernel
theorem dX6_goalBehind_16 : decode cX6_goalBehind 16 = .ok (.iload_n 3, 1) := by decide +kernel
theorem dX6_goalBehind_17 : decode cX6_goalBehind 17 = .ok (.bipush 33, 2) := by decide +kernel
theorem dX6_goalBehind_19 : decode cX6_goalBehind 19 = .ok (.if_icmp .ge 16, 3) := by decide +kernel
theorem dX6_goalBehind_22 : decode cX6_goalBehind 22 = .ok (.aload_n 0, 1) := by decide +kernel
theorem dX6_goalBehind_23 : decode cX6_goalBehind 23 = .ok (.getfield 26, 3) := by decide +kernel
theorem dX6_goalBehind_26 : decode cX6_goalBehind 26 = .ok (.iload_n 3, 1) := by decide +kernel
theorem dX6_goalBehind_27 : decode cX6_goalBehind 27 = .ok (.iconst (-1), 1) := by decide +kernel
theorem dX6_goalBehind_28 : decode cX6_goalBehind 28 = .ok (.iastore, 1) := by decide +kernel
theorem dX6_goalBehind_29 : decode cX6_goalBehind 29 = .ok (.iinc 3 1, 3) := by decide +kernel
theorem dX6_goalBehind_32 : decode cX6_goalBehind 32 = .ok (.goto (-16), 3) := by decide +kernel
theorem dX6_goalBehind_35 : decode cX6_goalBehind 35 = .ok (.aload_n 0, 1) := by decide +kernel
theorem dX6_goalBehind_36 : decode cX6_goalBehind 36 = .ok (.aload_n 0, 1) := by decide +kernel
theorem dX6_goalBehind_37 : decode cX6_goalBehind 37 = .ok (.getfield 14, 3) := by decide +kernel
theorem dX6_goalBehind_40 : decode cX6_goalBehind 40 = .ok (.aload_n 0, 1) := by decide +kernel
theorem dX6_goalBehind_41 : decode cX6_goalBehind 41 = .ok (.getfield 14, 3) := by decide +kernel
theorem dX6_goalBehind_44 : decode cX6_goalBehind 44 = .ok (.getfield 48, 3) := by decide +kernel
theorem dX6_goalBehind_47 : decode cX6_goalBehind 47 = .ok (.iload_n 2, 1) := by decide +kernel
theorem dX6_goalBehind_48 : decode cX6_goalBehind 48 = .ok (.iconst 1, 1) := by decide +kernel
theorem dX6_goalBehind_49 : decode cX6_goalBehind 49 = .ok (.invokevirtual 76, 3) := by decide +kernel
theorem dX6_goalBehind_52 : decode cX6_goalBehind 52 = .ok (.aload_n 0, 1) := by decide +kernel
theorem dX6_goalBehind_53 : decode cX6_goalBehind 53 = .ok (.aload_n 0, 1) := by decide +kernel
theorem dX6_goalBehind_54 : decode cX6_goalBehind 54 = .ok (.getfield 20, 3) := by decide +kernel
theorem dX6_goalBehind_57 : decode cX6_goalBehind 57 = .ok (.iload_n 1, 1) := by decide +kernel
theorem dX6_goalBehind_58 : decode cX6_goalBehind 58 = .ok (.aload_n 0, 1) := by decide +kernel
theorem dX6_goalBehind_59 : decode cX6_goalBehind 59 = .ok (.getfield 20, 3) := by decide +kernel
theorem dX6_goalBehind_62 : decode cX6_goalBehind 62 = .ok (.getfield 48, 3) := by decide +kernel
theorem dX6_goalBehind_65 : decode cX6_goalBehind 65 = .ok (.invokestatic 80, 3) := by decide +kernel
theorem dX6_goalBehind_68 : decode cX6_goalBehind 68 = .ok (.iload_n 2, 1) := by decide +kernel
theorem dX6_goalBehind_69 : decode cX6_goalBehind 69 = .ok (.iconst 1, 1) := by decide +kernel
theorem dX6_goalBehind_70 : decode cX6_goalBehind 70 = .ok (.invokevirtual 76, 3) := by decide +kernel
theorem dX6_goalBehind_73 : decode cX6_goalBehind 73 = .ok (.aload_n 0, 1) := by decide +kernel
theorem dX6_goalBehind_74 : decode cX6_goalBehind 74 = .ok (.aload_n 0, 1) := by decide +kernel
theorem dX6_goalBehind_75 : decode cX6_goalBehind 75 = .ok (.getfield 23, 3) := by decide +kernel
theorem dX6_goalBehind_78 : decode cX6_goalBehind 78 = .ok (.iload_n 1, 1) := by decide +kernel
theorem dX6_goalBehind_79 : decode cX6_goalBehind 79 = .ok (.aload_n 0, 1) := by decide +kernel
theorem dX6_goalBehind_80 : decode cX6_goalBehind 80 = .ok (.getfield 20, 3) := by decide +kernel
theorem dX6_goalBehind_83 : decode cX6_goalBehind 83 = .ok (.getfield 48, 3) := by decide +kernel
theorem dX6_goalBehind_86 : decode cX6_goalBehind 86 = .ok (.isub, 1) := by decide +kernel
theorem dX6_goalBehind_87 : decode cX6_goalBehind 87 = .ok (.iload_n 2, 1) := by decide +kernel
theorem dX6_goalBehind_88 : decode cX6_goalBehind 88 = .ok (.iconst 0, 1) := by decide +kernel
theorem dX6_goalBehind_89 : decode cX6_goalBehind 89 = .ok (.invokevirtual 76, 3) := by decide +kernel
theorem dX6_goalBehind_92 : decode cX6_goalBehind 92 = .ok (.bipush 32, 2) := by decide +kernel
theorem dX6_goalBehind_94 : decode cX6_goalBehind 94 = .ok (.istore_n 3, 1) := by decide +kernel
theorem dX6_goalBehind_95 : decode cX6_goalBehind 95 = .ok (.iload_n 3, 1) := by decide +kernel
theorem dX6_goalBehind_96 : decode cX6_goalBehind 96 = .ok (.ifCond .lt 26, 3) := by decide +kernel
theorem dX6_goalBehind_99 : decode cX6_goalBehind 99 = .ok (.aload_n 0, 1) := by decide +kernel
theorem dX6_goalBehind_100 : decode cX6_goalBehind 100 = .ok (.getfield 26, 3) := by decide +kernel
theorem dX6_goalBehind_103 : decode cX6_goalBehind 103 = .ok (.iload_n 3, 1) := by decide +kernel
theorem dX6_goalBehind_104 : decode cX6_goalBehind 104 = .ok (.iaload, 1) := by decide +kernel
theorem dX6_goalBehind_105 : decode cX6_goalBehind 105 = .ok (.iconst (-1), 1) := by decide +kernel
theorem dX6_goalBehind_106 : decode cX6_goalBehind 106 = .ok (.if_icmp .eq 10, 3) := by decide +kernel
theorem dX6_goalBehind_109 : decode cX6_goalBehind 109 = .ok (.aload_n 0, 1) := by decide +kernel
theorem dX6_goalBehind_110 : decode cX6_goalBehind 110 = .ok (.getfield 26, 3) := by decide +kernel
theorem dX6_goalBehind_113 : decode cX6_goalBehind 113 = .ok (.iload_n 3, 1) := by decide +kernel
theorem dX6_goalBehind_114 : decode cX6_goalBehind 114 = .ok (.iaload, 1) := by decide +kernel
theorem dX6_goalBehind_115 : decode cX6_goalBehind 115 = .ok (.ireturn, 1) := by decide +kernel
theorem dX6_goalBehind_116 : decode cX6_goalBehind 116 = .ok (.iinc 3 (-1), 3) := by decide +kernel
theorem dX6_goalBehind_119 : decode cX6_goalBehind 119 = .ok (.goto (-24), 3) := by decide +kernel
theorem dX6_goalBehind_122 : decode cX6_goalBehind 122 = .ok (.bipush 16, 2) := by decide +kernel
theorem dX6_goalBehind_124 : decode cX6_goalBehind 124 = .ok (.ireturn, 1) := by decide +kernel
set_option maxRecDepth 20000 in
theorem ggX6_noteHolders_X7_begins : GoodIn wsX6_noteHolders wsX7_begins := goodIn_r _ [8, 9, 10, 7, 11, 12, 13, 14, 15] (by decide +kernel) (by decide +kernel)
set_option maxRecDepth 20000 in
theorem gX6_noteHolders_X7_begins_n86 : GoodIn wsX6_noteHolders (wsX7_begins) := ggX6_noteHolders_X7_begins
theorem dX6_noteHolders_0 : decode cX6_noteHolders 0 = .ok (.iconst 0, 1) := by decide +kernel
theorem dX6_noteHolders_1 : decode cX6_noteHolders 1 = .ok (.istore 5, 2) := by decide +kernel
theorem dX6_noteHolders_3 : decode cX6_noteHolders 3 = .ok (.iload 5, 2) := by decide +kernel
theorem dX6_noteHolders_5 : decode cX6_noteHolders 5 = .ok (.iload_n 2, 1) := by decide +kernel
theorem dX6_noteHolders_6 : decode cX6_noteHolders 6 = .ok (.if_icmp .ge 67, 3) := by decide +kernel
theorem dX6_noteHolders_9 : decode cX6_noteHolders 9 = .ok (.iload 5, 2) := by decide +kernel
theorem dX6_noteHolders_11 : decode cX6_noteHolders 11 = .ok (.aload_n 1, 1) := by decide +kernel
theorem dX6_noteHolders_12 : decode cX6_noteHolders 12 = .ok (.getfield 48, 3) := by decide +kernel
theorem dX6_noteHolders_15 : decode cX6_noteHolders 15 = .ok (.if_icmp .ge 58, 3) := by decide +kernel
theorem dX6_noteHolders_18 : decode cX6_noteHolders 18 = .ok (.iload_n 3, 1) := by decide +kernel
theorem dX6_noteHolders_19 : decode cX6_noteHolders 19 = .ok (.aload_n 1, 1) := by decide +kernel
theorem dX6_noteHolders_20 : decode cX6_noteHolders 20 = .ok (.getfield 52, 3) := by decide +kernel
theorem dX6_noteHolders_23 : decode cX6_noteHolders 23 = .ok (.iload 5, 2) := by decide +kernel
theorem dX6_noteHolders_25 : decode cX6_noteHolders 25 = .ok (.iaload, 1) := by decide +kernel
theorem dX6_noteHolders_26 : decode cX6_noteHolders 26 = .ok (.aload_n 1, 1) := by decide +kernel
theorem dX6_noteHolders_27 : decode cX6_noteHolders 27 = .ok (.getfield 49, 3) := by decide +kernel
theorem dX6_noteHolders_30 : decode cX6_noteHolders 30 = .ok (.iload 5, 2) := by decide +kernel
theorem dX6_noteHolders_32 : decode cX6_noteHolders 32 = .ok (.iaload, 1) := by decide +kernel
theorem dX6_noteHolders_33 : decode cX6_noteHolders 33 = .ok (.invokestatic 86, 3) := by decide +kernel
theorem dX6_noteHolders_36 : decode cX6_noteHolders 36 = .ok (.ifCond .eq 31, 3) := by decide +kernel
theorem dX6_noteHolders_39 : decode cX6_noteHolders 39 = .ok (.aload_n 0, 1) := by decide +kernel
theorem dX6_noteHolders_40 : decode cX6_noteHolders 40 = .ok (.getfield 26, 3) := by decide +kernel
theorem dX6_noteHolders_43 : decode cX6_noteHolders 43 = .ok (.aload_n 1, 1) := by decide +kernel
theorem dX6_noteHolders_44 : decode cX6_noteHolders 44 = .ok (.getfield 49, 3) := by decide +kernel
theorem dX6_noteHolders_47 : decode cX6_noteHolders 47 = .ok (.iload 5, 2) := by decide +kernel
theorem dX6_noteHolders_49 : decode cX6_noteHolders 49 = .ok (.iaload, 1) := by decide +kernel
theorem dX6_noteHolders_50 : decode cX6_noteHolders 50 = .ok (.iload 4, 2) := by decide +kernel
theorem dX6_noteHolders_52 : decode cX6_noteHolders 52 = .ok (.ifCond .eq 13, 3) := by decide +kernel
theorem dX6_noteHolders_55 : decode cX6_noteHolders 55 = .ok (.aload_n 1, 1) := by decide +kernel
theorem dX6_noteHolders_56 : decode cX6_noteHolders 56 = .ok (.getfield 55, 3) := by decide +kernel
theorem dX6_noteHolders_59 : decode cX6_noteHolders 59 = .ok (.iload 5, 2) := by decide +kernel
theorem dX6_noteHolders_61 : decode cX6_noteHolders 61 = .ok (.iaload, 1) := by decide +kernel
theorem dX6_noteHolders_62 : decode cX6_noteHolders 62 = .ok (.goto 4, 3) := by decide +kernel
theorem dX6_noteHolders_65 : decode cX6_noteHolders 65 = .ok (.iconst (-1), 1) := by decide +kernel
theorem dX6_noteHolders_66 : decode cX6_noteHolders 66 = .ok (.iastore, 1) := by decide +kernel
theorem dX6_noteHolders_67 : decode cX6_noteHolders 67 = .ok (.iinc 5 1, 3) := by decide +kernel
theorem dX6_noteHolders_70 : decode cX6_noteHolders 70 = .ok (.goto (-67), 3) := by decide +kernel
theorem dX6_noteHolders_73 : decode cX6_noteHolders 73 = .ok (.return_, 1) := by decide +kernel
set_option maxRecDepth 20000 in
theorem ggX7_init_X2_init : GoodIn wsX7_init wsX2_init := goodIn_r _ [33, 34, 2, 3, 35, 36, 37, 38, 39, 40, 41, 42, 43, 87, 88, 89, 90, 91] (by decide +kernel) (by decide +kernel)
set_option maxRecDepth 20000 in
theorem gX7_init_X2_init : GoodIn wsX7_init (wsX2_init) := ggX7_init_X2_init
set_option maxRecDepth 20000 in
theorem ggX7_init_X5_init : GoodIn wsX7_init wsX5_init := goodIn_r _ [45, 46, 2, 3, 40, 47, 48, 49, 50, 51, 52, 92, 93, 94, 95, 96, 97, 98] (by decide +kernel) (by decide +kernel)
set_option maxRecDepth 20000 in
theorem gX7_init_X5_init_n27 : GoodIn wsX7_init (wsX5_init) := ggX7_init_X5_init
set_option maxRecDepth 20000 in
theorem ggX7_init_X3_init : GoodIn wsX7_init wsX3_init := goodIn_r _ [54, 55, 2, 3, 56, 57, 40, 58, 59, 99, 100, 101, 102, 103, 104] (by decide +kernel) (by decide +kernel)
set_option maxRecDepth 20000 in
theorem gX7_init_X3_init_n34 : GoodIn wsX7_init (wsX3_init) := ggX7_init_X3_init
set_option maxRecDepth 20000 in
theorem ggX7_init_X1_init : GoodIn wsX7_init wsX1_init := goodIn_r _ [61, 62, 2, 3] (by decide +kernel) (by decide +kernel)
set_option maxRecDepth 20000 in
theorem gX7_init_X1_init_n44 : GoodIn wsX7_init (wsX1_init) := ggX7_init_X1_init
set_option maxRecDepth 20000 in
theorem ggX7_init_X0_init : GoodIn wsX7_init wsX0_init := goodIn_r _ [64, 65, 2, 3, 56, 66, 40, 67, 107, 108, 109] (by decide +kernel) (by decide +kernel)
set_option maxRecDepth 20000 in
theorem gX7_init_X0_init_n51 : GoodIn wsX7_init (wsX0_init) := ggX7_init_X0_init
set_option maxRecDepth 20000 in
theorem ggX7_init_X6_init : GoodIn wsX7_init wsX6_init := goodIn_r _ [69, 70, 2, 3, 71, 6, 7, 72, 73, 74, 40, 75, 76, 77, 32, 33, 34, 35, 36, 37, 38, 39, 41, 42, 43, 87, 88, 89, 90, 91, 110, 111, 112, 113, 114] (by decide +kernel) (by decide +kernel)
set_option maxRecDepth 20000 in
theorem gX7_init_X6_init_n58 : GoodIn wsX7_init (wsX6_init) := ggX7_init_X6_init
theorem dX7_init_0 : decode cX7_init 0 = .ok (.aload_n 0, 1) := by decide +kernel
theorem dX7_init_1 : decode cX7_init 1 = .ok (.invokespecial 1, 3) := by decide +kernel
theorem dX7_init_4 : decode cX7_init 4 = .ok (.aload_n 0, 1) := by decide +kernel
theorem dX7_init_5 : decode cX7_init 5 = .ok (.bipush 6, 2) := by decide +kernel
theorem dX7_init_7 : decode cX7_init 7 = .ok (.anewarray 9, 3) := by decide +kernel
theorem dX7_init_10 : decode cX7_init 10 = .ok (.putfield 11, 3) := by decide +kernel
theorem dX7_init_13 : decode cX7_init 13 = .ok (.iconst 0, 1) := by decide +kernel
theorem dX7_init_14 : decode cX7_init 14 = .ok (.istore_n 1, 1) := by decide +kernel
theorem dX7_init_15 : decode cX7_init 15 = .ok (.iload_n 1, 1) := by decide +kernel
theorem dX7_init_16 : decode cX7_init 16 = .ok (.bipush 6, 2) := by decide +kernel
theorem dX7_init_18 : decode cX7_init 18 = .ok (.if_icmp .ge 24, 3) := by decide +kernel
theorem dX7_init_21 : decode cX7_init 21 = .ok (.aload_n 0, 1) := by decide +kernel
theorem dX7_init_22 : decode cX7_init 22 = .ok (.getfield 11, 3) := by decide +kernel
theorem dX7_init_25 : decode cX7_init 25 = .ok (.iload_n 1, 1) := by decide +kernel
theorem dX7_init_26 : decode cX7_init 26 = .ok (.new 9, 3) := by decide +kernel
theorem dX7_init_29 : decode cX7_init 29 = .ok (.dup, 1) := by decide +kernel
theorem dX7_init_30 : decode cX7_init 30 = .ok (.bipush 64, 2) := by decide +kernel
theorem dX7_init_32 : decode cX7_init 32 = .ok (.invokespecial 15, 3) := by decide +kernel
theorem dX7_init_35 : decode cX7_init 35 = .ok (.aastore, 1) := by decide +kernel
theorem dX7_init_36 : decode cX7_init 36 = .ok (.iinc 1 1, 3) := by decide +kernel
theorem dX7_init_39 : decode cX7_init 39 = .ok (.goto (-24), 3) := by decide +kernel
theorem dX7_init_42 : decode cX7_init 42 = .ok (.aload_n 0, 1) := by decide +kernel
theorem dX7_init_43 : decode cX7_init 43 = .ok (.new 9, 3) := by decide +kernel
theorem dX7_init_46 : decode cX7_init 46 = .ok (.dup, 1) := by decide +kernel
theorem dX7_init_47 : decode cX7_init 47 = .ok (.sipush 128, 3) := by decide +kernel
theorem dX7_init_50 : decode cX7_init 50 = .ok (.invokespecial 15, 3) := by decide +kernel
theorem dX7_init_53 : decode cX7_init 53 = .ok (.putfield 18, 3) := by decide +kernel
theorem dX7_init_56 : decode cX7_init 56 = .ok (.aload_n 0, 1) := by decide +kernel
theorem dX7_init_57 : decode cX7_init 57 = .ok (.new 9, 3) := by decide +kernel
theorem dX7_init_60 : decode cX7_init 60 = .ok (.dup, 1) := by decide +kernel
theorem dX7_init_61 : decode cX7_init 61 = .ok (.bipush 65, 2) := by decide +kernel
theorem dX7_init_63 : decode cX7_init 63 = .ok (.invokespecial 15, 3) := by decide +kernel
theorem dX7_init_66 : decode cX7_init 66 = .ok (.putfield 22, 3) := by decide +kernel
theorem dX7_init_69 : decode cX7_init 69 = .ok (.aload_n 0, 1) := by decide +kernel
theorem dX7_init_70 : decode cX7_init 70 = .ok (.new 25, 3) := by decide +kernel
theorem dX7_init_73 : decode cX7_init 73 = .ok (.dup, 1) := by decide +kernel
theorem dX7_init_74 : decode cX7_init 74 = .ok (.invokespecial 27, 3) := by decide +kernel
theorem dX7_init_77 : decode cX7_init 77 = .ok (.putfield 28, 3) := by decide +kernel
theorem dX7_init_80 : decode cX7_init 80 = .ok (.aload_n 0, 1) := by decide +kernel
theorem dX7_init_81 : decode cX7_init 81 = .ok (.new 32, 3) := by decide +kernel
theorem dX7_init_84 : decode cX7_init 84 = .ok (.dup, 1) := by decide +kernel
theorem dX7_init_85 : decode cX7_init 85 = .ok (.invokespecial 34, 3) := by decide +kernel
theorem dX7_init_88 : decode cX7_init 88 = .ok (.putfield 35, 3) := by decide +kernel
theorem dX7_init_91 : decode cX7_init 91 = .ok (.aload_n 0, 1) := by decide +kernel
theorem dX7_init_92 : decode cX7_init 92 = .ok (.new 32, 3) := by decide +kernel
theorem dX7_init_95 : decode cX7_init 95 = .ok (.dup, 1) := by decide +kernel
theorem dX7_init_96 : decode cX7_init 96 = .ok (.invokespecial 34, 3) := by decide +kernel
theorem dX7_init_99 : decode cX7_init 99 = .ok (.putfield 39, 3) := by decide +kernel
theorem dX7_init_102 : decode cX7_init 102 = .ok (.aload_n 0, 1) := by decide +kernel
theorem dX7_init_103 : decode cX7_init 103 = .ok (.new 42, 3) := by decide +kernel
theorem dX7_init_106 : decode cX7_init 106 = .ok (.dup, 1) := by decide +kernel
theorem dX7_init_107 : decode cX7_init 107 = .ok (.invokespecial 44, 3) := by decide +kernel
theorem dX7_init_110 : decode cX7_init 110 = .ok (.putfield 45, 3) := by decide +kernel
theorem dX7_init_113 : decode cX7_init 113 = .ok (.aload_n 0, 1) := by decide +kernel
theorem dX7_init_114 : decode cX7_init 114 = .ok (.new 49, 3) := by decide +kernel
theorem dX7_init_117 : decode cX7_init 117 = .ok (.dup, 1) := by decide +kernel
theorem dX7_init_118 : decode cX7_init 118 = .ok (.invokespecial 51, 3) := by decide +kernel
theorem dX7_init_121 : decode cX7_init 121 = .ok (.putfield 52, 3) := by decide +kernel
theorem dX7_init_124 : decode cX7_init 124 = .ok (.aload_n 0, 1) := by decide +kernel
theorem dX7_init_125 : decode cX7_init 125 = .ok (.new 56, 3) := by decide +kernel
theorem dX7_init_128 : decode cX7_init 128 = .ok (.dup, 1) := by decide +kernel
theorem dX7_init_129 : decode cX7_init 129 = .ok (.invokespecial 58, 3) := by decide +kernel
theorem dX7_init_132 : decode cX7_init 132 = .ok (.putfield 59, 3) := by decide +kernel
theorem dX7_init_135 : decode cX7_init 135 = .ok (.return_, 1) := by decide +kernel
set_option maxRecDepth 20000 in
theorem ggX7_put_X7_isBook : GoodIn wsX7_put wsX7_isBook := goodIn_r _ [6] (by decide +kernel) (by decide +kernel)
set_option maxRecDepth 20000 in
theorem gX7_put_X7_isBook : GoodIn wsX7_put (va_wsS RX7 63 yX7_isBook wsX7_isBook) := goodIn_app (goodIn_of _ (by decide +kernel)) ggX7_put_X7_isBook
set_option maxRecDepth 20000 in
theorem ggX7_put_X7_isBeginning : GoodIn wsX7_put wsX7_isBeginning := goodIn_r _ [9, 10, 11, 5, 12, 13, 14, 15, 16] (by decide +kernel) (by decide +kernel)
set_option maxRecDepth 20000 in
theorem gX7_put_X7_isBeginning : GoodIn wsX7_put (va_wsS RX7 67 yX7_isBeginning wsX7_isBeginning) := goodIn_app (goodIn_of _ (by decide +kernel)) ggX7_put_X7_isBeginning
set_option maxRecDepth 20000 in
theorem ggX7_put_X7_isGoal : GoodIn wsX7_put wsX7_isGoal := goodIn_r _ [19] (by decide +kernel) (by decide +kernel)
set_option maxRecDepth 20000 in
theorem gX7_put_X7_isGoal : GoodIn wsX7_put (va_wsS RX7 71 yX7_isGoal wsX7_isGoal) := goodIn_app (goodIn_of _ (by decide +kernel)) ggX7_put_X7_isGoal
set_option maxRecDepth 20000 in
theorem ggX7_put_X2_placeOf : GoodIn wsX7_put wsX2_placeOf := goodIn_r _ [24, 25, 26, 27, 28, 23, 29, 30, 31, 32, 5, 33, 34, 58, 59, 60, 61, 62] (by decide +kernel) (by decide +kernel)
set_option maxRecDepth 20000 in
theorem gX7_put_X2_placeOf : GoodIn wsX7_put (wsV RX7 74 RX2 yX2_placeOf wsX2_placeOf) := goodIn_app (goodIn_of _ (by decide +kernel)) ggX7_put_X2_placeOf
set_option maxRecDepth 20000 in
theorem ggX7_put_X2_isAt : GoodIn wsX7_put wsX2_isAt := goodIn_r _ [38, 25, 30, 31, 58, 59, 60, 61, 62] (by decide +kernel) (by decide +kernel)
set_option maxRecDepth 20000 in
theorem gX7_put_X2_isAt : GoodIn wsX7_put (wsV RX7 78 RX2 yX2_isAt wsX2_isAt) := goodIn_app (goodIn_of _ (by decide +kernel)) ggX7_put_X2_isAt
set_option maxRecDepth 20000 in
theorem ggX7_put_X2_insert : GoodIn wsX7_put wsX2_insert := goodIn_r _ [42, 25, 43, 30, 31, 44, 45, 46, 47, 23, 48, 58, 59, 60, 61, 62] (by decide +kernel) (by decide +kernel)
set_option maxRecDepth 20000 in
theorem gX7_put_X2_insert : GoodIn wsX7_put (wsV RX7 86 RX2 yX2_insert wsX2_insert) := goodIn_app (goodIn_of _ (by decide +kernel)) ggX7_put_X2_insert
theorem dX7_put_0 : decode cX7_put 0 = .ok (.iload_n 1, 1) := by decide +kernel
theorem dX7_put_1 : decode cX7_put 1 = .ok (.invokestatic 63, 3) := by decide +kernel
theorem dX7_put_4 : decode cX7_put 4 = .ok (.ifCond .eq 19, 3) := by decide +kernel
theorem dX7_put_7 : decode cX7_put 7 = .ok (.iload_n 2, 1) := by decide +kernel
theorem dX7_put_8 : decode cX7_put 8 = .ok (.iload_n 3, 1) := by decide +kernel
theorem dX7_put_9 : decode cX7_put 9 = .ok (.invokestatic 67, 3) := by decide +kernel
theorem dX7_put_12 : decode cX7_put 12 = .ok (.ifCond .eq 11, 3) := by decide +kernel
theorem dX7_put_15 : decode cX7_put 15 = .ok (.iload 4, 2) := by decide +kernel
theorem dX7_put_17 : decode cX7_put 17 = .ok (.invokestatic 71, 3) := by decide +kernel
theorem dX7_put_20 : decode cX7_put 20 = .ok (.ifCond .ne 5, 3) := by decide +kernel
theorem dX7_put_23 : decode cX7_put 23 = .ok (.iconst (-1), 1) := by decide +kernel
theorem dX7_put_24 : decode cX7_put 24 = .ok (.ireturn, 1) := by decide +kernel
theorem dX7_put_25 : decode cX7_put 25 = .ok (.aload_n 0, 1) := by decide +kernel
theorem dX7_put_26 : decode cX7_put 26 = .ok (.getfield 11, 3) := by decide +kernel
theorem dX7_put_29 : decode cX7_put 29 = .ok (.iload_n 1, 1) := by decide +kernel
theorem dX7_put_30 : decode cX7_put 30 = .ok (.aaload, 1) := by decide +kernel
theorem dX7_put_31 : decode cX7_put 31 = .ok (.astore 5, 2) := by decide +kernel
theorem dX7_put_33 : decode cX7_put 33 = .ok (.aload 5, 2) := by decide +kernel
theorem dX7_put_35 : decode cX7_put 35 = .ok (.iload_n 2, 1) := by decide +kernel
theorem dX7_put_36 : decode cX7_put 36 = .ok (.iload_n 3, 1) := by decide +kernel
theorem dX7_put_37 : decode cX7_put 37 = .ok (.invokevirtual 74, 3) := by decide +kernel
theorem dX7_put_40 : decode cX7_put 40 = .ok (.istore 6, 2) := by decide +kernel
theorem dX7_put_42 : decode cX7_put 42 = .ok (.aload 5, 2) := by decide +kernel
theorem dX7_put_44 : decode cX7_put 44 = .ok (.iload 6, 2) := by decide +kernel
theorem dX7_put_46 : decode cX7_put 46 = .ok (.iload_n 2, 1) := by decide +kernel
theorem dX7_put_47 : decode cX7_put 47 = .ok (.iload_n 3, 1) := by decide +kernel
theorem dX7_put_48 : decode cX7_put 48 = .ok (.invokevirtual 78, 3) := by decide +kernel
theorem dX7_put_51 : decode cX7_put 51 = .ok (.ifCond .eq 15, 3) := by decide +kernel
theorem dX7_put_54 : decode cX7_put 54 = .ok (.aload 5, 2) := by decide +kernel
theorem dX7_put_56 : decode cX7_put 56 = .ok (.getfield 82, 3) := by decide +kernel
theorem dX7_put_59 : decode cX7_put 59 = .ok (.iload 6, 2) := by decide +kernel
theorem dX7_put_61 : decode cX7_put 61 = .ok (.iload 4, 2) := by decide +kernel
theorem dX7_put_63 : decode cX7_put 63 = .ok (.iastore, 1) := by decide +kernel
theorem dX7_put_64 : decode cX7_put 64 = .ok (.iconst 1, 1) := by decide +kernel
theorem dX7_put_65 : decode cX7_put 65 = .ok (.ireturn, 1) := by decide +kernel
theorem dX7_put_66 : decode cX7_put 66 = .ok (.aload 5, 2) := by decide +kernel
theorem dX7_put_68 : decode cX7_put 68 = .ok (.iload 6, 2) := by decide +kernel
theorem dX7_put_70 : decode cX7_put 70 = .ok (.iload_n 2, 1) := by decide +kernel
theorem dX7_put_71 : decode cX7_put 71 = .ok (.iload_n 3, 1) := by decide +kernel
theorem dX7_put_72 : decode cX7_put 72 = .ok (.iload 4, 2) := by decide +kernel
theorem dX7_put_74 : decode cX7_put 74 = .ok (.invokevirtual 86, 3) := by decide +kernel
theorem dX7_put_77 : decode cX7_put 77 = .ok (.ifCond .eq 7, 3) := by decide +kernel
theorem dX7_put_80 : decode cX7_put 80 = .ok (.iconst 0, 1) := by decide +kernel
theorem dX7_put_81 : decode cX7_put 81 = .ok (.goto 4, 3) := by decide +kernel
theorem dX7_put_84 : decode cX7_put 84 = .ok (.iconst (-1), 1) := by decide +kernel
theorem dX7_put_85 : decode cX7_put 85 = .ok (.ireturn, 1) := by decide +kernel
set_option maxRecDepth 20000 in
theorem ggX7_drop_X7_isBook : GoodIn wsX7_drop wsX7_isBook := goodIn_r _ [5] (by decide +kernel) (by decide +kernel)
set_option maxRecDepth 20000 in
theorem gX7_drop_X7_isBook : GoodIn wsX7_drop (va_wsS RX7 63 yX7_isBook wsX7_isBook) := goodIn_app (goodIn_of _ (by decide +kernel)) ggX7_drop_X7_isBook
set_option maxRecDepth 20000 in
theorem ggX7_drop_X2_placeOf : GoodIn wsX7_drop wsX2_placeOf := goodIn_r _ [10, 11, 12, 13, 14, 9, 15, 16, 17, 18, 4, 19, 20, 43, 44, 45, 46, 47] (by decide +kernel) (by decide +kernel)
set_option maxRecDepth 20000 in
theorem gX7_drop_X2_placeOf : GoodIn wsX7_drop (wsV RX7 74 RX2 yX2_placeOf wsX2_placeOf) := goodIn_app (goodIn_of _ (by decide +kernel)) ggX7_drop_X2_placeOf
set_option maxRecDepth 20000 in
theorem ggX7_drop_X2_isAt : GoodIn wsX7_drop wsX2_isAt := goodIn_r _ [24, 11, 16, 17, 43, 44, 45, 46, 47] (by decide +kernel) (by decide +kernel)
set_option maxRecDepth 20000 in
theorem gX7_drop_X2_isAt : GoodIn wsX7_drop (wsV RX7 78 RX2 yX2_isAt wsX2_isAt) := goodIn_app (goodIn_of _ (by decide +kernel)) ggX7_drop_X2_isAt
set_option maxRecDepth 20000 in
theorem ggX7_drop_X2_removeAt : GoodIn wsX7_drop wsX2_removeAt := goodIn_r _ [28, 11, 16, 17, 29, 30, 31, 32, 9, 33, 43, 44, 45, 46, 47] (by decide +kernel) (by decide +kernel)
set_option maxRecDepth 20000 in
theorem gX7_drop_X2_removeAt : GoodIn wsX7_drop (wsV RX7 90 RX2 yX2_removeAt wsX2_removeAt) := goodIn_app (goodIn_of _ (by decide +kernel)) ggX7_drop_X2_removeAt
theorem dX7_drop_0 : decode cX7_drop 0 = .ok (.iload_n 1, 1) := by decide +kernel
theorem dX7_drop_1 : decode cX7_drop 1 = .ok (.invokestatic 63, 3) := by decide +kernel
theorem dX7_drop_4 : decode cX7_drop 4 = .ok (.ifCond .ne 5, 3) := by decide +kernel
theorem dX7_drop_7 : decode cX7_drop 7 = .ok (.iconst 0, 1) := by decide +kernel
theorem dX7_drop_8 : decode cX7_drop 8 = .ok (.ireturn, 1) := by decide +kernel
theorem dX7_drop_9 : decode cX7_drop 9 = .ok (.aload_n 0, 1) := by decide +kernel
theorem dX7_drop_10 : decode cX7_drop 10 = .ok (.getfield 11, 3) := by decide +kernel
theorem dX7_drop_13 : decode cX7_drop 13 = .ok (.iload_n 1, 1) := by decide +kernel
theorem dX7_drop_14 : decode cX7_drop 14 = .ok (.aaload, 1) := by decide +kernel
theorem dX7_drop_15 : decode cX7_drop 15 = .ok (.astore 4, 2) := by decide +kernel
theorem dX7_drop_17 : decode cX7_drop 17 = .ok (.aload 4, 2) := by decide +kernel
theorem dX7_drop_19 : decode cX7_drop 19 = .ok (.iload_n 2, 1) := by decide +kernel
theorem dX7_drop_20 : decode cX7_drop 20 = .ok (.iload_n 3, 1) := by decide +kernel
theorem dX7_drop_21 : decode cX7_drop 21 = .ok (.invokevirtual 74, 3) := by decide +kernel
theorem dX7_drop_24 : decode cX7_drop 24 = .ok (.istore 5, 2) := by decide +kernel
theorem dX7_drop_26 : decode cX7_drop 26 = .ok (.aload 4, 2) := by decide +kernel
theorem dX7_drop_28 : decode cX7_drop 28 = .ok (.iload 5, 2) := by decide +kernel
theorem dX7_drop_30 : decode cX7_drop 30 = .ok (.iload_n 2, 1) := by decide +kernel
theorem dX7_drop_31 : decode cX7_drop 31 = .ok (.iload_n 3, 1) := by decide +kernel
theorem dX7_drop_32 : decode cX7_drop 32 = .ok (.invokevirtual 78, 3) := by decide +kernel
theorem dX7_drop_35 : decode cX7_drop 35 = .ok (.ifCond .ne 5, 3) := by decide +kernel
theorem dX7_drop_38 : decode cX7_drop 38 = .ok (.iconst 0, 1) := by decide +kernel
theorem dX7_drop_39 : decode cX7_drop 39 = .ok (.ireturn, 1) := by decide +kernel
theorem dX7_drop_40 : decode cX7_drop 40 = .ok (.aload 4, 2) := by decide +kernel
theorem dX7_drop_42 : decode cX7_drop 42 = .ok (.iload 5, 2) := by decide +kernel
theorem dX7_drop_44 : decode cX7_drop 44 = .ok (.invokevirtual 90, 3) := by decide +kernel
theorem dX7_drop_47 : decode cX7_drop 47 = .ok (.iconst 1, 1) := by decide +kernel
theorem dX7_drop_48 : decode cX7_drop 48 = .ok (.ireturn, 1) := by decide +kernel
set_option maxRecDepth 20000 in
theorem ggX7_copy_X7_isBook : GoodIn wsX7_copy wsX7_isBook := goodIn_r _ [6] (by decide +kernel) (by decide +kernel)
set_option maxRecDepth 20000 in
theorem gX7_copy_X7_isBook : GoodIn wsX7_copy (va_wsS RX7 63 yX7_isBook wsX7_isBook) := goodIn_app (goodIn_of _ (by decide +kernel)) ggX7_copy_X7_isBook
set_option maxRecDepth 20000 in
theorem ggX7_copy_X2_become : GoodIn wsX7_copy wsX2_become := goodIn_r _ [11, 12, 13, 14, 15, 16, 17, 18, 19, 20, 21, 22, 23, 10, 24, 34, 35, 36, 37, 38] (by decide +kernel) (by decide +kernel)
set_option maxRecDepth 20000 in
theorem gX7_copy_X2_become : GoodIn wsX7_copy (wsV RX7 93 RX2 yX2_become wsX2_become) := goodIn_app (goodIn_of _ (by decide +kernel)) ggX7_copy_X2_become
theorem dX7_copy_0 : decode cX7_copy 0 = .ok (.iload_n 1, 1) := by decide +kernel
theorem dX7_copy_1 : decode cX7_copy 1 = .ok (.invokestatic 63, 3) := by decide +kernel
theorem dX7_copy_4 : decode cX7_copy 4 = .ok (.ifCond .eq 10, 3) := by decide +kernel
theorem dX7_copy_7 : decode cX7_copy 7 = .ok (.iload_n 2, 1) := by decide +kernel
theorem dX7_copy_8 : decode cX7_copy 8 = .ok (.invokestatic 63, 3) := by decide +kernel
theorem dX7_copy_11 : decode cX7_copy 11 = .ok (.ifCond .ne 5, 3) := by decide +kernel
theorem dX7_copy_14 : decode cX7_copy 14 = .ok (.iconst (-1), 1) := by decide +kernel
theorem dX7_copy_15 : decode cX7_copy 15 = .ok (.ireturn, 1) := by decide +kernel
theorem dX7_copy_16 : decode cX7_copy 16 = .ok (.aload_n 0, 1) := by decide +kernel
theorem dX7_copy_17 : decode cX7_copy 17 = .ok (.getfield 11, 3) := by decide +kernel
theorem dX7_copy_20 : decode cX7_copy 20 = .ok (.iload_n 2, 1) := by decide +kernel
theorem dX7_copy_21 : decode cX7_copy 21 = .ok (.aaload, 1) := by decide +kernel
theorem dX7_copy_22 : decode cX7_copy 22 = .ok (.aload_n 0, 1) := by decide +kernel
theorem dX7_copy_23 : decode cX7_copy 23 = .ok (.getfield 11, 3) := by decide +kernel
theorem dX7_copy_26 : decode cX7_copy 26 = .ok (.iload_n 1, 1) := by decide +kernel
theorem dX7_copy_27 : decode cX7_copy 27 = .ok (.aaload, 1) := by decide +kernel
theorem dX7_copy_28 : decode cX7_copy 28 = .ok (.invokevirtual 93, 3) := by decide +kernel
theorem dX7_copy_31 : decode cX7_copy 31 = .ok (.aload_n 0, 1) := by decide +kernel
theorem dX7_copy_32 : decode cX7_copy 32 = .ok (.getfield 11, 3) := by decide +kernel
theorem dX7_copy_35 : decode cX7_copy 35 = .ok (.iload_n 2, 1) := by decide +kernel
theorem dX7_copy_36 : decode cX7_copy 36 = .ok (.aaload, 1) := by decide +kernel
theorem dX7_copy_37 : decode cX7_copy 37 = .ok (.getfield 97, 3) := by decide +kernel
theorem dX7_copy_40 : decode cX7_copy 40 = .ok (.ireturn, 1) := by decide +kernel
set_option maxRecDepth 20000 in
theorem ggX7_count_X7_isBook : GoodIn wsX7_count wsX7_isBook := goodIn_r _ [6] (by decide +kernel) (by decide +kernel)
set_option maxRecDepth 20000 in
theorem gX7_count_X7_isBook : GoodIn wsX7_count (va_wsS RX7 63 yX7_isBook wsX7_isBook) := goodIn_app (goodIn_of _ (by decide +kernel)) ggX7_count_X7_isBook
theorem dX7_count_0 : decode cX7_count 0 = .ok (.iload_n 1, 1) := by decide +kernel
theorem dX7_count_1 : decode cX7_count 1 = .ok (.invokestatic 63, 3) := by decide +kernel
theorem dX7_count_4 : decode cX7_count 4 = .ok (.ifCond .eq 15, 3) := by decide +kernel
theorem dX7_count_7 : decode cX7_count 7 = .ok (.aload_n 0, 1) := by decide +kernel
theorem dX7_count_8 : decode cX7_count 8 = .ok (.getfield 11, 3) := by decide +kernel
theorem dX7_count_11 : decode cX7_count 11 = .ok (.iload_n 1, 1) := by decide +kernel
theorem dX7_count_12 : decode cX7_count 12 = .ok (.aaload, 1) := by decide +kernel
theorem dX7_count_13 : decode cX7_count 13 = .ok (.getfield 97, 3) := by decide +kernel
theorem dX7_count_16 : decode cX7_count 16 = .ok (.goto 4, 3) := by decide +kernel
theorem dX7_count_19 : decode cX7_count 19 = .ok (.iconst (-1), 1) := by decide +kernel
theorem dX7_count_20 : decode cX7_count 20 = .ok (.ireturn, 1) := by decide +kernel
set_option maxRecDepth 20000 in
theorem ggX7_line_X7_isBook : GoodIn wsX7_line wsX7_isBook := goodIn_r _ [9] (by decide +kernel) (by decide +kernel)
set_option maxRecDepth 20000 in
theorem gX7_line_X7_isBook : GoodIn wsX7_line (va_wsS RX7 63 yX7_isBook wsX7_isBook) := goodIn_app (goodIn_of _ (by decide +kernel)) ggX7_line_X7_isBook
set_option maxRecDepth 20000 in
theorem ggX7_line_X2_first : GoodIn wsX7_line wsX2_first := goodIn_r _ [14, 15, 16, 8, 17, 18, 28, 29, 30, 31, 32] (by decide +kernel) (by decide +kernel)
set_option maxRecDepth 20000 in
theorem gX7_line_X2_first : GoodIn wsX7_line (wsV RX7 103 RX2 yX2_first wsX2_first) := goodIn_app (goodIn_of _ (by decide +kernel)) ggX7_line_X2_first
theorem dX7_line_0 : decode cX7_line 0 = .ok (.iload_n 1, 1) := by decide +kernel
theorem dX7_line_1 : decode cX7_line 1 = .ok (.invokestatic 63, 3) := by decide +kernel
theorem dX7_line_4 : decode cX7_line 4 = .ok (.ifCond .eq 20, 3) := by decide +kernel
theorem dX7_line_7 : decode cX7_line 7 = .ok (.iload_n 2, 1) := by decide +kernel
theorem dX7_line_8 : decode cX7_line 8 = .ok (.ifCond .lt 16, 3) := by decide +kernel
theorem dX7_line_11 : decode cX7_line 11 = .ok (.iload_n 2, 1) := by decide +kernel
theorem dX7_line_12 : decode cX7_line 12 = .ok (.aload_n 0, 1) := by decide +kernel
theorem dX7_line_13 : decode cX7_line 13 = .ok (.getfield 11, 3) := by decide +kernel
theorem dX7_line_16 : decode cX7_line 16 = .ok (.iload_n 1, 1) := by decide +kernel
theorem dX7_line_17 : decode cX7_line 17 = .ok (.aaload, 1) := by decide +kernel
theorem dX7_line_18 : decode cX7_line 18 = .ok (.getfield 97, 3) := by decide +kernel
theorem dX7_line_21 : decode cX7_line 21 = .ok (.if_icmp .lt 7, 3) := by decide +kernel
theorem dX7_line_24 : decode cX7_line 24 = .ok (.ldc2_w 101, 3) := by decide +kernel
theorem dX7_line_27 : decode cX7_line 27 = .ok (.lreturn, 1) := by decide +kernel
theorem dX7_line_28 : decode cX7_line 28 = .ok (.iload_n 3, 1) := by decide +kernel
theorem dX7_line_29 : decode cX7_line 29 = .ok (.tableswitch 64 0 2 #[27, 38, 51], 27) := by decide +kernel
theorem dX7_line_56 : decode cX7_line 56 = .ok (.aload_n 0, 1) := by decide +kernel
theorem dX7_line_57 : decode cX7_line 57 = .ok (.getfield 11, 3) := by decide +kernel
theorem dX7_line_60 : decode cX7_line 60 = .ok (.iload_n 1, 1) := by decide +kernel
theorem dX7_line_61 : decode cX7_line 61 = .ok (.aaload, 1) := by decide +kernel
theorem dX7_line_62 : decode cX7_line 62 = .ok (.iload_n 2, 1) := by decide +kernel
theorem dX7_line_63 : decode cX7_line 63 = .ok (.invokevirtual 103, 3) := by decide +kernel
theorem dX7_line_66 : decode cX7_line 66 = .ok (.lreturn, 1) := by decide +kernel
theorem dX7_line_67 : decode cX7_line 67 = .ok (.aload_n 0, 1) := by decide +kernel
theorem dX7_line_68 : decode cX7_line 68 = .ok (.getfield 11, 3) := by decide +kernel
theorem dX7_line_71 : decode cX7_line 71 = .ok (.iload_n 1, 1) := by decide +kernel
theorem dX7_line_72 : decode cX7_line 72 = .ok (.aaload, 1) := by decide +kernel
theorem dX7_line_73 : decode cX7_line 73 = .ok (.getfield 107, 3) := by decide +kernel
theorem dX7_line_76 : decode cX7_line 76 = .ok (.iload_n 2, 1) := by decide +kernel
theorem dX7_line_77 : decode cX7_line 77 = .ok (.iaload, 1) := by decide +kernel
theorem dX7_line_78 : decode cX7_line 78 = .ok (.i2l, 1) := by decide +kernel
theorem dX7_line_79 : decode cX7_line 79 = .ok (.lreturn, 1) := by decide +kernel
theorem dX7_line_80 : decode cX7_line 80 = .ok (.aload_n 0, 1) := by decide +kernel
theorem dX7_line_81 : decode cX7_line 81 = .ok (.getfield 11, 3) := by decide +kernel
theorem dX7_line_84 : decode cX7_line 84 = .ok (.iload_n 1, 1) := by decide +kernel
theorem dX7_line_85 : decode cX7_line 85 = .ok (.aaload, 1) := by decide +kernel
theorem dX7_line_86 : decode cX7_line 86 = .ok (.getfield 82, 3) := by decide +kernel
theorem dX7_line_89 : decode cX7_line 89 = .ok (.iload_n 2, 1) := by decide +kernel
theorem dX7_line_90 : decode cX7_line 90 = .ok (.iaload, 1) := by decide +kernel
theorem dX7_line_91 : decode cX7_line 91 = .ok (.i2l, 1) := by decide +kernel
theorem dX7_line_92 : decode cX7_line 92 = .ok (.lreturn, 1) := by decide +kernel
theorem dX7_line_93 : decode cX7_line 93 = .ok (.ldc2_w 101, 3) := by decide +kernel
theorem dX7_line_96 : decode cX7_line 96 = .ok (.lreturn, 1) := by decide +kernel
set_option maxRecDepth 20000 in
theorem ggX7_find_X7_isBook : GoodIn wsX7_find wsX7_isBook := goodIn_r _ [6] (by decide +kernel) (by decide +kernel)
set_option maxRecDepth 20000 in
theorem gX7_find_X7_isBook : GoodIn wsX7_find (va_wsS RX7 63 yX7_isBook wsX7_isBook) := goodIn_app (goodIn_of _ (by decide +kernel)) ggX7_find_X7_isBook
set_option maxRecDepth 20000 in
theorem ggX7_find_X2_goalAmong : GoodIn wsX7_find wsX2_goalAmong := goodIn_r _ [11, 12, 13, 14, 15, 10, 16, 17, 18, 19, 20, 21, 22, 23, 24, 5, 25, 26, 27, 28, 29, 39, 40, 41, 42, 43] (by decide +kernel) (by decide +kernel)
set_option maxRecDepth 20000 in
theorem gX7_find_X2_goalAmong : GoodIn wsX7_find (wsV RX7 110 RX2 yX2_goalAmong wsX2_goalAmong) := goodIn_app (goodIn_of _ (by decide +kernel)) ggX7_find_X2_goalAmong
theorem dX7_find_0 : decode cX7_find 0 = .ok (.iload_n 1, 1) := by decide +kernel
theorem dX7_find_1 : decode cX7_find 1 = .ok (.invokestatic 63, 3) := by decide +kernel
theorem dX7_find_4 : decode cX7_find 4 = .ok (.ifCond .eq 25, 3) := by decide +kernel
theorem dX7_find_7 : decode cX7_find 7 = .ok (.aload_n 0, 1) := by decide +kernel
theorem dX7_find_8 : decode cX7_find 8 = .ok (.getfield 11, 3) := by decide +kernel
theorem dX7_find_11 : decode cX7_find 11 = .ok (.iload_n 1, 1) := by decide +kernel
theorem dX7_find_12 : decode cX7_find 12 = .ok (.aaload, 1) := by decide +kernel
theorem dX7_find_13 : decode cX7_find 13 = .ok (.aload_n 0, 1) := by decide +kernel
theorem dX7_find_14 : decode cX7_find 14 = .ok (.getfield 11, 3) := by decide +kernel
theorem dX7_find_17 : decode cX7_find 17 = .ok (.iload_n 1, 1) := by decide +kernel
theorem dX7_find_18 : decode cX7_find 18 = .ok (.aaload, 1) := by decide +kernel
theorem dX7_find_19 : decode cX7_find 19 = .ok (.getfield 97, 3) := by decide +kernel
theorem dX7_find_22 : decode cX7_find 22 = .ok (.iload_n 2, 1) := by decide +kernel
theorem dX7_find_23 : decode cX7_find 23 = .ok (.invokevirtual 110, 3) := by decide +kernel
theorem dX7_find_26 : decode cX7_find 26 = .ok (.goto 4, 3) := by decide +kernel
theorem dX7_find_29 : decode cX7_find 29 = .ok (.iconst (-1), 1) := by decide +kernel
theorem dX7_find_30 : decode cX7_find 30 = .ok (.ireturn, 1) := by decide +kernel
set_option maxRecDepth 20000 in
theorem ggX7_longest_X7_isBook : GoodIn wsX7_longest wsX7_isBook := goodIn_r _ [6] (by decide +kernel) (by decide +kernel)
set_option maxRecDepth 20000 in
theorem gX7_longest_X7_isBook : GoodIn wsX7_longest (va_wsS RX7 63 yX7_isBook wsX7_isBook) := goodIn_app (goodIn_of _ (by decide +kernel)) ggX7_longest_X7_isBook
set_option maxRecDepth 20000 in
theorem ggX7_longest_X2_lastHolder : GoodIn wsX7_longest wsX2_lastHolder := goodIn_r _ [11, 12, 13, 14, 15, 16, 17, 18, 19, 5, 20, 21, 22, 23, 24, 34, 35, 36, 37, 38] (by decide +kernel) (by decide +kernel)
set_option maxRecDepth 20000 in
theorem gX7_longest_X2_lastHolder : GoodIn wsX7_longest (wsV RX7 113 RX2 yX2_lastHolder wsX2_lastHolder) := goodIn_app (goodIn_of _ (by decide +kernel)) ggX7_longest_X2_lastHolder
theorem dX7_longest_0 : decode cX7_longest 0 = .ok (.iload_n 1, 1) := by decide +kernel
theorem dX7_longest_1 : decode cX7_longest 1 = .ok (.invokestatic 63, 3) := by decide +kernel
theorem dX7_longest_4 : decode cX7_longest 4 = .ok (.ifCond .eq 25, 3) := by decide +kernel
theorem dX7_longest_7 : decode cX7_longest 7 = .ok (.aload_n 0, 1) := by decide +kernel
theorem dX7_longest_8 : decode cX7_longest 8 = .ok (.getfield 11, 3) := by decide +kernel
theorem dX7_longest_11 : decode cX7_longest 11 = .ok (.iload_n 1, 1) := by decide +kernel
theorem dX7_longest_12 : decode cX7_longest 12 = .ok (.aaload, 1) := by decide +kernel
theorem dX7_longest_13 : decode cX7_longest 13 = .ok (.aload_n 0, 1) := by decide +kernel
theorem dX7_longest_14 : decode cX7_longest 14 = .ok (.getfield 11, 3) := by decide +kernel
theorem dX7_longest_17 : decode cX7_longest 17 = .ok (.iload_n 1, 1) := by decide +kernel
theorem dX7_longest_18 : decode cX7_longest 18 = .ok (.aaload, 1) := by decide +kernel
theorem dX7_longest_19 : decode cX7_longest 19 = .ok (.getfield 97, 3) := by decide +kernel
theorem dX7_longest_22 : decode cX7_longest 22 = .ok (.iload_n 2, 1) := by decide +kernel
theorem dX7_longest_23 : decode cX7_longest 23 = .ok (.invokevirtual 113, 3) := by decide +kernel
theorem dX7_longest_26 : decode cX7_longest 26 = .ok (.goto 4, 3) := by decide +kernel
theorem dX7_longest_29 : decode cX7_longest 29 = .ok (.iconst (-1), 1) := by decide +kernel
theorem dX7_longest_30 : decode cX7_longest 30 = .ok (.ireturn, 1) := by decide +kernel
set_option maxRecDepth 20000 in
theorem ggX7_least_X7_isBook : GoodIn wsX7_least wsX7_isBook := goodIn_r _ [5] (by decide +kernel) (by decide +kernel)
set_option maxRecDepth 20000 in
theorem gX7_least_X7_isBook : GoodIn wsX7_least (va_wsS RX7 63 yX7_isBook wsX7_isBook) := goodIn_app (goodIn_of _ (by decide +kernel)) ggX7_least_X7_isBook
set_option maxRecDepth 20000 in
theorem ggX7_least_X7_becomeLeast : GoodIn wsX7_least wsX7_becomeLeast := goodIn_r _ [9, 10, 11, 12, 13, 14, 15, 16, 17, 18, 19, 20, 21, 22, 23, 24, 25, 26, 27, 28, 29, 30, 31, 32, 33, 34, 35, 36, 37, 38, 39, 40, 41, 42, 43, 4, 44, 45, 46, 47, 48, 49, 50, 51, 52, 53, 54, 55, 56, 57, 58, 59, 60, 61, 62, 63, 64, 65, 66, 67, 68, 69, 70, 71, 72, 73, 74, 75, 76, 77, 78, 79, 80, 81, 82, 83, 84, 85, 86, 87, 88, 89, 90, 91, 92, 93, 94, 95, 96, 97, 98, 99, 100, 101, 102, 103, 104, 105, 106, 107, 108, 109, 110, 111, 112, 113, 114, 115, 116, 117, 118, 119, 120, 121, 122, 123, 124, 125, 126, 127, 128, 129] (by decide +kernel) (by decide +kernel)
set_option maxRecDepth 20000 in
theorem gX7_least_X7_becomeLeast : GoodIn wsX7_least (wsV RX7 116 RX7 yX7_becomeLeast wsX7_becomeLeast) := goodIn_app (goodIn_of _ (by decide +kernel)) ggX7_least_X7_becomeLeast
theorem dX7_least_0 : decode cX7_least 0 = .ok (.iload_n 1, 1) := by decide +kernel
theorem dX7_least_1 : decode cX7_least 1 = .ok (.invokestatic 63, 3) := by decide +kernel
theorem dX7_least_4 : decode cX7_least 4 = .ok (.ifCond .eq 10, 3) := by decide +kernel
theorem dX7_least_7 : decode cX7_least 7 = .ok (.iload_n 2, 1) := by decide +kernel
theorem dX7_least_8 : decode cX7_least 8 = .ok (.invokestatic 63, 3) := by decide +kernel
theorem dX7_least_11 : decode cX7_least 11 = .ok (.ifCond .ne 5, 3) := by decide +kernel
theorem dX7_least_14 : decode cX7_least 14 = .ok (.iconst (-1), 1) := by decide +kernel
theorem dX7_least_15 : decode cX7_least 15 = .ok (.ireturn, 1) := by decide +kernel
theorem dX7_least_16 : decode cX7_least 16 = .ok (.aload_n 0, 1) := by decide +kernel
theorem dX7_least_17 : decode cX7_least 17 = .ok (.aload_n 0, 1) := by decide +kernel
theorem dX7_least_18 : decode cX7_least 18 = .ok (.getfield 11, 3) := by decide +kernel
theorem dX7_least_21 : decode cX7_least 21 = .ok (.iload_n 1, 1) := by decide +kernel
theorem dX7_least_22 : decode cX7_least 22 = .ok (.aaload, 1) := by decide +kernel
theorem dX7_least_23 : decode cX7_least 23 = .ok (.aload_n 0, 1) := by decide +kernel
theorem dX7_least_24 : decode cX7_least 24 = .ok (.getfield 11, 3) := by decide +kernel
theorem dX7_least_27 : decode cX7_least 27 = .ok (.iload_n 2, 1) := by decide +kernel
theorem dX7_least_28 : decode cX7_least 28 = .ok (.aaload, 1) := by decide +kernel
theorem dX7_least_29 : decode cX7_least 29 = .ok (.invokevirtual 116, 3) := by decide +kernel
theorem dX7_least_32 : decode cX7_least 32 = .ok (.ireturn, 1) := by decide +kernel
set_option maxRecDepth 20000 in
theorem ggX7_set_X7_isBook : GoodIn wsX7_set wsX7_isBook := goodIn_r _ [6] (by decide +kernel) (by decide +kernel)
set_option maxRecDepth 20000 in
theorem gX7_set_X7_isBook : GoodIn wsX7_set (va_wsS RX7 63 yX7_isBook wsX7_isBook) := goodIn_app (goodIn_of _ (by decide +kernel)) ggX7_set_X7_isBook
set_option maxRecDepth 20000 in
theorem ggX7_set_X7_isBeginning : GoodIn wsX7_set wsX7_isBeginning := goodIn_r _ [9, 10, 11, 5, 12, 13, 14, 15, 16] (by decide +kernel) (by decide +kernel)
set_option maxRecDepth 20000 in
theorem gX7_set_X7_isBeginning : GoodIn wsX7_set (va_wsS RX7 67 yX7_isBeginning wsX7_isBeginning) := goodIn_app (goodIn_of _ (by decide +kernel)) ggX7_set_X7_isBeginning
set_option maxRecDepth 20000 in
theorem ggX7_set_X2_placeOf : GoodIn wsX7_set wsX2_placeOf := goodIn_r _ [21, 22, 23, 24, 25, 20, 26, 27, 28, 29, 5, 30, 31, 109, 110, 111, 112, 113] (by decide +kernel) (by decide +kernel)
set_option maxRecDepth 20000 in
theorem gX7_set_X2_placeOf : GoodIn wsX7_set (wsV RX7 74 RX2 yX2_placeOf wsX2_placeOf) := goodIn_app (goodIn_of _ (by decide +kernel)) ggX7_set_X2_placeOf
set_option maxRecDepth 20000 in
theorem ggX7_set_X2_endOf : GoodIn wsX7_set wsX2_endOf := goodIn_r _ [35, 36, 37, 15, 38, 22, 27, 39, 5, 40, 10, 11, 12, 13, 14, 16, 109, 110, 111, 112, 113] (by decide +kernel) (by decide +kernel)
set_option maxRecDepth 20000 in
theorem gX7_set_X2_endOf : GoodIn wsX7_set (wsV RX7 120 RX2 yX2_endOf wsX2_endOf) := goodIn_app (goodIn_of _ (by decide +kernel)) ggX7_set_X2_endOf
set_option maxRecDepth 20000 in
theorem ggX7_set_X2_goalAmong : GoodIn wsX7_set wsX2_goalAmong := goodIn_r _ [44, 45, 46, 47, 48, 20, 49, 22, 50, 14, 15, 16, 27, 28, 39, 5, 40, 10, 11, 12, 13, 109, 110, 111, 112, 113] (by decide +kernel) (by decide +kernel)
set_option maxRecDepth 20000 in
theorem gX7_set_X2_goalAmong : GoodIn wsX7_set (wsV RX7 110 RX2 yX2_goalAmong wsX2_goalAmong) := goodIn_app (goodIn_of _ (by decide +kernel)) ggX7_set_X2_goalAmong
set_option maxRecDepth 20000 in
theorem ggX7_set_X5_plant : GoodIn wsX7_set wsX5_plant := goodIn_r _ [55, 56, 57, 58, 59, 54, 60, 61, 62, 63, 64, 65, 66, 67, 68, 69, 70, 20, 71, 22, 27, 28, 72, 73, 74, 75, 76, 5, 77, 78, 79, 80, 81, 82, 83, 84, 85, 86, 87, 88, 89, 90, 91, 92, 93, 94, 95, 11, 12, 13, 14, 15, 16, 114, 115, 116, 117, 118, 119, 120, 109, 110, 111, 112, 113] (by decide +kernel) (by decide +kernel)
set_option maxRecDepth 20000 in
theorem gX7_set_X5_plant : GoodIn wsX7_set (wsV RX7 124 RX5 yX5_plant wsX5_plant) := goodIn_app (goodIn_of _ (by decide +kernel)) ggX7_set_X5_plant
set_option maxRecDepth 20000 in
theorem ggX7_set_X5_setOfTop : GoodIn wsX7_set wsX5_setOfTop := goodIn_r _ [99, 56, 67, 114, 115, 116, 117, 118, 119, 120] (by decide +kernel) (by decide +kernel)
set_option maxRecDepth 20000 in
theorem gX7_set_X5_setOfTop : GoodIn wsX7_set (wsV RX7 128 RX5 yX5_setOfTop wsX5_setOfTop) := goodIn_app (goodIn_of _ (by decide +kernel)) ggX7_set_X5_setOfTop
theorem dX7_set_0 : decode cX7_set 0 = .ok (.iload_n 1, 1) := by decide +kernel
theorem dX7_set_1 : decode cX7_set 1 = .ok (.invokestatic 63, 3) := by decide +kernel
theorem dX7_set_4 : decode cX7_set 4 = .ok (.ifCond .eq 11, 3) := by decide +kernel
theorem dX7_set_7 : decode cX7_set 7 = .ok (.iload_n 2, 1) := by decide +kernel
theorem dX7_set_8 : decode cX7_set 8 = .ok (.iload_n 3, 1) := by decide +kernel
theorem dX7_set_9 : decode cX7_set 9 = .ok (.invokestatic 67, 3) := by decide +kernel
theorem dX7_set_12 : decode cX7_set 12 = .ok (.ifCond .ne 5, 3) := by decide +kernel
theorem dX7_set_15 : decode cX7_set 15 = .ok (.iconst (-1), 1) := by decide +kernel
theorem dX7_set_16 : decode cX7_set 16 = .ok (.ireturn, 1) := by decide +kernel
theorem dX7_set_17 : decode cX7_set 17 = .ok (.aload_n 0, 1) := by decide +kernel
theorem dX7_set_18 : decode cX7_set 18 = .ok (.getfield 11, 3) := by decide +kernel
theorem dX7_set_21 : decode cX7_set 21 = .ok (.iload_n 1, 1) := by decide +kernel
theorem dX7_set_22 : decode cX7_set 22 = .ok (.aaload, 1) := by decide +kernel
theorem dX7_set_23 : decode cX7_set 23 = .ok (.astore 4, 2) := by decide +kernel
theorem dX7_set_25 : decode cX7_set 25 = .ok (.aload 4, 2) := by decide +kernel
theorem dX7_set_27 : decode cX7_set 27 = .ok (.iload_n 2, 1) := by decide +kernel
theorem dX7_set_28 : decode cX7_set 28 = .ok (.iload_n 3, 1) := by decide +kernel
theorem dX7_set_29 : decode cX7_set 29 = .ok (.invokevirtual 74, 3) := by decide +kernel
theorem dX7_set_32 : decode cX7_set 32 = .ok (.istore 5, 2) := by decide +kernel
theorem dX7_set_34 : decode cX7_set 34 = .ok (.aload 4, 2) := by decide +kernel
theorem dX7_set_36 : decode cX7_set 36 = .ok (.iload 5, 2) := by decide +kernel
theorem dX7_set_38 : decode cX7_set 38 = .ok (.iload_n 2, 1) := by decide +kernel
theorem dX7_set_39 : decode cX7_set 39 = .ok (.iload_n 3, 1) := by decide +kernel
theorem dX7_set_40 : decode cX7_set 40 = .ok (.invokevirtual 120, 3) := by decide +kernel
theorem dX7_set_43 : decode cX7_set 43 = .ok (.istore 6, 2) := by decide +kernel
theorem dX7_set_45 : decode cX7_set 45 = .ok (.aload_n 0, 1) := by decide +kernel
theorem dX7_set_46 : decode cX7_set 46 = .ok (.getfield 28, 3) := by decide +kernel
theorem dX7_set_49 : decode cX7_set 49 = .ok (.aload 4, 2) := by decide +kernel
theorem dX7_set_51 : decode cX7_set 51 = .ok (.iload 5, 2) := by decide +kernel
theorem dX7_set_53 : decode cX7_set 53 = .ok (.iload 6, 2) := by decide +kernel
theorem dX7_set_55 : decode cX7_set 55 = .ok (.iload_n 2, 1) := by decide +kernel
theorem dX7_set_56 : decode cX7_set 56 = .ok (.iload_n 3, 1) := by decide +kernel
theorem dX7_set_57 : decode cX7_set 57 = .ok (.aload 4, 2) := by decide +kernel
theorem dX7_set_59 : decode cX7_set 59 = .ok (.iload 5, 2) := by decide +kernel
theorem dX7_set_61 : decode cX7_set 61 = .ok (.iload_n 2, 1) := by decide +kernel
theorem dX7_set_62 : decode cX7_set 62 = .ok (.invokevirtual 110, 3) := by decide +kernel
theorem dX7_set_65 : decode cX7_set 65 = .ok (.invokevirtual 124, 3) := by decide +kernel
theorem dX7_set_68 : decode cX7_set 68 = .ok (.aload_n 0, 1) := by decide +kernel
theorem dX7_set_69 : decode cX7_set 69 = .ok (.getfield 28, 3) := by decide +kernel
theorem dX7_set_72 : decode cX7_set 72 = .ok (.invokevirtual 128, 3) := by decide +kernel
theorem dX7_set_75 : decode cX7_set 75 = .ok (.ireturn, 1) := by decide +kernel
set_option maxRecDepth 20000 in
theorem ggX7_spans_X7_isBook : GoodIn wsX7_spans wsX7_isBook := goodIn_r _ [6] (by decide +kernel) (by decide +kernel)
set_option maxRecDepth 20000 in
theorem gX7_spans_X7_isBook : GoodIn wsX7_spans (va_wsS RX7 63 yX7_isBook wsX7_isBook) := goodIn_app (goodIn_of _ (by decide +kernel)) ggX7_spans_X7_isBook
set_option maxRecDepth 20000 in
theorem ggX7_spans_X3_measure : GoodIn wsX7_spans wsX3_measure := goodIn_r _ [11, 12, 13, 14, 15, 16, 17, 18, 19, 20, 21, 22, 23, 24, 5, 25, 26, 27, 28, 29, 10, 30, 31, 32, 33, 34, 35, 36, 37, 38, 39, 40, 41, 42, 43, 44, 45, 46, 47, 48, 58, 59, 60, 61, 62, 63, 64, 65, 66, 67, 68] (by decide +kernel) (by decide +kernel)
set_option maxRecDepth 20000 in
theorem gX7_spans_X3_measure : GoodIn wsX7_spans (wsV RX7 132 RX3 yX3_measure wsX3_measure) := goodIn_app (goodIn_of _ (by decide +kernel)) ggX7_spans_X3_measure
theorem dX7_spans_0 : decode cX7_spans 0 = .ok (.iload_n 1, 1) := by decide +kernel
theorem dX7_spans_1 : decode cX7_spans 1 = .ok (.invokestatic 63, 3) := by decide +kernel
theorem dX7_spans_4 : decode cX7_spans 4 = .ok (.ifCond .ne 5, 3) := by decide +kernel
theorem dX7_spans_7 : decode cX7_spans 7 = .ok (.iconst (-1), 1) := by decide +kernel
theorem dX7_spans_8 : decode cX7_spans 8 = .ok (.ireturn, 1) := by decide +kernel
theorem dX7_spans_9 : decode cX7_spans 9 = .ok (.aload_n 0, 1) := by decide +kernel
theorem dX7_spans_10 : decode cX7_spans 10 = .ok (.getfield 35, 3) := by decide +kernel
theorem dX7_spans_13 : decode cX7_spans 13 = .ok (.aload_n 0, 1) := by decide +kernel
theorem dX7_spans_14 : decode cX7_spans 14 = .ok (.getfield 11, 3) := by decide +kernel
theorem dX7_spans_17 : decode cX7_spans 17 = .ok (.iload_n 1, 1) := by decide +kernel
theorem dX7_spans_18 : decode cX7_spans 18 = .ok (.aaload, 1) := by decide +kernel
theorem dX7_spans_19 : decode cX7_spans 19 = .ok (.invokevirtual 132, 3) := by decide +kernel
theorem dX7_spans_22 : decode cX7_spans 22 = .ok (.aload_n 0, 1) := by decide +kernel
theorem dX7_spans_23 : decode cX7_spans 23 = .ok (.getfield 35, 3) := by decide +kernel
theorem dX7_spans_26 : decode cX7_spans 26 = .ok (.getfield 135, 3) := by decide +kernel
theorem dX7_spans_29 : decode cX7_spans 29 = .ok (.ireturn, 1) := by decide +kernel
set_option maxRecDepth 20000 in
theorem ggX7_span_X7_isBook : GoodIn wsX7_span wsX7_isBook := goodIn_r _ [7] (by decide +kernel) (by decide +kernel)
set_option maxRecDepth 20000 in
theorem gX7_span_X7_isBook : GoodIn wsX7_span (va_wsS RX7 63 yX7_isBook wsX7_isBook) := goodIn_app (goodIn_of _ (by decide +kernel)) ggX7_span_X7_isBook
set_option maxRecDepth 20000 in
theorem ggX7_span_X3_measure : GoodIn wsX7_span wsX3_measure := goodIn_r _ [12, 13, 14, 15, 16, 17, 18, 19, 20, 21, 22, 23, 24, 25, 6, 26, 27, 28, 29, 30, 11, 31, 32, 33, 34, 35, 36, 37, 38, 39, 40, 41, 42, 43, 44, 45, 46, 47, 48, 49, 69, 70, 71, 72, 73, 74, 75, 76, 77, 78, 79] (by decide +kernel) (by decide +kernel)
set_option maxRecDepth 20000 in
theorem gX7_span_X3_measure : GoodIn wsX7_span (wsV RX7 132 RX3 yX3_measure wsX3_measure) := goodIn_app (goodIn_of _ (by decide +kernel)) ggX7_span_X3_measure
set_option maxRecDepth 20000 in
theorem ggX7_span_X3_tell : GoodIn wsX7_span wsX3_tell := goodIn_r _ [53, 13, 54, 49, 48, 55, 56, 57, 11, 58, 59, 69, 70, 71, 72, 73, 74] (by decide +kernel) (by decide +kernel)
set_option maxRecDepth 20000 in
theorem gX7_span_X3_tell : GoodIn wsX7_span (wsV RX7 136 RX3 yX3_tell wsX3_tell) := goodIn_app (goodIn_of _ (by decide +kernel)) ggX7_span_X3_tell
theorem dX7_span_0 : decode cX7_span 0 = .ok (.iload_n 1, 1) := by decide +kernel
theorem dX7_span_1 : decode cX7_span 1 = .ok (.invokestatic 63, 3) := by decide +kernel
theorem dX7_span_4 : decode cX7_span 4 = .ok (.ifCond .ne 7, 3) := by decide +kernel
theorem dX7_span_7 : decode cX7_span 7 = .ok (.ldc2_w 101, 3) := by decide +kernel
theorem dX7_span_10 : decode cX7_span 10 = .ok (.lreturn, 1) := by decide +kernel
theorem dX7_span_11 : decode cX7_span 11 = .ok (.aload_n 0, 1) := by decide +kernel
theorem dX7_span_12 : decode cX7_span 12 = .ok (.getfield 35, 3) := by decide +kernel
theorem dX7_span_15 : decode cX7_span 15 = .ok (.aload_n 0, 1) := by decide +kernel
theorem dX7_span_16 : decode cX7_span 16 = .ok (.getfield 11, 3) := by decide +kernel
theorem dX7_span_19 : decode cX7_span 19 = .ok (.iload_n 1, 1) := by decide +kernel
theorem dX7_span_20 : decode cX7_span 20 = .ok (.aaload, 1) := by decide +kernel
theorem dX7_span_21 : decode cX7_span 21 = .ok (.invokevirtual 132, 3) := by decide +kernel
theorem dX7_span_24 : decode cX7_span 24 = .ok (.aload_n 0, 1) := by decide +kernel
theorem dX7_span_25 : decode cX7_span 25 = .ok (.getfield 35, 3) := by decide +kernel
theorem dX7_span_28 : decode cX7_span 28 = .ok (.iload_n 2, 1) := by decide +kernel
theorem dX7_span_29 : decode cX7_span 29 = .ok (.iload_n 3, 1) := by decide +kernel
theorem dX7_span_30 : decode cX7_span 30 = .ok (.invokevirtual 136, 3) := by decide +kernel
theorem dX7_span_33 : decode cX7_span 33 = .ok (.lreturn, 1) := by decide +kernel
set_option maxRecDepth 20000 in
theorem ggX7_share_X7_isBook : GoodIn wsX7_share wsX7_isBook := goodIn_r _ [7] (by decide +kernel) (by decide +kernel)
set_option maxRecDepth 20000 in
theorem gX7_share_X7_isBook : GoodIn wsX7_share (va_wsS RX7 63 yX7_isBook wsX7_isBook) := goodIn_app (goodIn_of _ (by decide +kernel)) ggX7_share_X7_isBook
set_option maxRecDepth 20000 in
theorem ggX7_share_X7_isGoal : GoodIn wsX7_share wsX7_isGoal := goodIn_r _ [10] (by decide +kernel) (by decide +kernel)
set_option maxRecDepth 20000 in
theorem gX7_share_X7_isGoal : GoodIn wsX7_share (va_wsS RX7 71 yX7_isGoal wsX7_isGoal) := goodIn_app (goodIn_of _ (by decide +kernel)) ggX7_share_X7_isGoal
set_option maxRecDepth 20000 in
theorem ggX7_share_X3_measure : GoodIn wsX7_share wsX3_measure := goodIn_r _ [15, 16, 17, 18, 19, 20, 21, 22, 23, 24, 25, 26, 27, 28, 6, 29, 30, 31, 32, 33, 14, 34, 35, 36, 37, 38, 39, 40, 41, 42, 43, 44, 45, 46, 47, 48, 49, 50, 51, 52, 71, 72, 73, 74, 75, 76, 77, 78, 79, 80, 81] (by decide +kernel) (by decide +kernel)
set_option maxRecDepth 20000 in
theorem gX7_share_X3_measure : GoodIn wsX7_share (wsV RX7 132 RX3 yX3_measure wsX3_measure) := goodIn_app (goodIn_of _ (by decide +kernel)) ggX7_share_X3_measure
set_option maxRecDepth 20000 in
theorem ggX7_share_X3_addressesTo : GoodIn wsX7_share wsX3_addressesTo := goodIn_r _ [56, 16, 51, 52, 57, 58, 59, 14, 60, 61, 71, 72, 73, 74, 75, 76] (by decide +kernel) (by decide +kernel)
set_option maxRecDepth 20000 in
theorem gX7_share_X3_addressesTo : GoodIn wsX7_share (wsV RX7 140 RX3 yX3_addressesTo wsX3_addressesTo) := goodIn_app (goodIn_of _ (by decide +kernel)) ggX7_share_X3_addressesTo
theorem dX7_share_0 : decode cX7_share 0 = .ok (.iload_n 1, 1) := by decide +kernel
theorem dX7_share_1 : decode cX7_share 1 = .ok (.invokestatic 63, 3) := by decide +kernel
theorem dX7_share_4 : decode cX7_share 4 = .ok (.ifCond .eq 10, 3) := by decide +kernel
theorem dX7_share_7 : decode cX7_share 7 = .ok (.iload_n 2, 1) := by decide +kernel
theorem dX7_share_8 : decode cX7_share 8 = .ok (.invokestatic 71, 3) := by decide +kernel
theorem dX7_share_11 : decode cX7_share 11 = .ok (.ifCond .ne 7, 3) := by decide +kernel
theorem dX7_share_14 : decode cX7_share 14 = .ok (.ldc2_w 101, 3) := by decide +kernel
theorem dX7_share_17 : decode cX7_share 17 = .ok (.lreturn, 1) := by decide +kernel
theorem dX7_share_18 : decode cX7_share 18 = .ok (.aload_n 0, 1) := by decide +kernel
theorem dX7_share_19 : decode cX7_share 19 = .ok (.getfield 35, 3) := by decide +kernel
theorem dX7_share_22 : decode cX7_share 22 = .ok (.aload_n 0, 1) := by decide +kernel
theorem dX7_share_23 : decode cX7_share 23 = .ok (.getfield 11, 3) := by decide +kernel
theorem dX7_share_26 : decode cX7_share 26 = .ok (.iload_n 1, 1) := by decide +kernel
theorem dX7_share_27 : decode cX7_share 27 = .ok (.aaload, 1) := by decide +kernel
theorem dX7_share_28 : decode cX7_share 28 = .ok (.invokevirtual 132, 3) := by decide +kernel
theorem dX7_share_31 : decode cX7_share 31 = .ok (.aload_n 0, 1) := by decide +kernel
theorem dX7_share_32 : decode cX7_share 32 = .ok (.getfield 35, 3) := by decide +kernel
theorem dX7_share_35 : decode cX7_share 35 = .ok (.iload_n 2, 1) := by decide +kernel
theorem dX7_share_36 : decode cX7_share 36 = .ok (.invokevirtual 140, 3) := by decide +kernel
theorem dX7_share_39 : decode cX7_share 39 = .ok (.lreturn, 1) := by decide +kernel
set_option maxRecDepth 20000 in
theorem ggX7_same_X7_isBook : GoodIn wsX7_same wsX7_isBook := goodIn_r _ [5] (by decide +kernel) (by decide +kernel)
set_option maxRecDepth 20000 in
theorem gX7_same_X7_isBook : GoodIn wsX7_same (va_wsS RX7 63 yX7_isBook wsX7_isBook) := goodIn_app (goodIn_of _ (by decide +kernel)) ggX7_same_X7_isBook
set_option maxRecDepth 20000 in
theorem ggX7_same_X7_measureDifference : GoodIn wsX7_same wsX7_measureDifference := goodIn_r _ [9, 10, 11, 12, 1, 13, 14, 15, 16, 17, 18, 19, 20, 21, 22, 23, 24, 25, 26, 27, 28, 29, 30, 4, 31, 32, 33, 34, 35, 36, 37, 38, 39, 40, 41, 42, 43, 44, 45, 46, 47, 48, 49, 50, 51, 52, 53, 54, 55, 56, 57, 58, 59, 60, 61, 62, 63, 64, 65, 66, 67, 68, 69, 70, 71, 72, 73, 74, 75, 76, 77, 78, 79, 82, 83, 84, 85, 86, 87, 88, 89, 90, 91, 92, 80, 81] (by decide +kernel) (by decide +kernel)
set_option maxRecDepth 20000 in
theorem gX7_same_X7_measureDifference : GoodIn wsX7_same (wsV RX7 143 RX7 yX7_measureDifference wsX7_measureDifference) := goodIn_app (goodIn_of _ (by decide +kernel)) ggX7_same_X7_measureDifference
theorem dX7_same_0 : decode cX7_same 0 = .ok (.iload_n 1, 1) := by decide +kernel
theorem dX7_same_1 : decode cX7_same 1 = .ok (.invokestatic 63, 3) := by decide +kernel
theorem dX7_same_4 : decode cX7_same 4 = .ok (.ifCond .eq 10, 3) := by decide +kernel
theorem dX7_same_7 : decode cX7_same 7 = .ok (.iload_n 2, 1) := by decide +kernel
theorem dX7_same_8 : decode cX7_same 8 = .ok (.invokestatic 63, 3) := by decide +kernel
theorem dX7_same_11 : decode cX7_same 11 = .ok (.ifCond .ne 5, 3) := by decide +kernel
theorem dX7_same_14 : decode cX7_same 14 = .ok (.iconst (-1), 1) := by decide +kernel
theorem dX7_same_15 : decode cX7_same 15 = .ok (.ireturn, 1) := by decide +kernel
theorem dX7_same_16 : decode cX7_same 16 = .ok (.aload_n 0, 1) := by decide +kernel
theorem dX7_same_17 : decode cX7_same 17 = .ok (.iload_n 1, 1) := by decide +kernel
theorem dX7_same_18 : decode cX7_same 18 = .ok (.iload_n 2, 1) := by decide +kernel
theorem dX7_same_19 : decode cX7_same 19 = .ok (.invokevirtual 143, 3) := by decide +kernel
theorem dX7_same_22 : decode cX7_same 22 = .ok (.aload_n 0, 1) := by decide +kernel
theorem dX7_same_23 : decode cX7_same 23 = .ok (.getfield 45, 3) := by decide +kernel
theorem dX7_same_26 : decode cX7_same 26 = .ok (.getfield 147, 3) := by decide +kernel
theorem dX7_same_29 : decode cX7_same 29 = .ok (.lconst 0, 1) := by decide +kernel
theorem dX7_same_30 : decode cX7_same 30 = .ok (.lcmp, 1) := by decide +kernel
theorem dX7_same_31 : decode cX7_same 31 = .ok (.ifCond .ne 7, 3) := by decide +kernel
theorem dX7_same_34 : decode cX7_same 34 = .ok (.iconst 1, 1) := by decide +kernel
theorem dX7_same_35 : decode cX7_same 35 = .ok (.goto 4, 3) := by decide +kernel
theorem dX7_same_38 : decode cX7_same 38 = .ok (.iconst 0, 1) := by decide +kernel
theorem dX7_same_39 : decode cX7_same 39 = .ok (.ireturn, 1) := by decide +kernel
set_option maxRecDepth 20000 in
theorem ggX7_differ_X7_isBook : GoodIn wsX7_differ wsX7_isBook := goodIn_r _ [6] (by decide +kernel) (by decide +kernel)
set_option maxRecDepth 20000 in
theorem gX7_differ_X7_isBook : GoodIn wsX7_differ (va_wsS RX7 63 yX7_isBook wsX7_isBook) := goodIn_app (goodIn_of _ (by decide +kernel)) ggX7_differ_X7_isBook
set_option maxRecDepth 20000 in
theorem ggX7_differ_X7_measureDifference : GoodIn wsX7_differ wsX7_measureDifference := goodIn_r _ [10, 11, 12, 13, 2, 14, 15, 16, 17, 18, 19, 20, 21, 22, 23, 24, 25, 26, 27, 28, 29, 30, 31, 5, 32, 33, 34, 35, 36, 37, 38, 39, 40, 41, 42, 43, 44, 45, 46, 47, 48, 49, 50, 51, 52, 53, 54, 55, 56, 57, 58, 59, 60, 61, 62, 63, 64, 65, 66, 67, 68, 69, 70, 71, 72, 73, 74, 75, 76, 77, 78, 79, 80, 83, 84, 85, 86, 87, 88, 89, 90, 91, 92, 93, 81, 82] (by decide +kernel) (by decide +kernel)
set_option maxRecDepth 20000 in
theorem gX7_differ_X7_measureDifference : GoodIn wsX7_differ (wsV RX7 143 RX7 yX7_measureDifference wsX7_measureDifference) := goodIn_app (goodIn_of _ (by decide +kernel)) ggX7_differ_X7_measureDifference
theorem dX7_differ_0 : decode cX7_differ 0 = .ok (.iload_n 1, 1) := by decide +kernel
theorem dX7_differ_1 : decode cX7_differ 1 = .ok (.invokestatic 63, 3) := by decide +kernel
theorem dX7_differ_4 : decode cX7_differ 4 = .ok (.ifCond .eq 19, 3) := by decide +kernel
theorem dX7_differ_7 : decode cX7_differ 7 = .ok (.iload_n 2, 1) := by decide +kernel
theorem dX7_differ_8 : decode cX7_differ 8 = .ok (.invokestatic 63, 3) := by decide +kernel
theorem dX7_differ_11 : decode cX7_differ 11 = .ok (.ifCond .eq 12, 3) := by decide +kernel
theorem dX7_differ_14 : decode cX7_differ 14 = .ok (.iload_n 3, 1) := by decide +kernel
theorem dX7_differ_15 : decode cX7_differ 15 = .ok (.ifCond .lt 8, 3) := by decide +kernel
theorem dX7_differ_18 : decode cX7_differ 18 = .ok (.iload_n 3, 1) := by decide +kernel
theorem dX7_differ_19 : decode cX7_differ 19 = .ok (.iconst 1, 1) := by decide +kernel
theorem dX7_differ_20 : decode cX7_differ 20 = .ok (.if_icmp .le 7, 3) := by decide +kernel
theorem dX7_differ_23 : decode cX7_differ 23 = .ok (.ldc2_w 101, 3) := by decide +kernel
theorem dX7_differ_26 : decode cX7_differ 26 = .ok (.lreturn, 1) := by decide +kernel
theorem dX7_differ_27 : decode cX7_differ 27 = .ok (.aload_n 0, 1) := by decide +kernel
theorem dX7_differ_28 : decode cX7_differ 28 = .ok (.iload_n 1, 1) := by decide +kernel
theorem dX7_differ_29 : decode cX7_differ 29 = .ok (.iload_n 2, 1) := by decide +kernel
theorem dX7_differ_30 : decode cX7_differ 30 = .ok (.invokevirtual 143, 3) := by decide +kernel
theorem dX7_differ_33 : decode cX7_differ 33 = .ok (.iload_n 3, 1) := by decide +kernel
theorem dX7_differ_34 : decode cX7_differ 34 = .ok (.ifCond .ne 13, 3) := by decide +kernel
theorem dX7_differ_37 : decode cX7_differ 37 = .ok (.aload_n 0, 1) := by decide +kernel
theorem dX7_differ_38 : decode cX7_differ 38 = .ok (.getfield 45, 3) := by decide +kernel
theorem dX7_differ_41 : decode cX7_differ 41 = .ok (.getfield 151, 3) := by decide +kernel
theorem dX7_differ_44 : decode cX7_differ 44 = .ok (.goto 10, 3) := by decide +kernel
theorem dX7_differ_47 : decode cX7_differ 47 = .ok (.aload_n 0, 1) := by decide +kernel
theorem dX7_differ_48 : decode cX7_differ 48 = .ok (.getfield 45, 3) := by decide +kernel
theorem dX7_differ_51 : decode cX7_differ 51 = .ok (.getfield 147, 3) := by decide +kernel
theorem dX7_differ_54 : decode cX7_differ 54 = .ok (.lreturn, 1) := by decide +kernel
set_option maxRecDepth 20000 in
theorem ggX7_combine_X7_isBook : GoodIn wsX7_combine wsX7_isBook := goodIn_r _ [6] (by decide +kernel) (by decide +kernel)
set_option maxRecDepth 20000 in
theorem gX7_combine_X7_isBook : GoodIn wsX7_combine (va_wsS RX7 63 yX7_isBook wsX7_isBook) := goodIn_app (goodIn_of _ (by decide +kernel)) ggX7_combine_X7_isBook
set_option maxRecDepth 20000 in
theorem ggX7_combine_X2_merge : GoodIn wsX7_combine wsX2_merge := goodIn_r _ [11, 12, 13, 14, 15, 16, 17, 10, 18, 19, 20, 21, 22, 23, 5, 24, 25, 26, 27, 28, 29, 30, 31, 32, 33, 34, 35, 36, 37, 38, 39, 40, 41, 42, 43, 44, 45, 46, 47, 48, 49, 50, 51, 52, 53, 54, 55, 56, 147, 148, 149, 150, 151] (by decide +kernel) (by decide +kernel)
set_option maxRecDepth 20000 in
theorem gX7_combine_X2_merge : GoodIn wsX7_combine (wsV RX7 154 RX2 yX2_merge wsX2_merge) := goodIn_app (goodIn_of _ (by decide +kernel)) ggX7_combine_X2_merge
set_option maxRecDepth 20000 in
theorem ggX7_combine_X7_becomeLeast : GoodIn wsX7_combine wsX7_becomeLeast := goodIn_r _ [60, 61, 62, 63, 64, 65, 66, 67, 68, 69, 70, 71, 72, 73, 74, 75, 76, 77, 78, 79, 80, 81, 82, 27, 28, 10, 29, 12, 13, 14, 83, 84, 85, 86, 87, 5, 88, 89, 90, 91, 92, 93, 94, 95, 96, 97, 98, 99, 100, 101, 102, 103, 104, 105, 46, 47, 48, 40, 41, 42, 106, 107, 108, 109, 110, 16, 17, 18, 111, 112, 113, 114, 115, 116, 117, 118, 119, 120, 121, 53, 54, 55, 56, 34, 122, 123, 124, 125, 126, 127, 128, 129, 130, 131, 132, 133, 39, 134, 135, 136, 137, 138, 139, 140, 141, 142, 143, 144, 145, 146, 147, 148, 149, 150, 151, 152, 153, 154, 155, 156, 157, 158] (by decide +kernel) (by decide +kernel)
set_option maxRecDepth 20000 in
theorem gX7_combine_X7_becomeLeast : GoodIn wsX7_combine (wsV RX7 116 RX7 yX7_becomeLeast wsX7_becomeLeast) := goodIn_app (goodIn_of _ (by decide +kernel)) ggX7_combine_X7_becomeLeast
theorem dX7_combine_0 : decode cX7_combine 0 = .ok (.iload_n 1, 1) := by decide +kernel
theorem dX7_combine_1 : decode cX7_combine 1 = .ok (.ifCond .lt 30, 3) := by decide +kernel
theorem dX7_combine_4 : decode cX7_combine 4 = .ok (.iload_n 1, 1) := by decide +kernel
theorem dX7_combine_5 : decode cX7_combine 5 = .ok (.iconst 2, 1) := by decide +kernel
theorem dX7_combine_6 : decode cX7_combine 6 = .ok (.if_icmp .gt 25, 3) := by decide +kernel
theorem dX7_combine_9 : decode cX7_combine 9 = .ok (.iload_n 2, 1) := by decide +kernel
theorem dX7_combine_10 : decode cX7_combine 10 = .ok (.invokestatic 63, 3) := by decide +kernel
theorem dX7_combine_13 : decode cX7_combine 13 = .ok (.ifCond .eq 18, 3) := by decide +kernel
theorem dX7_combine_16 : decode cX7_combine 16 = .ok (.iload_n 3, 1) := by decide +kernel
theorem dX7_combine_17 : decode cX7_combine 17 = .ok (.invokestatic 63, 3) := by decide +kernel
theorem dX7_combine_20 : decode cX7_combine 20 = .ok (.ifCond .eq 11, 3) := by decide +kernel
theorem dX7_combine_23 : decode cX7_combine 23 = .ok (.iload 4, 2) := by decide +kernel
theorem dX7_combine_25 : decode cX7_combine 25 = .ok (.invokestatic 63, 3) := by decide +kernel
theorem dX7_combine_28 : decode cX7_combine 28 = .ok (.ifCond .ne 5, 3) := by decide +kernel
theorem dX7_combine_31 : decode cX7_combine 31 = .ok (.iconst (-1), 1) := by decide +kernel
theorem dX7_combine_32 : decode cX7_combine 32 = .ok (.ireturn, 1) := by decide +kernel
theorem dX7_combine_33 : decode cX7_combine 33 = .ok (.aload_n 0, 1) := by decide +kernel
theorem dX7_combine_34 : decode cX7_combine 34 = .ok (.getfield 18, 3) := by decide +kernel
theorem dX7_combine_37 : decode cX7_combine 37 = .ok (.aload_n 0, 1) := by decide +kernel
theorem dX7_combine_38 : decode cX7_combine 38 = .ok (.getfield 11, 3) := by decide +kernel
theorem dX7_combine_41 : decode cX7_combine 41 = .ok (.iload_n 2, 1) := by decide +kernel
theorem dX7_combine_42 : decode cX7_combine 42 = .ok (.aaload, 1) := by decide +kernel
theorem dX7_combine_43 : decode cX7_combine 43 = .ok (.aload_n 0, 1) := by decide +kernel
theorem dX7_combine_44 : decode cX7_combine 44 = .ok (.getfield 11, 3) := by decide +kernel
theorem dX7_combine_47 : decode cX7_combine 47 = .ok (.iload_n 3, 1) := by decide +kernel
theorem dX7_combine_48 : decode cX7_combine 48 = .ok (.aaload, 1) := by decide +kernel
theorem dX7_combine_49 : decode cX7_combine 49 = .ok (.iload_n 1, 1) := by decide +kernel
theorem dX7_combine_50 : decode cX7_combine 50 = .ok (.invokevirtual 154, 3) := by decide +kernel
theorem dX7_combine_53 : decode cX7_combine 53 = .ok (.aload_n 0, 1) := by decide +kernel
theorem dX7_combine_54 : decode cX7_combine 54 = .ok (.aload_n 0, 1) := by decide +kernel
theorem dX7_combine_55 : decode cX7_combine 55 = .ok (.getfield 18, 3) := by decide +kernel
theorem dX7_combine_58 : decode cX7_combine 58 = .ok (.aload_n 0, 1) := by decide +kernel
theorem dX7_combine_59 : decode cX7_combine 59 = .ok (.getfield 11, 3) := by decide +kernel
theorem dX7_combine_62 : decode cX7_combine 62 = .ok (.iload 4, 2) := by decide +kernel
theorem dX7_combine_64 : decode cX7_combine 64 = .ok (.aaload, 1) := by decide +kernel
theorem dX7_combine_65 : decode cX7_combine 65 = .ok (.invokevirtual 116, 3) := by decide +kernel
theorem dX7_combine_68 : decode cX7_combine 68 = .ok (.ireturn, 1) := by decide +kernel
set_option maxRecDepth 20000 in
theorem ggX7_cover_X7_wide : GoodIn wsX7_cover wsX7_wide := goodIn_r _ [5, 6] (by decide +kernel) (by decide +kernel)
set_option maxRecDepth 20000 in
theorem gX7_cover_X7_wide : GoodIn wsX7_cover (va_wsS RX7 158 yX7_wide wsX7_wide) := goodIn_app (goodIn_of _ (by decide +kernel)) ggX7_cover_X7_wide
set_option maxRecDepth 20000 in
theorem ggX7_cover_X0_make : GoodIn wsX7_cover wsX0_make := goodIn_r _ [11, 12, 13, 14, 15, 16, 10, 17, 18, 19, 20, 21, 31, 32, 33] (by decide +kernel) (by decide +kernel)
set_option maxRecDepth 20000 in
theorem gX7_cover_X0_make : GoodIn wsX7_cover (wsV RX7 161 RX0 yX0_make wsX0_make) := goodIn_app (goodIn_of _ (by decide +kernel)) ggX7_cover_X0_make
theorem dX7_cover_0 : decode cX7_cover 0 = .ok (.iload_n 2, 1) := by decide +kernel
theorem dX7_cover_1 : decode cX7_cover 1 = .ok (.invokestatic 158, 3) := by decide +kernel
theorem dX7_cover_4 : decode cX7_cover 4 = .ok (.iload_n 1, 1) := by decide +kernel
theorem dX7_cover_5 : decode cX7_cover 5 = .ok (.invokestatic 158, 3) := by decide +kernel
theorem dX7_cover_8 : decode cX7_cover 8 = .ok (.lcmp, 1) := by decide +kernel
theorem dX7_cover_9 : decode cX7_cover 9 = .ok (.ifCond .ge 5, 3) := by decide +kernel
theorem dX7_cover_12 : decode cX7_cover 12 = .ok (.iconst (-1), 1) := by decide +kernel
theorem dX7_cover_13 : decode cX7_cover 13 = .ok (.ireturn, 1) := by decide +kernel
theorem dX7_cover_14 : decode cX7_cover 14 = .ok (.aload_n 0, 1) := by decide +kernel
theorem dX7_cover_15 : decode cX7_cover 15 = .ok (.getfield 52, 3) := by decide +kernel
theorem dX7_cover_18 : decode cX7_cover 18 = .ok (.iload_n 1, 1) := by decide +kernel
theorem dX7_cover_19 : decode cX7_cover 19 = .ok (.invokestatic 158, 3) := by decide +kernel
theorem dX7_cover_22 : decode cX7_cover 22 = .ok (.iload_n 2, 1) := by decide +kernel
theorem dX7_cover_23 : decode cX7_cover 23 = .ok (.invokestatic 158, 3) := by decide +kernel
theorem dX7_cover_26 : decode cX7_cover 26 = .ok (.invokevirtual 161, 3) := by decide +kernel
theorem dX7_cover_29 : decode cX7_cover 29 = .ok (.aload_n 0, 1) := by decide +kernel
theorem dX7_cover_30 : decode cX7_cover 30 = .ok (.getfield 52, 3) := by decide +kernel
theorem dX7_cover_33 : decode cX7_cover 33 = .ok (.getfield 165, 3) := by decide +kernel
theorem dX7_cover_36 : decode cX7_cover 36 = .ok (.ireturn, 1) := by decide +kernel
set_option maxRecDepth 20000 in
theorem ggX7_piece_X0_tell : GoodIn wsX7_piece wsX0_tell := goodIn_r _ [6, 7, 8, 9, 10, 20, 21, 22] (by decide +kernel) (by decide +kernel)
set_option maxRecDepth 20000 in
theorem gX7_piece_X0_tell : GoodIn wsX7_piece (wsV RX7 166 RX0 yX0_tell wsX0_tell) := goodIn_app (goodIn_of _ (by decide +kernel)) ggX7_piece_X0_tell
theorem dX7_piece_0 : decode cX7_piece 0 = .ok (.aload_n 0, 1) := by decide +kernel
theorem dX7_piece_1 : decode cX7_piece 1 = .ok (.getfield 52, 3) := by decide +kernel
theorem dX7_piece_4 : decode cX7_piece 4 = .ok (.iload_n 1, 1) := by decide +kernel
theorem dX7_piece_5 : decode cX7_piece 5 = .ok (.iload_n 2, 1) := by decide +kernel
theorem dX7_piece_6 : decode cX7_piece 6 = .ok (.invokevirtual 166, 3) := by decide +kernel
theorem dX7_piece_9 : decode cX7_piece 9 = .ok (.lreturn, 1) := by decide +kernel
set_option maxRecDepth 20000 in
theorem ggX7_way_X7_isBook : GoodIn wsX7_way wsX7_isBook := goodIn_r _ [6] (by decide +kernel) (by decide +kernel)
set_option maxRecDepth 20000 in
theorem gX7_way_X7_isBook : GoodIn wsX7_way (va_wsS RX7 63 yX7_isBook wsX7_isBook) := goodIn_app (goodIn_of _ (by decide +kernel)) ggX7_way_X7_isBook
set_option maxRecDepth 20000 in
theorem ggX7_way_X6_lay : GoodIn wsX7_way wsX6_lay := goodIn_r _ [11, 12, 13, 14, 15, 16, 17, 18, 19, 20, 21, 22, 23, 24, 25, 26, 27, 28, 29, 30, 31, 32, 33, 34, 35, 36, 37, 38, 39, 40, 41, 10, 42, 43, 44, 45, 46, 47, 48, 49, 50, 51, 52, 53, 54, 55, 56, 57, 58, 5, 59, 60, 61, 62, 63, 64, 65, 66, 67, 68, 69, 70, 71, 72, 73, 74, 75, 76, 86, 87, 88, 89, 90, 91, 92, 93, 94, 95] (by decide +kernel) (by decide +kernel)
set_option maxRecDepth 20000 in
theorem gX7_way_X6_lay : GoodIn wsX7_way (wsV RX7 167 RX6 yX6_lay wsX6_lay) := goodIn_app (goodIn_of _ (by decide +kernel)) ggX7_way_X6_lay
theorem dX7_way_0 : decode cX7_way 0 = .ok (.iload_n 1, 1) := by decide +kernel
theorem dX7_way_1 : decode cX7_way 1 = .ok (.invokestatic 63, 3) := by decide +kernel
theorem dX7_way_4 : decode cX7_way 4 = .ok (.ifCond .eq 10, 3) := by decide +kernel
theorem dX7_way_7 : decode cX7_way 7 = .ok (.iload_n 2, 1) := by decide +kernel
theorem dX7_way_8 : decode cX7_way 8 = .ok (.invokestatic 63, 3) := by decide +kernel
theorem dX7_way_11 : decode cX7_way 11 = .ok (.ifCond .ne 5, 3) := by decide +kernel
theorem dX7_way_14 : decode cX7_way 14 = .ok (.iconst (-1), 1) := by decide +kernel
theorem dX7_way_15 : decode cX7_way 15 = .ok (.ireturn, 1) := by decide +kernel
theorem dX7_way_16 : decode cX7_way 16 = .ok (.aload_n 0, 1) := by decide +kernel
theorem dX7_way_17 : decode cX7_way 17 = .ok (.getfield 59, 3) := by decide +kernel
theorem dX7_way_20 : decode cX7_way 20 = .ok (.aload_n 0, 1) := by decide +kernel
theorem dX7_way_21 : decode cX7_way 21 = .ok (.getfield 11, 3) := by decide +kernel
theorem dX7_way_24 : decode cX7_way 24 = .ok (.iload_n 1, 1) := by decide +kernel
theorem dX7_way_25 : decode cX7_way 25 = .ok (.aaload, 1) := by decide +kernel
theorem dX7_way_26 : decode cX7_way 26 = .ok (.aload_n 0, 1) := by decide +kernel
theorem dX7_way_27 : decode cX7_way 27 = .ok (.getfield 11, 3) := by decide +kernel
theorem dX7_way_30 : decode cX7_way 30 = .ok (.iload_n 2, 1) := by decide +kernel
theorem dX7_way_31 : decode cX7_way 31 = .ok (.aaload, 1) := by decide +kernel
theorem dX7_way_32 : decode cX7_way 32 = .ok (.invokevirtual 167, 3) := by decide +kernel
theorem dX7_way_35 : decode cX7_way 35 = .ok (.aload_n 0, 1) := by decide +kernel
theorem dX7_way_36 : decode cX7_way 36 = .ok (.getfield 59, 3) := by decide +kernel
theorem dX7_way_39 : decode cX7_way 39 = .ok (.getfield 171, 3) := by decide +kernel
theorem dX7_way_42 : decode cX7_way 42 = .ok (.ireturn, 1) := by decide +kernel
set_option maxRecDepth 20000 in
theorem ggX7_step_X6_tell : GoodIn wsX7_step wsX6_tell := goodIn_r _ [6, 7, 8, 9, 10, 11, 12, 13, 14, 15, 16, 17, 18, 19, 20, 21, 22, 23, 33, 34, 35, 36, 37, 38, 39, 40, 41, 42] (by decide +kernel) (by decide +kernel)
set_option maxRecDepth 20000 in
theorem gX7_step_X6_tell : GoodIn wsX7_step (wsV RX7 172 RX6 yX6_tell wsX6_tell) := goodIn_app (goodIn_of _ (by decide +kernel)) ggX7_step_X6_tell
theorem dX7_step_0 : decode cX7_step 0 = .ok (.aload_n 0, 1) := by decide +kernel
theorem dX7_step_1 : decode cX7_step 1 = .ok (.getfield 59, 3) := by decide +kernel
theorem dX7_step_4 : decode cX7_step 4 = .ok (.iload_n 1, 1) := by decide +kernel
theorem dX7_step_5 : decode cX7_step 5 = .ok (.iload_n 2, 1) := by decide +kernel
theorem dX7_step_6 : decode cX7_step 6 = .ok (.invokevirtual 172, 3) := by decide +kernel
theorem dX7_step_9 : decode cX7_step 9 = .ok (.lreturn, 1) := by decide +kernel
set_option maxRecDepth 20000 in
theorem ggX7_led_X6_goalBehind : GoodIn wsX7_led wsX6_goalBehind := goodIn_r _ [6, 7, 8, 9, 10, 11, 12, 13, 14, 15, 16, 17, 18, 19, 5, 20, 21, 22, 23, 24, 25, 26, 27, 28, 29, 30, 40, 41, 42, 43, 44, 45, 46, 47, 48, 49] (by decide +kernel) (by decide +kernel)
set_option maxRecDepth 20000 in
theorem gX7_led_X6_goalBehind : GoodIn wsX7_led (wsV RX7 173 RX6 yX6_goalBehind wsX6_goalBehind) := goodIn_app (goodIn_of _ (by decide +kernel)) ggX7_led_X6_goalBehind
theorem dX7_led_0 : decode cX7_led 0 = .ok (.aload_n 0, 1) := by decide +kernel
theorem dX7_led_1 : decode cX7_led 1 = .ok (.getfield 59, 3) := by decide +kernel
theorem dX7_led_4 : decode cX7_led 4 = .ok (.iload_n 1, 1) := by decide +kernel
theorem dX7_led_5 : decode cX7_led 5 = .ok (.iload_n 2, 1) := by decide +kernel
theorem dX7_led_6 : decode cX7_led 6 = .ok (.invokevirtual 173, 3) := by decide +kernel
theorem dX7_led_9 : decode cX7_led 9 = .ok (.ireturn, 1) := by decide +kernel
set_option maxRecDepth 20000 in
theorem ggX7_nodes_X7_isBook : GoodIn wsX7_nodes wsX7_isBook := goodIn_r _ [7] (by decide +kernel) (by decide +kernel)
set_option maxRecDepth 20000 in
theorem gX7_nodes_X7_isBook : GoodIn wsX7_nodes (va_wsS RX7 63 yX7_isBook wsX7_isBook) := goodIn_app (goodIn_of _ (by decide +kernel)) ggX7_nodes_X7_isBook
set_option maxRecDepth 20000 in
theorem ggX7_nodes_X5_plantWhole : GoodIn wsX7_nodes wsX5_plantWhole := goodIn_r _ [12, 13, 14, 15, 16, 17, 11, 18, 19, 20, 21, 22, 23, 24, 25, 26, 27, 28, 29, 30, 31, 32, 33, 34, 35, 36, 37, 38, 6, 39, 40, 41, 42, 43, 44, 45, 46, 47, 48, 49, 50, 51, 52, 53, 54, 55, 56, 57, 58, 59, 60, 61, 62, 95, 96, 97, 98, 99, 100, 101, 102, 103, 104, 105, 106] (by decide +kernel) (by decide +kernel)
set_option maxRecDepth 20000 in
theorem gX7_nodes_X5_plantWhole : GoodIn wsX7_nodes (wsV RX7 176 RX5 yX5_plantWhole wsX5_plantWhole) := goodIn_app (goodIn_of _ (by decide +kernel)) ggX7_nodes_X5_plantWhole
set_option maxRecDepth 20000 in
theorem ggX7_nodes_X4_nodesOf : GoodIn wsX7_nodes wsX4_nodesOf := goodIn_r _ [66, 67, 68, 65, 69, 70, 71, 72, 57, 6, 58, 59, 60, 61, 62, 102, 103, 104, 105, 106] (by decide +kernel) (by decide +kernel)
set_option maxRecDepth 20000 in
theorem gX7_nodes_X4_nodesOf : GoodIn wsX7_nodes (va_wsS RX7 180 yX4_nodesOf wsX4_nodesOf) := goodIn_app (goodIn_of _ (by decide +kernel)) ggX7_nodes_X4_nodesOf
set_option maxRecDepth 20000 in
theorem ggX7_nodes_X4_deepest : GoodIn wsX7_nodes wsX4_deepest := goodIn_r _ [75, 70, 72, 102, 103, 104, 105, 106] (by decide +kernel) (by decide +kernel)
set_option maxRecDepth 20000 in
theorem gX7_nodes_X4_deepest : GoodIn wsX7_nodes (va_wsS RX7 186 yX4_deepest wsX4_deepest) := goodIn_app (goodIn_of _ (by decide +kernel)) ggX7_nodes_X4_deepest
set_option maxRecDepth 20000 in
theorem ggX7_nodes_X4_stepsDownTo : GoodIn wsX7_nodes wsX4_stepsDownTo := goodIn_r _ [78] (by decide +kernel) (by decide +kernel)
set_option maxRecDepth 20000 in
theorem gX7_nodes_X4_stepsDownTo : GoodIn wsX7_nodes (va_wsS RX7 189 yX4_stepsDownTo wsX4_stepsDownTo) := goodIn_app (goodIn_of _ (by decide +kernel)) ggX7_nodes_X4_stepsDownTo
set_option maxRecDepth 20000 in
theorem ggX7_nodes_X4_firstDeepest : GoodIn wsX7_nodes wsX4_firstDeepest := goodIn_r _ [81, 70, 72, 71, 82, 74, 65, 75, 57, 6, 58, 59, 60, 61, 62, 83, 84, 85, 102, 103, 104, 105, 106] (by decide +kernel) (by decide +kernel)
set_option maxRecDepth 20000 in
theorem gX7_nodes_X4_firstDeepest : GoodIn wsX7_nodes (va_wsS RX7 193 yX4_firstDeepest wsX4_firstDeepest) := goodIn_app (goodIn_of _ (by decide +kernel)) ggX7_nodes_X4_firstDeepest
theorem dX7_nodes_0 : decode cX7_nodes 0 = .ok (.iload_n 1, 1) := by decide +kernel
theorem dX7_nodes_1 : decode cX7_nodes 1 = .ok (.invokestatic 63, 3) := by decide +kernel
theorem dX7_nodes_4 : decode cX7_nodes 4 = .ok (.ifCond .ne 7, 3) := by decide +kernel
theorem dX7_nodes_7 : decode cX7_nodes 7 = .ok (.ldc2_w 101, 3) := by decide +kernel
theorem dX7_nodes_10 : decode cX7_nodes 10 = .ok (.lreturn, 1) := by decide +kernel
theorem dX7_nodes_11 : decode cX7_nodes 11 = .ok (.iload_n 2, 1) := by decide +kernel
theorem dX7_nodes_12 : decode cX7_nodes 12 = .ok (.tableswitch 89 0 3 #[32, 54, 65, 79], 32) := by decide +kernel
theorem dX7_nodes_44 : decode cX7_nodes 44 = .ok (.aload_n 0, 1) := by decide +kernel
theorem dX7_nodes_45 : decode cX7_nodes 45 = .ok (.getfield 28, 3) := by decide +kernel
theorem dX7_nodes_48 : decode cX7_nodes 48 = .ok (.aload_n 0, 1) := by decide +kernel
theorem dX7_nodes_49 : decode cX7_nodes 49 = .ok (.getfield 11, 3) := by decide +kernel
theorem dX7_nodes_52 : decode cX7_nodes 52 = .ok (.iload_n 1, 1) := by decide +kernel
theorem dX7_nodes_53 : decode cX7_nodes 53 = .ok (.aaload, 1) := by decide +kernel
theorem dX7_nodes_54 : decode cX7_nodes 54 = .ok (.invokevirtual 176, 3) := by decide +kernel
theorem dX7_nodes_57 : decode cX7_nodes 57 = .ok (.aload_n 0, 1) := by decide +kernel
theorem dX7_nodes_58 : decode cX7_nodes 58 = .ok (.getfield 28, 3) := by decide +kernel
theorem dX7_nodes_61 : decode cX7_nodes 61 = .ok (.getfield 179, 3) := by decide +kernel
theorem dX7_nodes_64 : decode cX7_nodes 64 = .ok (.i2l, 1) := by decide +kernel
theorem dX7_nodes_65 : decode cX7_nodes 65 = .ok (.lreturn, 1) := by decide +kernel
theorem dX7_nodes_66 : decode cX7_nodes 66 = .ok (.aload_n 0, 1) := by decide +kernel
