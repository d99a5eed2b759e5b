theorem dX3_reachStart_66 : decode cX3_reachStart 66 = .ok (.iaload, 1) := by decide +kernel
theorem dX3_reachStart_67 : decode cX3_reachStart 67 = .ok (.invokevirtual 49, 3) := by decide +kernel
theorem dX3_reachStart_70 : decode cX3_reachStart 70 = .ok (.goto (-70), 3) := by decide +kernel
theorem dX3_reachStart_73 : decode cX3_reachStart 73 = .ok (.aload_n 0, 1) := by decide +kernel
theorem dX3_reachStart_74 : decode cX3_reachStart 74 = .ok (.lload_n 2, 1) := by decide +kernel
theorem dX3_reachStart_75 : decode cX3_reachStart 75 = .ok (.aload_n 0, 1) := by decide +kernel
theorem dX3_reachStart_76 : decode cX3_reachStart 76 = .ok (.getfield 30, 3) := by decide +kernel
theorem dX3_reachStart_79 : decode cX3_reachStart 79 = .ok (.ifCond .le 22, 3) := by decide +kernel
theorem dX3_reachStart_82 : decode cX3_reachStart 82 = .ok (.aload_n 1, 1) := by decide +kernel
theorem dX3_reachStart_83 : decode cX3_reachStart 83 = .ok (.getfield 48, 3) := by decide +kernel
theorem dX3_reachStart_86 : decode cX3_reachStart 86 = .ok (.aload_n 0, 1) := by decide +kernel
theorem dX3_reachStart_87 : decode cX3_reachStart 87 = .ok (.getfield 19, 3) := by decide +kernel
theorem dX3_reachStart_90 : decode cX3_reachStart 90 = .ok (.aload_n 0, 1) := by decide +kernel
theorem dX3_reachStart_91 : decode cX3_reachStart 91 = .ok (.getfield 30, 3) := by decide +kernel
theorem dX3_reachStart_94 : decode cX3_reachStart 94 = .ok (.iconst 1, 1) := by decide +kernel
theorem dX3_reachStart_95 : decode cX3_reachStart 95 = .ok (.isub, 1) := by decide +kernel
theorem dX3_reachStart_96 : decode cX3_reachStart 96 = .ok (.iaload, 1) := by decide +kernel
theorem dX3_reachStart_97 : decode cX3_reachStart 97 = .ok (.iaload, 1) := by decide +kernel
theorem dX3_reachStart_98 : decode cX3_reachStart 98 = .ok (.goto 5, 3) := by decide +kernel
theorem dX3_reachStart_101 : decode cX3_reachStart 101 = .ok (.bipush 16, 2) := by decide +kernel
theorem dX3_reachStart_103 : decode cX3_reachStart 103 = .ok (.invokevirtual 49, 3) := by decide +kernel
theorem dX3_reachStart_106 : decode cX3_reachStart 106 = .ok (.return_, 1) := by decide +kernel
theorem dX3_reach_0 : decode cX3_reach 0 = .ok (.lload_n 1, 1) := by decide +kernel
theorem dX3_reach_1 : decode cX3_reach 1 = .ok (.aload_n 0, 1) := by decide +kernel
theorem dX3_reach_2 : decode cX3_reach 2 = .ok (.getfield 26, 3) := by decide +kernel
theorem dX3_reach_5 : decode cX3_reach 5 = .ok (.lcmp, 1) := by decide +kernel
theorem dX3_reach_6 : decode cX3_reach 6 = .ok (.ifCond .gt 4, 3) := by decide +kernel
theorem dX3_reach_9 : decode cX3_reach 9 = .ok (.return_, 1) := by decide +kernel
theorem dX3_reach_10 : decode cX3_reach 10 = .ok (.aload_n 0, 1) := by decide +kernel
theorem dX3_reach_11 : decode cX3_reach 11 = .ok (.getfield 22, 3) := by decide +kernel
theorem dX3_reach_14 : decode cX3_reach 14 = .ok (.ifCond .le 22, 3) := by decide +kernel
theorem dX3_reach_17 : decode cX3_reach 17 = .ok (.aload_n 0, 1) := by decide +kernel
theorem dX3_reach_18 : decode cX3_reach 18 = .ok (.getfield 15, 3) := by decide +kernel
theorem dX3_reach_21 : decode cX3_reach 21 = .ok (.aload_n 0, 1) := by decide +kernel
theorem dX3_reach_22 : decode cX3_reach 22 = .ok (.getfield 22, 3) := by decide +kernel
theorem dX3_reach_25 : decode cX3_reach 25 = .ok (.iconst 1, 1) := by decide +kernel
theorem dX3_reach_26 : decode cX3_reach 26 = .ok (.isub, 1) := by decide +kernel
theorem dX3_reach_27 : decode cX3_reach 27 = .ok (.iaload, 1) := by decide +kernel
theorem dX3_reach_28 : decode cX3_reach 28 = .ok (.iload_n 3, 1) := by decide +kernel
theorem dX3_reach_29 : decode cX3_reach 29 = .ok (.if_icmp .ne 7, 3) := by decide +kernel
theorem dX3_reach_32 : decode cX3_reach 32 = .ok (.iconst 1, 1) := by decide +kernel
theorem dX3_reach_33 : decode cX3_reach 33 = .ok (.goto 4, 3) := by decide +kernel
theorem dX3_reach_36 : decode cX3_reach 36 = .ok (.iconst 0, 1) := by decide +kernel
theorem dX3_reach_37 : decode cX3_reach 37 = .ok (.istore 4, 2) := by decide +kernel
theorem dX3_reach_39 : decode cX3_reach 39 = .ok (.iload 4, 2) := by decide +kernel
theorem dX3_reach_41 : decode cX3_reach 41 = .ok (.ifCond .ne 46, 3) := by decide +kernel
theorem dX3_reach_44 : decode cX3_reach 44 = .ok (.aload_n 0, 1) := by decide +kernel
theorem dX3_reach_45 : decode cX3_reach 45 = .ok (.getfield 22, 3) := by decide +kernel
theorem dX3_reach_48 : decode cX3_reach 48 = .ok (.sipush 129, 3) := by decide +kernel
theorem dX3_reach_51 : decode cX3_reach 51 = .ok (.if_icmp .ge 36, 3) := by decide +kernel
theorem dX3_reach_54 : decode cX3_reach 54 = .ok (.aload_n 0, 1) := by decide +kernel
theorem dX3_reach_55 : decode cX3_reach 55 = .ok (.getfield 11, 3) := by decide +kernel
theorem dX3_reach_58 : decode cX3_reach 58 = .ok (.aload_n 0, 1) := by decide +kernel
theorem dX3_reach_59 : decode cX3_reach 59 = .ok (.getfield 22, 3) := by decide +kernel
theorem dX3_reach_62 : decode cX3_reach 62 = .ok (.aload_n 0, 1) := by decide +kernel
theorem dX3_reach_63 : decode cX3_reach 63 = .ok (.getfield 26, 3) := by decide +kernel
theorem dX3_reach_66 : decode cX3_reach 66 = .ok (.lastore, 1) := by decide +kernel
theorem dX3_reach_67 : decode cX3_reach 67 = .ok (.aload_n 0, 1) := by decide +kernel
theorem dX3_reach_68 : decode cX3_reach 68 = .ok (.getfield 15, 3) := by decide +kernel
theorem dX3_reach_71 : decode cX3_reach 71 = .ok (.aload_n 0, 1) := by decide +kernel
theorem dX3_reach_72 : decode cX3_reach 72 = .ok (.getfield 22, 3) := by decide +kernel
theorem dX3_reach_75 : decode cX3_reach 75 = .ok (.iload_n 3, 1) := by decide +kernel
theorem dX3_reach_76 : decode cX3_reach 76 = .ok (.iastore, 1) := by decide +kernel
theorem dX3_reach_77 : decode cX3_reach 77 = .ok (.aload_n 0, 1) := by decide +kernel
theorem dX3_reach_78 : decode cX3_reach 78 = .ok (.dup, 1) := by decide +kernel
theorem dX3_reach_79 : decode cX3_reach 79 = .ok (.getfield 22, 3) := by decide +kernel
theorem dX3_reach_82 : decode cX3_reach 82 = .ok (.iconst 1, 1) := by decide +kernel
theorem dX3_reach_83 : decode cX3_reach 83 = .ok (.iadd, 1) := by decide +kernel
theorem dX3_reach_84 : decode cX3_reach 84 = .ok (.putfield 22, 3) := by decide +kernel
theorem dX3_reach_87 : decode cX3_reach 87 = .ok (.aload_n 0, 1) := by decide +kernel
theorem dX3_reach_88 : decode cX3_reach 88 = .ok (.lload_n 1, 1) := by decide +kernel
theorem dX3_reach_89 : decode cX3_reach 89 = .ok (.putfield 26, 3) := by decide +kernel
theorem dX3_reach_92 : decode cX3_reach 92 = .ok (.return_, 1) := by decide +kernel
theorem dX3_last_0 : decode cX3_last 0 = .ok (.iload_n 1, 1) := by decide +kernel
theorem dX3_last_1 : decode cX3_last 1 = .ok (.iconst 1, 1) := by decide +kernel
theorem dX3_last_2 : decode cX3_last 2 = .ok (.iadd, 1) := by decide +kernel
theorem dX3_last_3 : decode cX3_last 3 = .ok (.aload_n 0, 1) := by decide +kernel
theorem dX3_last_4 : decode cX3_last 4 = .ok (.getfield 22, 3) := by decide +kernel
theorem dX3_last_7 : decode cX3_last 7 = .ok (.if_icmp .ge 16, 3) := by decide +kernel
theorem dX3_last_10 : decode cX3_last 10 = .ok (.aload_n 0, 1) := by decide +kernel
theorem dX3_last_11 : decode cX3_last 11 = .ok (.getfield 11, 3) := by decide +kernel
theorem dX3_last_14 : decode cX3_last 14 = .ok (.iload_n 1, 1) := by decide +kernel
theorem dX3_last_15 : decode cX3_last 15 = .ok (.iconst 1, 1) := by decide +kernel
theorem dX3_last_16 : decode cX3_last 16 = .ok (.iadd, 1) := by decide +kernel
theorem dX3_last_17 : decode cX3_last 17 = .ok (.laload, 1) := by decide +kernel
theorem dX3_last_18 : decode cX3_last 18 = .ok (.lconst 1, 1) := by decide +kernel
theorem dX3_last_19 : decode cX3_last 19 = .ok (.lsub, 1) := by decide +kernel
theorem dX3_last_20 : decode cX3_last 20 = .ok (.goto 6, 3) := by decide +kernel
theorem dX3_last_23 : decode cX3_last 23 = .ok (.ldc2_w 53, 3) := by decide +kernel
theorem dX3_last_26 : decode cX3_last 26 = .ok (.lreturn, 1) := by decide +kernel
set_option maxRecDepth 20000 in
theorem ggX3_tell_X3_last : GoodIn wsX3_tell wsX3_last := goodIn_r _ [9, 1, 3, 10, 11, 12, 13, 14, 15, 16] (by decide +kernel) (by decide +kernel)
set_option maxRecDepth 20000 in
theorem gX3_tell_X3_last : GoodIn wsX3_tell (wsV RX3 57 RX3 yX3_last wsX3_last) := goodIn_app (goodIn_of _ (by decide +kernel)) ggX3_tell_X3_last
theorem dX3_tell_0 : decode cX3_tell 0 = .ok (.iload_n 1, 1) := by decide +kernel
theorem dX3_tell_1 : decode cX3_tell 1 = .ok (.ifCond .lt 11, 3) := by decide +kernel
theorem dX3_tell_4 : decode cX3_tell 4 = .ok (.iload_n 1, 1) := by decide +kernel
theorem dX3_tell_5 : decode cX3_tell 5 = .ok (.aload_n 0, 1) := by decide +kernel
theorem dX3_tell_6 : decode cX3_tell 6 = .ok (.getfield 22, 3) := by decide +kernel
theorem dX3_tell_9 : decode cX3_tell 9 = .ok (.if_icmp .lt 7, 3) := by decide +kernel
theorem dX3_tell_12 : decode cX3_tell 12 = .ok (.ldc2_w 55, 3) := by decide +kernel
theorem dX3_tell_15 : decode cX3_tell 15 = .ok (.lreturn, 1) := by decide +kernel
theorem dX3_tell_16 : decode cX3_tell 16 = .ok (.iload_n 2, 1) := by decide +kernel
theorem dX3_tell_17 : decode cX3_tell 17 = .ok (.tableswitch 48 0 2 #[27, 34, 40], 27) := by decide +kernel
theorem dX3_tell_44 : decode cX3_tell 44 = .ok (.aload_n 0, 1) := by decide +kernel
theorem dX3_tell_45 : decode cX3_tell 45 = .ok (.getfield 11, 3) := by decide +kernel
theorem dX3_tell_48 : decode cX3_tell 48 = .ok (.iload_n 1, 1) := by decide +kernel
theorem dX3_tell_49 : decode cX3_tell 49 = .ok (.laload, 1) := by decide +kernel
theorem dX3_tell_50 : decode cX3_tell 50 = .ok (.lreturn, 1) := by decide +kernel
theorem dX3_tell_51 : decode cX3_tell 51 = .ok (.aload_n 0, 1) := by decide +kernel
theorem dX3_tell_52 : decode cX3_tell 52 = .ok (.iload_n 1, 1) := by decide +kernel
theorem dX3_tell_53 : decode cX3_tell 53 = .ok (.invokevirtual 57, 3) := by decide +kernel
theorem dX3_tell_56 : decode cX3_tell 56 = .ok (.lreturn, 1) := by decide +kernel
theorem dX3_tell_57 : decode cX3_tell 57 = .ok (.aload_n 0, 1) := by decide +kernel
theorem dX3_tell_58 : decode cX3_tell 58 = .ok (.getfield 15, 3) := by decide +kernel
theorem dX3_tell_61 : decode cX3_tell 61 = .ok (.iload_n 1, 1) := by decide +kernel
theorem dX3_tell_62 : decode cX3_tell 62 = .ok (.iaload, 1) := by decide +kernel
theorem dX3_tell_63 : decode cX3_tell 63 = .ok (.i2l, 1) := by decide +kernel
theorem dX3_tell_64 : decode cX3_tell 64 = .ok (.lreturn, 1) := by decide +kernel
theorem dX3_tell_65 : decode cX3_tell 65 = .ok (.ldc2_w 55, 3) := by decide +kernel
theorem dX3_tell_68 : decode cX3_tell 68 = .ok (.lreturn, 1) := by decide +kernel
set_option maxRecDepth 20000 in
theorem ggX3_addressesTo_X3_last : GoodIn wsX3_addressesTo wsX3_last := goodIn_r _ [8, 1, 3, 9, 10, 11, 12, 13, 14, 15] (by decide +kernel) (by decide +kernel)
set_option maxRecDepth 20000 in
theorem gX3_addressesTo_X3_last : GoodIn wsX3_addressesTo (wsV RX3 57 RX3 yX3_last wsX3_last) := goodIn_app (goodIn_of _ (by decide +kernel)) ggX3_addressesTo_X3_last
theorem dX3_addressesTo_0 : decode cX3_addressesTo 0 = .ok (.lconst 0, 1) := by decide +kernel
theorem dX3_addressesTo_1 : decode cX3_addressesTo 1 = .ok (.lstore_n 2, 1) := by decide +kernel
theorem dX3_addressesTo_2 : decode cX3_addressesTo 2 = .ok (.iconst 0, 1) := by decide +kernel
theorem dX3_addressesTo_3 : decode cX3_addressesTo 3 = .ok (.istore 4, 2) := by decide +kernel
theorem dX3_addressesTo_5 : decode cX3_addressesTo 5 = .ok (.iload 4, 2) := by decide +kernel
theorem dX3_addressesTo_7 : decode cX3_addressesTo 7 = .ok (.aload_n 0, 1) := by decide +kernel
theorem dX3_addressesTo_8 : decode cX3_addressesTo 8 = .ok (.getfield 22, 3) := by decide +kernel
theorem dX3_addressesTo_11 : decode cX3_addressesTo 11 = .ok (.if_icmp .ge 39, 3) := by decide +kernel
theorem dX3_addressesTo_14 : decode cX3_addressesTo 14 = .ok (.aload_n 0, 1) := by decide +kernel
theorem dX3_addressesTo_15 : decode cX3_addressesTo 15 = .ok (.getfield 15, 3) := by decide +kernel
theorem dX3_addressesTo_18 : decode cX3_addressesTo 18 = .ok (.iload 4, 2) := by decide +kernel
theorem dX3_addressesTo_20 : decode cX3_addressesTo 20 = .ok (.iaload, 1) := by decide +kernel
theorem dX3_addressesTo_21 : decode cX3_addressesTo 21 = .ok (.iload_n 1, 1) := by decide +kernel
theorem dX3_addressesTo_22 : decode cX3_addressesTo 22 = .ok (.if_icmp .ne 22, 3) := by decide +kernel
theorem dX3_addressesTo_25 : decode cX3_addressesTo 25 = .ok (.lload_n 2, 1) := by decide +kernel
theorem dX3_addressesTo_26 : decode cX3_addressesTo 26 = .ok (.aload_n 0, 1) := by decide +kernel
theorem dX3_addressesTo_27 : decode cX3_addressesTo 27 = .ok (.iload 4, 2) := by decide +kernel
theorem dX3_addressesTo_29 : decode cX3_addressesTo 29 = .ok (.invokevirtual 57, 3) := by decide +kernel
theorem dX3_addressesTo_32 : decode cX3_addressesTo 32 = .ok (.aload_n 0, 1) := by decide +kernel
theorem dX3_addressesTo_33 : decode cX3_addressesTo 33 = .ok (.getfield 11, 3) := by decide +kernel
theorem dX3_addressesTo_36 : decode cX3_addressesTo 36 = .ok (.iload 4, 2) := by decide +kernel
theorem dX3_addressesTo_38 : decode cX3_addressesTo 38 = .ok (.laload, 1) := by decide +kernel
theorem dX3_addressesTo_39 : decode cX3_addressesTo 39 = .ok (.lsub, 1) := by decide +kernel
theorem dX3_addressesTo_40 : decode cX3_addressesTo 40 = .ok (.lconst 1, 1) := by decide +kernel
theorem dX3_addressesTo_41 : decode cX3_addressesTo 41 = .ok (.ladd, 1) := by decide +kernel
theorem dX3_addressesTo_42 : decode cX3_addressesTo 42 = .ok (.ladd, 1) := by decide +kernel
theorem dX3_addressesTo_43 : decode cX3_addressesTo 43 = .ok (.lstore_n 2, 1) := by decide +kernel
theorem dX3_addressesTo_44 : decode cX3_addressesTo 44 = .ok (.iinc 4 1, 3) := by decide +kernel
theorem dX3_addressesTo_47 : decode cX3_addressesTo 47 = .ok (.goto (-42), 3) := by decide +kernel
theorem dX3_addressesTo_50 : decode cX3_addressesTo 50 = .ok (.lload_n 2, 1) := by decide +kernel
theorem dX3_addressesTo_51 : decode cX3_addressesTo 51 = .ok (.lreturn, 1) := by decide +kernel
set_option maxRecDepth 20000 in
theorem ggX4_nodesOf_X4_nodesAt : GoodIn wsX4_nodesOf wsX4_nodesAt := goodIn_r _ [4, 5, 6, 7, 8, 9, 10, 11, 12, 13, 14, 15, 16, 17, 18, 19] (by decide +kernel) (by decide +kernel)
set_option maxRecDepth 20000 in
theorem gX4_nodesOf_X4_nodesAt : GoodIn wsX4_nodesOf (va_wsS RX4 9 yX4_nodesAt wsX4_nodesAt) := goodIn_app (goodIn_of _ (by decide +kernel)) ggX4_nodesOf_X4_nodesAt
theorem dX4_nodesOf_0 : decode cX4_nodesOf 0 = .ok (.iconst 1, 1) := by decide +kernel
theorem dX4_nodesOf_1 : decode cX4_nodesOf 1 = .ok (.istore_n 1, 1) := by decide +kernel
theorem dX4_nodesOf_2 : decode cX4_nodesOf 2 = .ok (.bipush 6, 2) := by decide +kernel
theorem dX4_nodesOf_4 : decode cX4_nodesOf 4 = .ok (.istore_n 2, 1) := by decide +kernel
theorem dX4_nodesOf_5 : decode cX4_nodesOf 5 = .ok (.iload_n 2, 1) := by decide +kernel
theorem dX4_nodesOf_6 : decode cX4_nodesOf 6 = .ok (.bipush 30, 2) := by decide +kernel
theorem dX4_nodesOf_8 : decode cX4_nodesOf 8 = .ok (.if_icmp .gt 17, 3) := by decide +kernel
theorem dX4_nodesOf_11 : decode cX4_nodesOf 11 = .ok (.iload_n 1, 1) := by decide +kernel
theorem dX4_nodesOf_12 : decode cX4_nodesOf 12 = .ok (.aload_n 0, 1) := by decide +kernel
theorem dX4_nodesOf_13 : decode cX4_nodesOf 13 = .ok (.iload_n 2, 1) := by decide +kernel
theorem dX4_nodesOf_14 : decode cX4_nodesOf 14 = .ok (.invokestatic 9, 3) := by decide +kernel
theorem dX4_nodesOf_17 : decode cX4_nodesOf 17 = .ok (.iadd, 1) := by decide +kernel
theorem dX4_nodesOf_18 : decode cX4_nodesOf 18 = .ok (.istore_n 1, 1) := by decide +kernel
theorem dX4_nodesOf_19 : decode cX4_nodesOf 19 = .ok (.iinc 2 6, 3) := by decide +kernel
theorem dX4_nodesOf_22 : decode cX4_nodesOf 22 = .ok (.goto (-17), 3) := by decide +kernel
theorem dX4_nodesOf_25 : decode cX4_nodesOf 25 = .ok (.iload_n 1, 1) := by decide +kernel
theorem dX4_nodesOf_26 : decode cX4_nodesOf 26 = .ok (.ireturn, 1) := by decide +kernel
set_option maxRecDepth 20000 in
theorem ggX4_nodesAt_X7_mask : GoodIn wsX4_nodesAt wsX7_mask := goodIn_r _ [6, 7, 8, 9, 10] (by decide +kernel) (by decide +kernel)
set_option maxRecDepth 20000 in
theorem gX4_nodesAt_X7_mask_n25 : GoodIn wsX4_nodesAt (wsX7_mask) := ggX4_nodesAt_X7_mask
theorem dX4_nodesAt_0 : decode cX4_nodesAt 0 = .ok (.iconst 0, 1) := by decide +kernel
theorem dX4_nodesAt_1 : decode cX4_nodesAt 1 = .ok (.istore_n 2, 1) := by decide +kernel
theorem dX4_nodesAt_2 : decode cX4_nodesAt 2 = .ok (.iconst 0, 1) := by decide +kernel
theorem dX4_nodesAt_3 : decode cX4_nodesAt 3 = .ok (.istore_n 3, 1) := by decide +kernel
theorem dX4_nodesAt_4 : decode cX4_nodesAt 4 = .ok (.iconst 0, 1) := by decide +kernel
theorem dX4_nodesAt_5 : decode cX4_nodesAt 5 = .ok (.istore 4, 2) := by decide +kernel
theorem dX4_nodesAt_7 : decode cX4_nodesAt 7 = .ok (.iload 4, 2) := by decide +kernel
theorem dX4_nodesAt_9 : decode cX4_nodesAt 9 = .ok (.aload_n 0, 1) := by decide +kernel
theorem dX4_nodesAt_10 : decode cX4_nodesAt 10 = .ok (.getfield 15, 3) := by decide +kernel
theorem dX4_nodesAt_13 : decode cX4_nodesAt 13 = .ok (.if_icmp .ge 50, 3) := by decide +kernel
theorem dX4_nodesAt_16 : decode cX4_nodesAt 16 = .ok (.aload_n 0, 1) := by decide +kernel
theorem dX4_nodesAt_17 : decode cX4_nodesAt 17 = .ok (.getfield 21, 3) := by decide +kernel
theorem dX4_nodesAt_20 : decode cX4_nodesAt 20 = .ok (.iload 4, 2) := by decide +kernel
theorem dX4_nodesAt_22 : decode cX4_nodesAt 22 = .ok (.iaload, 1) := by decide +kernel
theorem dX4_nodesAt_23 : decode cX4_nodesAt 23 = .ok (.iload_n 1, 1) := by decide +kernel
theorem dX4_nodesAt_24 : decode cX4_nodesAt 24 = .ok (.invokestatic 25, 3) := by decide +kernel
theorem dX4_nodesAt_27 : decode cX4_nodesAt 27 = .ok (.iand, 1) := by decide +kernel
theorem dX4_nodesAt_28 : decode cX4_nodesAt 28 = .ok (.istore 5, 2) := by decide +kernel
theorem dX4_nodesAt_30 : decode cX4_nodesAt 30 = .ok (.aload_n 0, 1) := by decide +kernel
theorem dX4_nodesAt_31 : decode cX4_nodesAt 31 = .ok (.getfield 29, 3) := by decide +kernel
theorem dX4_nodesAt_34 : decode cX4_nodesAt 34 = .ok (.iload 4, 2) := by decide +kernel
theorem dX4_nodesAt_36 : decode cX4_nodesAt 36 = .ok (.iaload, 1) := by decide +kernel
theorem dX4_nodesAt_37 : decode cX4_nodesAt 37 = .ok (.iload_n 1, 1) := by decide +kernel
theorem dX4_nodesAt_38 : decode cX4_nodesAt 38 = .ok (.if_icmp .le 19, 3) := by decide +kernel
theorem dX4_nodesAt_41 : decode cX4_nodesAt 41 = .ok (.iload_n 2, 1) := by decide +kernel
theorem dX4_nodesAt_42 : decode cX4_nodesAt 42 = .ok (.ifCond .eq 9, 3) := by decide +kernel
theorem dX4_nodesAt_45 : decode cX4_nodesAt 45 = .ok (.iload 5, 2) := by decide +kernel
theorem dX4_nodesAt_47 : decode cX4_nodesAt 47 = .ok (.iload_n 3, 1) := by decide +kernel
theorem dX4_nodesAt_48 : decode cX4_nodesAt 48 = .ok (.if_icmp .eq 9, 3) := by decide +kernel
theorem dX4_nodesAt_51 : decode cX4_nodesAt 51 = .ok (.iinc 2 1, 3) := by decide +kernel
theorem dX4_nodesAt_54 : decode cX4_nodesAt 54 = .ok (.iload 5, 2) := by decide +kernel
theorem dX4_nodesAt_56 : decode cX4_nodesAt 56 = .ok (.istore_n 3, 1) := by decide +kernel
theorem dX4_nodesAt_57 : decode cX4_nodesAt 57 = .ok (.iinc 4 1, 3) := by decide +kernel
theorem dX4_nodesAt_60 : decode cX4_nodesAt 60 = .ok (.goto (-53), 3) := by decide +kernel
theorem dX4_nodesAt_63 : decode cX4_nodesAt 63 = .ok (.iload_n 2, 1) := by decide +kernel
theorem dX4_nodesAt_64 : decode cX4_nodesAt 64 = .ok (.ireturn, 1) := by decide +kernel
theorem dX4_deepest_0 : decode cX4_deepest 0 = .ok (.iconst 0, 1) := by decide +kernel
theorem dX4_deepest_1 : decode cX4_deepest 1 = .ok (.istore_n 1, 1) := by decide +kernel
theorem dX4_deepest_2 : decode cX4_deepest 2 = .ok (.iconst 0, 1) := by decide +kernel
theorem dX4_deepest_3 : decode cX4_deepest 3 = .ok (.istore_n 2, 1) := by decide +kernel
theorem dX4_deepest_4 : decode cX4_deepest 4 = .ok (.iload_n 2, 1) := by decide +kernel
theorem dX4_deepest_5 : decode cX4_deepest 5 = .ok (.aload_n 0, 1) := by decide +kernel
theorem dX4_deepest_6 : decode cX4_deepest 6 = .ok (.getfield 15, 3) := by decide +kernel
theorem dX4_deepest_9 : decode cX4_deepest 9 = .ok (.if_icmp .ge 34, 3) := by decide +kernel
theorem dX4_deepest_12 : decode cX4_deepest 12 = .ok (.iload_n 1, 1) := by decide +kernel
theorem dX4_deepest_13 : decode cX4_deepest 13 = .ok (.bipush 30, 2) := by decide +kernel
theorem dX4_deepest_15 : decode cX4_deepest 15 = .ok (.if_icmp .ge 22, 3) := by decide +kernel
theorem dX4_deepest_18 : decode cX4_deepest 18 = .ok (.aload_n 0, 1) := by decide +kernel
theorem dX4_deepest_19 : decode cX4_deepest 19 = .ok (.getfield 29, 3) := by decide +kernel
theorem dX4_deepest_22 : decode cX4_deepest 22 = .ok (.iload_n 2, 1) := by decide +kernel
theorem dX4_deepest_23 : decode cX4_deepest 23 = .ok (.iaload, 1) := by decide +kernel
theorem dX4_deepest_24 : decode cX4_deepest 24 = .ok (.iload_n 1, 1) := by decide +kernel
theorem dX4_deepest_25 : decode cX4_deepest 25 = .ok (.bipush 6, 2) := by decide +kernel
theorem dX4_deepest_27 : decode cX4_deepest 27 = .ok (.iadd, 1) := by decide +kernel
theorem dX4_deepest_28 : decode cX4_deepest 28 = .ok (.if_icmp .le 9, 3) := by decide +kernel
theorem dX4_deepest_31 : decode cX4_deepest 31 = .ok (.iinc 1 6, 3) := by decide +kernel
theorem dX4_deepest_34 : decode cX4_deepest 34 = .ok (.goto (-22), 3) := by decide +kernel
theorem dX4_deepest_37 : decode cX4_deepest 37 = .ok (.iinc 2 1, 3) := by decide +kernel
theorem dX4_deepest_40 : decode cX4_deepest 40 = .ok (.goto (-36), 3) := by decide +kernel
theorem dX4_deepest_43 : decode cX4_deepest 43 = .ok (.iload_n 1, 1) := by decide +kernel
theorem dX4_deepest_44 : decode cX4_deepest 44 = .ok (.ireturn, 1) := by decide +kernel
theorem dX4_stepsDownTo_0 : decode cX4_stepsDownTo 0 = .ok (.iload_n 0, 1) := by decide +kernel
theorem dX4_stepsDownTo_1 : decode cX4_stepsDownTo 1 = .ok (.bipush 6, 2) := by decide +kernel
theorem dX4_stepsDownTo_3 : decode cX4_stepsDownTo 3 = .ok (.idiv, 1) := by decide +kernel
theorem dX4_stepsDownTo_4 : decode cX4_stepsDownTo 4 = .ok (.iconst 1, 1) := by decide +kernel
theorem dX4_stepsDownTo_5 : decode cX4_stepsDownTo 5 = .ok (.iadd, 1) := by decide +kernel
theorem dX4_stepsDownTo_6 : decode cX4_stepsDownTo 6 = .ok (.ireturn, 1) := by decide +kernel
set_option maxRecDepth 20000 in
theorem ggX4_firstDeepest_X4_deepest : GoodIn wsX4_firstDeepest wsX4_deepest := goodIn_r _ [7, 1, 2, 18, 19, 20, 21, 22] (by decide +kernel) (by decide +kernel)
set_option maxRecDepth 20000 in
theorem gX4_firstDeepest_X4_deepest : GoodIn wsX4_firstDeepest (va_wsS RX4 32 yX4_deepest wsX4_deepest) := goodIn_app (goodIn_of _ (by decide +kernel)) ggX4_firstDeepest_X4_deepest
set_option maxRecDepth 20000 in
theorem ggX4_firstDeepest_X7_mask : GoodIn wsX4_firstDeepest wsX7_mask := goodIn_r _ [10, 11, 12, 13, 14] (by decide +kernel) (by decide +kernel)
set_option maxRecDepth 20000 in
theorem gX4_firstDeepest_X7_mask_n25 : GoodIn wsX4_firstDeepest (wsX7_mask) := ggX4_firstDeepest_X7_mask
set_option maxRecDepth 20000 in
theorem ggX4_firstDeepest_X7_wide : GoodIn wsX4_firstDeepest wsX7_wide := goodIn_r _ [16, 17] (by decide +kernel) (by decide +kernel)
set_option maxRecDepth 20000 in
theorem gX4_firstDeepest_X7_wide_n36 : GoodIn wsX4_firstDeepest (wsX7_wide) := ggX4_firstDeepest_X7_wide
theorem dX4_firstDeepest_0 : decode cX4_firstDeepest 0 = .ok (.aload_n 0, 1) := by decide +kernel
theorem dX4_firstDeepest_1 : decode cX4_firstDeepest 1 = .ok (.invokestatic 32, 3) := by decide +kernel
theorem dX4_firstDeepest_4 : decode cX4_firstDeepest 4 = .ok (.istore_n 1, 1) := by decide +kernel
theorem dX4_firstDeepest_5 : decode cX4_firstDeepest 5 = .ok (.iconst 0, 1) := by decide +kernel
theorem dX4_firstDeepest_6 : decode cX4_firstDeepest 6 = .ok (.istore_n 2, 1) := by decide +kernel
theorem dX4_firstDeepest_7 : decode cX4_firstDeepest 7 = .ok (.iload_n 2, 1) := by decide +kernel
theorem dX4_firstDeepest_8 : decode cX4_firstDeepest 8 = .ok (.aload_n 0, 1) := by decide +kernel
theorem dX4_firstDeepest_9 : decode cX4_firstDeepest 9 = .ok (.getfield 15, 3) := by decide +kernel
theorem dX4_firstDeepest_12 : decode cX4_firstDeepest 12 = .ok (.if_icmp .ge 34, 3) := by decide +kernel
theorem dX4_firstDeepest_15 : decode cX4_firstDeepest 15 = .ok (.aload_n 0, 1) := by decide +kernel
theorem dX4_firstDeepest_16 : decode cX4_firstDeepest 16 = .ok (.getfield 29, 3) := by decide +kernel
theorem dX4_firstDeepest_19 : decode cX4_firstDeepest 19 = .ok (.iload_n 2, 1) := by decide +kernel
theorem dX4_firstDeepest_20 : decode cX4_firstDeepest 20 = .ok (.iaload, 1) := by decide +kernel
theorem dX4_firstDeepest_21 : decode cX4_firstDeepest 21 = .ok (.iload_n 1, 1) := by decide +kernel
theorem dX4_firstDeepest_22 : decode cX4_firstDeepest 22 = .ok (.if_icmp .le 18, 3) := by decide +kernel
theorem dX4_firstDeepest_25 : decode cX4_firstDeepest 25 = .ok (.aload_n 0, 1) := by decide +kernel
theorem dX4_firstDeepest_26 : decode cX4_firstDeepest 26 = .ok (.getfield 21, 3) := by decide +kernel
theorem dX4_firstDeepest_29 : decode cX4_firstDeepest 29 = .ok (.iload_n 2, 1) := by decide +kernel
theorem dX4_firstDeepest_30 : decode cX4_firstDeepest 30 = .ok (.iaload, 1) := by decide +kernel
theorem dX4_firstDeepest_31 : decode cX4_firstDeepest 31 = .ok (.iload_n 1, 1) := by decide +kernel
theorem dX4_firstDeepest_32 : decode cX4_firstDeepest 32 = .ok (.invokestatic 25, 3) := by decide +kernel
theorem dX4_firstDeepest_35 : decode cX4_firstDeepest 35 = .ok (.iand, 1) := by decide +kernel
theorem dX4_firstDeepest_36 : decode cX4_firstDeepest 36 = .ok (.invokestatic 36, 3) := by decide +kernel
theorem dX4_firstDeepest_39 : decode cX4_firstDeepest 39 = .ok (.lreturn, 1) := by decide +kernel
theorem dX4_firstDeepest_40 : decode cX4_firstDeepest 40 = .ok (.iinc 2 1, 3) := by decide +kernel
theorem dX4_firstDeepest_43 : decode cX4_firstDeepest 43 = .ok (.goto (-36), 3) := by decide +kernel
theorem dX4_firstDeepest_46 : decode cX4_firstDeepest 46 = .ok (.lconst 0, 1) := by decide +kernel
theorem dX4_firstDeepest_47 : decode cX4_firstDeepest 47 = .ok (.lreturn, 1) := by decide +kernel
set_option maxRecDepth 20000 in
theorem ggX4_stepsOf_X7_mask : GoodIn wsX4_stepsOf wsX7_mask := goodIn_r _ [3, 4, 5, 6, 7] (by decide +kernel) (by decide +kernel)
set_option maxRecDepth 20000 in
theorem gX4_stepsOf_X7_mask_n25 : GoodIn wsX4_stepsOf (wsX7_mask) := ggX4_stepsOf_X7_mask
set_option maxRecDepth 20000 in
theorem ggX4_stepsOf_X4_hasNode : GoodIn wsX4_stepsOf wsX4_hasNode := goodIn_r _ [11, 12, 13, 14, 15, 2, 16, 17, 1, 3, 4, 5, 6, 7, 21, 22, 23, 24, 25] (by decide +kernel) (by decide +kernel)
set_option maxRecDepth 20000 in
theorem gX4_stepsOf_X4_hasNode : GoodIn wsX4_stepsOf (va_wsS RX4 40 yX4_hasNode wsX4_hasNode) := goodIn_app (goodIn_of _ (by decide +kernel)) ggX4_stepsOf_X4_hasNode
set_option maxRecDepth 20000 in
theorem ggX4_stepsOf_X4_stepsDownTo : GoodIn wsX4_stepsOf wsX4_stepsDownTo := goodIn_r _ [20] (by decide +kernel) (by decide +kernel)
set_option maxRecDepth 20000 in
theorem gX4_stepsOf_X4_stepsDownTo : GoodIn wsX4_stepsOf (va_wsS RX4 44 yX4_stepsDownTo wsX4_stepsDownTo) := goodIn_app (goodIn_of _ (by decide +kernel)) ggX4_stepsOf_X4_stepsDownTo
theorem dX4_stepsOf_0 : decode cX4_stepsOf 0 = .ok (.bipush 30, 2) := by decide +kernel
theorem dX4_stepsOf_2 : decode cX4_stepsOf 2 = .ok (.istore_n 2, 1) := by decide +kernel
theorem dX4_stepsOf_3 : decode cX4_stepsOf 3 = .ok (.iload_n 2, 1) := by decide +kernel
theorem dX4_stepsOf_4 : decode cX4_stepsOf 4 = .ok (.ifCond .le 28, 3) := by decide +kernel
theorem dX4_stepsOf_7 : decode cX4_stepsOf 7 = .ok (.aload_n 0, 1) := by decide +kernel
theorem dX4_stepsOf_8 : decode cX4_stepsOf 8 = .ok (.iload_n 1, 1) := by decide +kernel
theorem dX4_stepsOf_9 : decode cX4_stepsOf 9 = .ok (.iload_n 2, 1) := by decide +kernel
theorem dX4_stepsOf_10 : decode cX4_stepsOf 10 = .ok (.invokestatic 25, 3) := by decide +kernel
theorem dX4_stepsOf_13 : decode cX4_stepsOf 13 = .ok (.iand, 1) := by decide +kernel
theorem dX4_stepsOf_14 : decode cX4_stepsOf 14 = .ok (.iload_n 2, 1) := by decide +kernel
theorem dX4_stepsOf_15 : decode cX4_stepsOf 15 = .ok (.invokestatic 40, 3) := by decide +kernel
theorem dX4_stepsOf_18 : decode cX4_stepsOf 18 = .ok (.ifCond .eq 8, 3) := by decide +kernel
theorem dX4_stepsOf_21 : decode cX4_stepsOf 21 = .ok (.iload_n 2, 1) := by decide +kernel
theorem dX4_stepsOf_22 : decode cX4_stepsOf 22 = .ok (.invokestatic 44, 3) := by decide +kernel
theorem dX4_stepsOf_25 : decode cX4_stepsOf 25 = .ok (.ireturn, 1) := by decide +kernel
theorem dX4_stepsOf_26 : decode cX4_stepsOf 26 = .ok (.iinc 2 (-6), 3) := by decide +kernel
theorem dX4_stepsOf_29 : decode cX4_stepsOf 29 = .ok (.goto (-26), 3) := by decide +kernel
theorem dX4_stepsOf_32 : decode cX4_stepsOf 32 = .ok (.iconst 1, 1) := by decide +kernel
theorem dX4_stepsOf_33 : decode cX4_stepsOf 33 = .ok (.ireturn, 1) := by decide +kernel
set_option maxRecDepth 20000 in
theorem ggX4_hasNode_X7_begins : GoodIn wsX4_hasNode wsX7_begins := goodIn_r _ [6, 7, 8, 5, 9, 10, 11, 12, 13] (by decide +kernel) (by decide +kernel)
set_option maxRecDepth 20000 in
theorem gX4_hasNode_X7_begins_n47 : GoodIn wsX4_hasNode (wsX7_begins) := ggX4_hasNode_X7_begins
theorem dX4_hasNode_0 : decode cX4_hasNode 0 = .ok (.iconst 0, 1) := by decide +kernel
theorem dX4_hasNode_1 : decode cX4_hasNode 1 = .ok (.istore_n 3, 1) := by decide +kernel
theorem dX4_hasNode_2 : decode cX4_hasNode 2 = .ok (.iload_n 3, 1) := by decide +kernel
theorem dX4_hasNode_3 : decode cX4_hasNode 3 = .ok (.aload_n 0, 1) := by decide +kernel
theorem dX4_hasNode_4 : decode cX4_hasNode 4 = .ok (.getfield 15, 3) := by decide +kernel
theorem dX4_hasNode_7 : decode cX4_hasNode 7 = .ok (.if_icmp .ge 35, 3) := by decide +kernel
theorem dX4_hasNode_10 : decode cX4_hasNode 10 = .ok (.aload_n 0, 1) := by decide +kernel
theorem dX4_hasNode_11 : decode cX4_hasNode 11 = .ok (.getfield 29, 3) := by decide +kernel
theorem dX4_hasNode_14 : decode cX4_hasNode 14 = .ok (.iload_n 3, 1) := by decide +kernel
theorem dX4_hasNode_15 : decode cX4_hasNode 15 = .ok (.iaload, 1) := by decide +kernel
theorem dX4_hasNode_16 : decode cX4_hasNode 16 = .ok (.iload_n 2, 1) := by decide +kernel
theorem dX4_hasNode_17 : decode cX4_hasNode 17 = .ok (.if_icmp .le 19, 3) := by decide +kernel
theorem dX4_hasNode_20 : decode cX4_hasNode 20 = .ok (.aload_n 0, 1) := by decide +kernel
theorem dX4_hasNode_21 : decode cX4_hasNode 21 = .ok (.getfield 21, 3) := by decide +kernel
theorem dX4_hasNode_24 : decode cX4_hasNode 24 = .ok (.iload_n 3, 1) := by decide +kernel
theorem dX4_hasNode_25 : decode cX4_hasNode 25 = .ok (.iaload, 1) := by decide +kernel
theorem dX4_hasNode_26 : decode cX4_hasNode 26 = .ok (.iload_n 1, 1) := by decide +kernel
theorem dX4_hasNode_27 : decode cX4_hasNode 27 = .ok (.iload_n 2, 1) := by decide +kernel
theorem dX4_hasNode_28 : decode cX4_hasNode 28 = .ok (.invokestatic 47, 3) := by decide +kernel
theorem dX4_hasNode_31 : decode cX4_hasNode 31 = .ok (.ifCond .eq 5, 3) := by decide +kernel
theorem dX4_hasNode_34 : decode cX4_hasNode 34 = .ok (.iconst 1, 1) := by decide +kernel
theorem dX4_hasNode_35 : decode cX4_hasNode 35 = .ok (.ireturn, 1) := by decide +kernel
theorem dX4_hasNode_36 : decode cX4_hasNode 36 = .ok (.iinc 3 1, 3) := by decide +kernel
theorem dX4_hasNode_39 : decode cX4_hasNode 39 = .ok (.goto (-37), 3) := by decide +kernel
theorem dX4_hasNode_42 : decode cX4_hasNode 42 = .ok (.iconst 0, 1) := by decide +kernel
theorem dX4_hasNode_43 : decode cX4_hasNode 43 = .ok (.ireturn, 1) := by decide +kernel
theorem dX5_init_0 : decode cX5_init 0 = .ok (.aload_n 0, 1) := by decide +kernel
theorem dX5_init_1 : decode cX5_init 1 = .ok (.invokespecial 3, 3) := by decide +kernel
theorem dX5_init_4 : decode cX5_init 4 = .ok (.aload_n 0, 1) := by decide +kernel
theorem dX5_init_5 : decode cX5_init 5 = .ok (.sipush 256, 3) := by decide +kernel
theorem dX5_init_8 : decode cX5_init 8 = .ok (.newarray .int, 2) := by decide +kernel
theorem dX5_init_10 : decode cX5_init 10 = .ok (.putfield 11, 3) := by decide +kernel
theorem dX5_init_13 : decode cX5_init 13 = .ok (.aload_n 0, 1) := by decide +kernel
theorem dX5_init_14 : decode cX5_init 14 = .ok (.sipush 256, 3) := by decide +kernel
theorem dX5_init_17 : decode cX5_init 17 = .ok (.newarray .int, 2) := by decide +kernel
theorem dX5_init_19 : decode cX5_init 19 = .ok (.putfield 15, 3) := by decide +kernel
theorem dX5_init_22 : decode cX5_init 22 = .ok (.aload_n 0, 1) := by decide +kernel
theorem dX5_init_23 : decode cX5_init 23 = .ok (.sipush 256, 3) := by decide +kernel
theorem dX5_init_26 : decode cX5_init 26 = .ok (.newarray .int, 2) := by decide +kernel
theorem dX5_init_28 : decode cX5_init 28 = .ok (.putfield 18, 3) := by decide +kernel
theorem dX5_init_31 : decode cX5_init 31 = .ok (.aload_n 0, 1) := by decide +kernel
theorem dX5_init_32 : decode cX5_init 32 = .ok (.sipush 256, 3) := by decide +kernel
theorem dX5_init_35 : decode cX5_init 35 = .ok (.newarray .int, 2) := by decide +kernel
theorem dX5_init_37 : decode cX5_init 37 = .ok (.putfield 21, 3) := by decide +kernel
theorem dX5_init_40 : decode cX5_init 40 = .ok (.aload_n 0, 1) := by decide +kernel
theorem dX5_init_41 : decode cX5_init 41 = .ok (.sipush 256, 3) := by decide +kernel
theorem dX5_init_44 : decode cX5_init 44 = .ok (.newarray .int, 2) := by decide +kernel
theorem dX5_init_46 : decode cX5_init 46 = .ok (.putfield 24, 3) := by decide +kernel
theorem dX5_init_49 : decode cX5_init 49 = .ok (.aload_n 0, 1) := by decide +kernel
theorem dX5_init_50 : decode cX5_init 50 = .ok (.sipush 256, 3) := by decide +kernel
theorem dX5_init_53 : decode cX5_init 53 = .ok (.newarray .int, 2) := by decide +kernel
theorem dX5_init_55 : decode cX5_init 55 = .ok (.putfield 27, 3) := by decide +kernel
theorem dX5_init_58 : decode cX5_init 58 = .ok (.return_, 1) := by decide +kernel
set_option maxRecDepth 20000 in
theorem ggX5_plantWhole_X5_grow : GoodIn wsX5_plantWhole wsX5_grow := goodIn_r _ [7, 1, 8, 9, 10, 11, 12, 13, 14, 15, 16, 17, 18, 19, 20, 21, 22, 23, 24, 25, 26, 27, 28, 29, 30, 31, 32, 33, 6, 34, 35, 36, 37, 38, 39, 40, 41, 2, 42, 43, 44, 45, 46, 47, 48, 49, 50, 51, 52, 3, 4, 5, 53, 54, 55, 56, 57, 58, 59, 60, 61, 62, 63, 64] (by decide +kernel) (by decide +kernel)
set_option maxRecDepth 20000 in
theorem gX5_plantWhole_X5_grow : GoodIn wsX5_plantWhole (wsV RX5 37 RX5 yX5_grow wsX5_grow) := goodIn_app (goodIn_of _ (by decide +kernel)) ggX5_plantWhole_X5_grow
theorem dX5_plantWhole_0 : decode cX5_plantWhole 0 = .ok (.aload_n 0, 1) := by decide +kernel
theorem dX5_plantWhole_1 : decode cX5_plantWhole 1 = .ok (.iconst 0, 1) := by decide +kernel
theorem dX5_plantWhole_2 : decode cX5_plantWhole 2 = .ok (.putfield 30, 3) := by decide +kernel
theorem dX5_plantWhole_5 : decode cX5_plantWhole 5 = .ok (.aload_n 0, 1) := by decide +kernel
theorem dX5_plantWhole_6 : decode cX5_plantWhole 6 = .ok (.aload_n 1, 1) := by decide +kernel
theorem dX5_plantWhole_7 : decode cX5_plantWhole 7 = .ok (.iconst 0, 1) := by decide +kernel
theorem dX5_plantWhole_8 : decode cX5_plantWhole 8 = .ok (.aload_n 1, 1) := by decide +kernel
theorem dX5_plantWhole_9 : decode cX5_plantWhole 9 = .ok (.getfield 34, 3) := by decide +kernel
theorem dX5_plantWhole_12 : decode cX5_plantWhole 12 = .ok (.iconst 0, 1) := by decide +kernel
theorem dX5_plantWhole_13 : decode cX5_plantWhole 13 = .ok (.iconst 0, 1) := by decide +kernel
theorem dX5_plantWhole_14 : decode cX5_plantWhole 14 = .ok (.bipush 16, 2) := by decide +kernel
theorem dX5_plantWhole_16 : decode cX5_plantWhole 16 = .ok (.invokevirtual 37, 3) := by decide +kernel
theorem dX5_plantWhole_19 : decode cX5_plantWhole 19 = .ok (.pop, 1) := by decide +kernel
theorem dX5_plantWhole_20 : decode cX5_plantWhole 20 = .ok (.return_, 1) := by decide +kernel
set_option maxRecDepth 20000 in
theorem ggX5_plant_X5_grow : GoodIn wsX5_plant wsX5_grow := goodIn_r _ [6, 1, 7, 8, 9, 10, 11, 12, 13, 14, 15, 16, 17, 18, 19, 20, 21, 22, 23, 24, 25, 26, 27, 28, 29, 30, 31, 32, 5, 33, 34, 35, 36, 37, 38, 39, 40, 41, 42, 43, 44, 45, 46, 47, 48, 49, 50, 51, 52, 2, 3, 4, 53, 54, 55, 56, 57, 58, 59, 60, 61, 62, 63, 64] (by decide +kernel) (by decide +kernel)
set_option maxRecDepth 20000 in
theorem gX5_plant_X5_grow : GoodIn wsX5_plant (wsV RX5 37 RX5 yX5_grow wsX5_grow) := goodIn_app (goodIn_of _ (by decide +kernel)) ggX5_plant_X5_grow
theorem dX5_plant_0 : decode cX5_plant 0 = .ok (.aload_n 0, 1) := by decide +kernel
theorem dX5_plant_1 : decode cX5_plant 1 = .ok (.iconst 0, 1) := by decide +kernel
theorem dX5_plant_2 : decode cX5_plant 2 = .ok (.putfield 30, 3) := by decide +kernel
theorem dX5_plant_5 : decode cX5_plant 5 = .ok (.aload_n 0, 1) := by decide +kernel
theorem dX5_plant_6 : decode cX5_plant 6 = .ok (.aload_n 1, 1) := by decide +kernel
theorem dX5_plant_7 : decode cX5_plant 7 = .ok (.iload_n 2, 1) := by decide +kernel
theorem dX5_plant_8 : decode cX5_plant 8 = .ok (.iload_n 3, 1) := by decide +kernel
theorem dX5_plant_9 : decode cX5_plant 9 = .ok (.iload 4, 2) := by decide +kernel
theorem dX5_plant_11 : decode cX5_plant 11 = .ok (.iload 5, 2) := by decide +kernel
theorem dX5_plant_13 : decode cX5_plant 13 = .ok (.iload 6, 2) := by decide +kernel
theorem dX5_plant_15 : decode cX5_plant 15 = .ok (.invokevirtual 37, 3) := by decide +kernel
theorem dX5_plant_18 : decode cX5_plant 18 = .ok (.pop, 1) := by decide +kernel
theorem dX5_plant_19 : decode cX5_plant 19 = .ok (.return_, 1) := by decide +kernel
theorem dX5_setOfTop_0 : decode cX5_setOfTop 0 = .ok (.aload_n 0, 1) := by decide +kernel
theorem dX5_setOfTop_1 : decode cX5_setOfTop 1 = .ok (.getfield 30, 3) := by decide +kernel
theorem dX5_setOfTop_4 : decode cX5_setOfTop 4 = .ok (.ifCond .le 12, 3) := by decide +kernel
theorem dX5_setOfTop_7 : decode cX5_setOfTop 7 = .ok (.aload_n 0, 1) := by decide +kernel
theorem dX5_setOfTop_8 : decode cX5_setOfTop 8 = .ok (.getfield 27, 3) := by decide +kernel
theorem dX5_setOfTop_11 : decode cX5_setOfTop 11 = .ok (.iconst 0, 1) := by decide +kernel
theorem dX5_setOfTop_12 : decode cX5_setOfTop 12 = .ok (.iaload, 1) := by decide +kernel
theorem dX5_setOfTop_13 : decode cX5_setOfTop 13 = .ok (.goto 4, 3) := by decide +kernel
theorem dX5_setOfTop_16 : decode cX5_setOfTop 16 = .ok (.iconst (-1), 1) := by decide +kernel
theorem dX5_setOfTop_17 : decode cX5_setOfTop 17 = .ok (.ireturn, 1) := by decide +kernel
set_option maxRecDepth 20000 in
theorem ggX5_grow_X2_isAt : GoodIn wsX5_grow wsX2_isAt := goodIn_r _ [13, 14, 15, 16, 59, 60, 61, 62, 63] (by decide +kernel) (by decide +kernel)
set_option maxRecDepth 20000 in
theorem gX5_grow_X2_isAt : GoodIn wsX5_grow (wsV RX5 41 RX2 yX2_isAt wsX2_isAt) := goodIn_app (goodIn_of _ (by decide +kernel)) ggX5_grow_X2_isAt
set_option maxRecDepth 20000 in
theorem ggX5_grow_X2_firstHigh : GoodIn wsX5_grow wsX2_firstHigh := goodIn_r _ [20, 15, 21, 22, 23, 24, 59, 60, 61, 62, 63] (by decide +kernel) (by decide +kernel)
set_option maxRecDepth 20000 in
theorem gX5_grow_X2_firstHigh : GoodIn wsX5_grow (wsV RX5 46 RX2 yX2_firstHigh wsX2_firstHigh) := goodIn_app (goodIn_of _ (by decide +kernel)) ggX5_grow_X2_firstHigh
set_option maxRecDepth 20000 in
theorem ggX5_grow_X5_growSide : GoodIn wsX5_grow wsX5_growSide := goodIn_r _ [36, 37, 3, 38, 4, 39, 40, 41, 12, 42, 15, 16, 21, 22, 23, 24, 43, 44, 45, 46, 47, 48, 49, 50, 51, 28, 0, 1, 2, 5, 6, 7, 8, 9, 10, 11, 13, 14, 17, 18, 19, 20, 25, 26, 27, 29, 30, 31, 32, 33, 34, 35, 52, 53, 54, 55, 56, 57, 58, 59, 60, 61, 62, 63] (by decide +kernel) (by decide +kernel)
set_option maxRecDepth 20000 in
theorem gX5_grow_X5_growSide : GoodIn wsX5_grow (wsV RX5 50 RX5 yX5_growSide wsX5_growSide) := goodIn_app (goodIn_of _ (by decide +kernel)) ggX5_grow_X5_growSide
set_option maxRecDepth 20000 in
theorem ggX5_grow_X5_setOfSide : GoodIn wsX5_grow wsX5_setOfSide := goodIn_r _ [32, 4, 1, 3, 8, 33, 34, 28, 35, 52, 53, 54, 55, 56, 57, 58] (by decide +kernel) (by decide +kernel)
set_option maxRecDepth 20000 in
theorem gX5_grow_X5_setOfSide : GoodIn wsX5_grow (wsV RX5 54 RX5 yX5_setOfSide wsX5_setOfSide) := goodIn_app (goodIn_of _ (by decide +kernel)) ggX5_grow_X5_setOfSide
set_option maxRecDepth 20000 in
theorem ggX5_grow_X5_both : GoodIn wsX5_grow wsX5_both := goodIn_r _ [35] (by decide +kernel) (by decide +kernel)
set_option maxRecDepth 20000 in
theorem gX5_grow_X5_both : GoodIn wsX5_grow (va_wsS RX5 58 yX5_both wsX5_both) := goodIn_app (goodIn_of _ (by decide +kernel)) ggX5_grow_X5_both
theorem dX5_grow_0 : decode cX5_grow 0 = .ok (.aload_n 0, 1) := by decide +kernel
theorem dX5_grow_1 : decode cX5_grow 1 = .ok (.getfield 30, 3) := by decide +kernel
theorem dX5_grow_4 : decode cX5_grow 4 = .ok (.sipush 256, 3) := by decide +kernel
theorem dX5_grow_7 : decode cX5_grow 7 = .ok (.if_icmp .ge 10, 3) := by decide +kernel
theorem dX5_grow_10 : decode cX5_grow 10 = .ok (.iload 5, 2) := by decide +kernel
theorem dX5_grow_12 : decode cX5_grow 12 = .ok (.bipush 32, 2) := by decide +kernel
theorem dX5_grow_14 : decode cX5_grow 14 = .ok (.if_icmp .le 5, 3) := by decide +kernel
theorem dX5_grow_17 : decode cX5_grow 17 = .ok (.iconst (-1), 1) := by decide +kernel
theorem dX5_grow_18 : decode cX5_grow 18 = .ok (.ireturn, 1) := by decide +kernel
theorem dX5_grow_19 : decode cX5_grow 19 = .ok (.aload_n 0, 1) := by decide +kernel
theorem dX5_grow_20 : decode cX5_grow 20 = .ok (.getfield 30, 3) := by decide +kernel
theorem dX5_grow_23 : decode cX5_grow 23 = .ok (.istore 7, 2) := by decide +kernel
theorem dX5_grow_25 : decode cX5_grow 25 = .ok (.aload_n 0, 1) := by decide +kernel
theorem dX5_grow_26 : decode cX5_grow 26 = .ok (.dup, 1) := by decide +kernel
theorem dX5_grow_27 : decode cX5_grow 27 = .ok (.getfield 30, 3) := by decide +kernel
theorem dX5_grow_30 : decode cX5_grow 30 = .ok (.iconst 1, 1) := by decide +kernel
theorem dX5_grow_31 : decode cX5_grow 31 = .ok (.iadd, 1) := by decide +kernel
theorem dX5_grow_32 : decode cX5_grow 32 = .ok (.putfield 30, 3) := by decide +kernel
theorem dX5_grow_35 : decode cX5_grow 35 = .ok (.iload_n 2, 1) := by decide +kernel
theorem dX5_grow_36 : decode cX5_grow 36 = .ok (.iload_n 3, 1) := by decide +kernel
theorem dX5_grow_37 : decode cX5_grow 37 = .ok (.if_icmp .ge 19, 3) := by decide +kernel
theorem dX5_grow_40 : decode cX5_grow 40 = .ok (.aload_n 1, 1) := by decide +kernel
theorem dX5_grow_41 : decode cX5_grow 41 = .ok (.iload_n 2, 1) := by decide +kernel
theorem dX5_grow_42 : decode cX5_grow 42 = .ok (.iload 4, 2) := by decide +kernel
theorem dX5_grow_44 : decode cX5_grow 44 = .ok (.iload 5, 2) := by decide +kernel
theorem dX5_grow_46 : decode cX5_grow 46 = .ok (.invokevirtual 41, 3) := by decide +kernel
theorem dX5_grow_49 : decode cX5_grow 49 = .ok (.ifCond .eq 7, 3) := by decide +kernel
theorem dX5_grow_52 : decode cX5_grow 52 = .ok (.iconst 1, 1) := by decide +kernel
theorem dX5_grow_53 : decode cX5_grow 53 = .ok (.goto 4, 3) := by decide +kernel
theorem dX5_grow_56 : decode cX5_grow 56 = .ok (.iconst 0, 1) := by decide +kernel
theorem dX5_grow_57 : decode cX5_grow 57 = .ok (.istore 8, 2) := by decide +kernel
theorem dX5_grow_59 : decode cX5_grow 59 = .ok (.iload 8, 2) := by decide +kernel
theorem dX5_grow_61 : decode cX5_grow 61 = .ok (.ifCond .eq 9, 3) := by decide +kernel
theorem dX5_grow_64 : decode cX5_grow 64 = .ok (.iload_n 2, 1) := by decide +kernel
theorem dX5_grow_65 : decode cX5_grow 65 = .ok (.iconst 1, 1) := by decide +kernel
theorem dX5_grow_66 : decode cX5_grow 66 = .ok (.iadd, 1) := by decide +kernel
theorem dX5_grow_67 : decode cX5_grow 67 = .ok (.goto 4, 3) := by decide +kernel
theorem dX5_grow_70 : decode cX5_grow 70 = .ok (.iload_n 2, 1) := by decide +kernel
theorem dX5_grow_71 : decode cX5_grow 71 = .ok (.istore 9, 2) := by decide +kernel
theorem dX5_grow_73 : decode cX5_grow 73 = .ok (.aload_n 0, 1) := by decide +kernel
theorem dX5_grow_74 : decode cX5_grow 74 = .ok (.getfield 11, 3) := by decide +kernel
theorem dX5_grow_77 : decode cX5_grow 77 = .ok (.iload 7, 2) := by decide +kernel
theorem dX5_grow_79 : decode cX5_grow 79 = .ok (.iload 4, 2) := by decide +kernel
theorem dX5_grow_81 : decode cX5_grow 81 = .ok (.iastore, 1) := by decide +kernel
theorem dX5_grow_82 : decode cX5_grow 82 = .ok (.aload_n 0, 1) := by decide +kernel
theorem dX5_grow_83 : decode cX5_grow 83 = .ok (.getfield 15, 3) := by decide +kernel
theorem dX5_grow_86 : decode cX5_grow 86 = .ok (.iload 7, 2) := by decide +kernel
theorem dX5_grow_88 : decode cX5_grow 88 = .ok (.iload 5, 2) := by decide +kernel
theorem dX5_grow_90 : decode cX5_grow 90 = .ok (.iastore, 1) := by decide +kernel
theorem dX5_grow_91 : decode cX5_grow 91 = .ok (.aload_n 0, 1) := by decide +kernel
theorem dX5_grow_92 : decode cX5_grow 92 = .ok (.getfield 18, 3) := by decide +kernel
theorem dX5_grow_95 : decode cX5_grow 95 = .ok (.iload 7, 2) := by decide +kernel
theorem dX5_grow_97 : decode cX5_grow 97 = .ok (.iload 8, 2) := by decide +kernel
theorem dX5_grow_99 : decode cX5_grow 99 = .ok (.ifCond .eq 12, 3) := by decide +kernel
theorem dX5_grow_102 : decode cX5_grow 102 = .ok (.aload_n 1, 1) := by decide +kernel
theorem dX5_grow_103 : decode cX5_grow 103 = .ok (.getfield 45, 3) := by decide +kernel
theorem dX5_grow_106 : decode cX5_grow 106 = .ok (.iload_n 2, 1) := by decide +kernel
theorem dX5_grow_107 : decode cX5_grow 107 = .ok (.iaload, 1) := by decide +kernel
theorem dX5_grow_108 : decode cX5_grow 108 = .ok (.goto 5, 3) := by decide +kernel
theorem dX5_grow_111 : decode cX5_grow 111 = .ok (.iload 6, 2) := by decide +kernel
theorem dX5_grow_113 : decode cX5_grow 113 = .ok (.iastore, 1) := by decide +kernel
theorem dX5_grow_114 : decode cX5_grow 114 = .ok (.aload_n 1, 1) := by decide +kernel
theorem dX5_grow_115 : decode cX5_grow 115 = .ok (.iload 9, 2) := by decide +kernel
theorem dX5_grow_117 : decode cX5_grow 117 = .ok (.iload_n 3, 1) := by decide +kernel
theorem dX5_grow_118 : decode cX5_grow 118 = .ok (.iload 5, 2) := by decide +kernel
theorem dX5_grow_120 : decode cX5_grow 120 = .ok (.invokevirtual 46, 3) := by decide +kernel
theorem dX5_grow_123 : decode cX5_grow 123 = .ok (.istore 10, 2) := by decide +kernel
theorem dX5_grow_125 : decode cX5_grow 125 = .ok (.aload_n 0, 1) := by decide +kernel
theorem dX5_grow_126 : decode cX5_grow 126 = .ok (.getfield 21, 3) := by decide +kernel
theorem dX5_grow_129 : decode cX5_grow 129 = .ok (.iload 7, 2) := by decide +kernel
theorem dX5_grow_131 : decode cX5_grow 131 = .ok (.aload_n 0, 1) := by decide +kernel
theorem dX5_grow_132 : decode cX5_grow 132 = .ok (.aload_n 1, 1) := by decide +kernel
theorem dX5_grow_133 : decode cX5_grow 133 = .ok (.iload 9, 2) := by decide +kernel
theorem dX5_grow_135 : decode cX5_grow 135 = .ok (.iload 10, 2) := by decide +kernel
theorem dX5_grow_137 : decode cX5_grow 137 = .ok (.iload 7, 2) := by decide +kernel
theorem dX5_grow_139 : decode cX5_grow 139 = .ok (.invokevirtual 50, 3) := by decide +kernel
theorem dX5_grow_142 : decode cX5_grow 142 = .ok (.iastore, 1) := by decide +kernel
theorem dX5_grow_143 : decode cX5_grow 143 = .ok (.aload_n 0, 1) := by decide +kernel
theorem dX5_grow_144 : decode cX5_grow 144 = .ok (.getfield 24, 3) := by decide +kernel
theorem dX5_grow_147 : decode cX5_grow 147 = .ok (.iload 7, 2) := by decide +kernel
theorem dX5_grow_149 : decode cX5_grow 149 = .ok (.aload_n 0, 1) := by decide +kernel
theorem dX5_grow_150 : decode cX5_grow 150 = .ok (.aload_n 1, 1) := by decide +kernel
theorem dX5_grow_151 : decode cX5_grow 151 = .ok (.iload 10, 2) := by decide +kernel
theorem dX5_grow_153 : decode cX5_grow 153 = .ok (.iload_n 3, 1) := by decide +kernel
theorem dX5_grow_154 : decode cX5_grow 154 = .ok (.iload 7, 2) := by decide +kernel
theorem dX5_grow_156 : decode cX5_grow 156 = .ok (.invokevirtual 50, 3) := by decide +kernel
theorem dX5_grow_159 : decode cX5_grow 159 = .ok (.iastore, 1) := by decide +kernel
theorem dX5_grow_160 : decode cX5_grow 160 = .ok (.aload_n 0, 1) := by decide +kernel
theorem dX5_grow_161 : decode cX5_grow 161 = .ok (.getfield 27, 3) := by decide +kernel
theorem dX5_grow_164 : decode cX5_grow 164 = .ok (.iload 7, 2) := by decide +kernel
theorem dX5_grow_166 : decode cX5_grow 166 = .ok (.aload_n 0, 1) := by decide +kernel
theorem dX5_grow_167 : decode cX5_grow 167 = .ok (.iload 7, 2) := by decide +kernel
theorem dX5_grow_169 : decode cX5_grow 169 = .ok (.aload_n 0, 1) := by decide +kernel
theorem dX5_grow_170 : decode cX5_grow 170 = .ok (.getfield 21, 3) := by decide +kernel
theorem dX5_grow_173 : decode cX5_grow 173 = .ok (.iload 7, 2) := by decide +kernel
theorem dX5_grow_175 : decode cX5_grow 175 = .ok (.iaload, 1) := by decide +kernel
theorem dX5_grow_176 : decode cX5_grow 176 = .ok (.invokevirtual 54, 3) := by decide +kernel
theorem dX5_grow_179 : decode cX5_grow 179 = .ok (.aload_n 0, 1) := by decide +kernel
theorem dX5_grow_180 : decode cX5_grow 180 = .ok (.iload 7, 2) := by decide +kernel
theorem dX5_grow_182 : decode cX5_grow 182 = .ok (.aload_n 0, 1) := by decide +kernel
theorem dX5_grow_183 : decode cX5_grow 183 = .ok (.getfield 24, 3) := by decide +kernel
theorem dX5_grow_186 : decode cX5_grow 186 = .ok (.iload 7, 2) := by decide +kernel
theorem dX5_grow_188 : decode cX5_grow 188 = .ok (.iaload, 1) := by decide +kernel
theorem dX5_grow_189 : decode cX5_grow 189 = .ok (.invokevirtual 54, 3) := by decide +kernel
theorem dX5_grow_192 : decode cX5_grow 192 = .ok (.invokestatic 58, 3) := by decide +kernel
theorem dX5_grow_195 : decode cX5_grow 195 = .ok (.iastore, 1) := by decide +kernel
theorem dX5_grow_196 : decode cX5_grow 196 = .ok (.iload 7, 2) := by decide +kernel
theorem dX5_grow_198 : decode cX5_grow 198 = .ok (.ireturn, 1) := by decide +kernel
set_option maxRecDepth 20000 in
theorem ggX5_growSide_X2_commonBits : GoodIn wsX5_growSide wsX2_commonBits := goodIn_r _ [9, 10, 11, 12, 13, 14, 15, 59, 60, 61, 62, 63] (by decide +kernel) (by decide +kernel)
set_option maxRecDepth 20000 in
theorem gX5_growSide_X2_commonBits : GoodIn wsX5_growSide (wsV RX5 61 RX2 yX2_commonBits wsX2_commonBits) := goodIn_app (goodIn_of _ (by decide +kernel)) ggX5_growSide_X2_commonBits
set_option maxRecDepth 20000 in
theorem ggX5_growSide_X7_mask : GoodIn wsX5_growSide wsX7_mask := goodIn_r _ [17, 18, 19, 20, 21] (by decide +kernel) (by decide +kernel)
set_option maxRecDepth 20000 in
theorem gX5_growSide_X7_mask_n65 : GoodIn wsX5_growSide (wsX7_mask) := ggX5_growSide_X7_mask
set_option maxRecDepth 20000 in
theorem ggX5_growSide_X5_grow : GoodIn wsX5_growSide wsX5_grow := goodIn_r _ [26, 27, 28, 2, 4, 29, 30, 31, 32, 33, 34, 35, 8, 36, 37, 10, 11, 38, 39, 40, 41, 12, 13, 14, 15, 42, 43, 44, 25, 45, 46, 47, 48, 49, 50, 51, 0, 1, 3, 5, 6, 7, 9, 16, 17, 18, 19, 20, 21, 22, 23, 24, 52, 53, 54, 55, 56, 57, 58, 59, 60, 61, 62, 63] (by decide +kernel) (by decide +kernel)
set_option maxRecDepth 20000 in
theorem gX5_growSide_X5_grow : GoodIn wsX5_growSide (wsV RX5 37 RX5 yX5_grow wsX5_grow) := goodIn_app (goodIn_of _ (by decide +kernel)) ggX5_growSide_X5_grow
theorem dX5_growSide_0 : decode cX5_growSide 0 = .ok (.iload_n 2, 1) := by decide +kernel
theorem dX5_growSide_1 : decode cX5_growSide 1 = .ok (.ifCond .lt 16, 3) := by decide +kernel
theorem dX5_growSide_4 : decode cX5_growSide 4 = .ok (.iload_n 2, 1) := by decide +kernel
theorem dX5_growSide_5 : decode cX5_growSide 5 = .ok (.iload_n 3, 1) := by decide +kernel
theorem dX5_growSide_6 : decode cX5_growSide 6 = .ok (.if_icmp .ge 11, 3) := by decide +kernel
theorem dX5_growSide_9 : decode cX5_growSide 9 = .ok (.iload_n 3, 1) := by decide +kernel
theorem dX5_growSide_10 : decode cX5_growSide 10 = .ok (.aload_n 1, 1) := by decide +kernel
theorem dX5_growSide_11 : decode cX5_growSide 11 = .ok (.getfield 34, 3) := by decide +kernel
theorem dX5_growSide_14 : decode cX5_growSide 14 = .ok (.if_icmp .le 5, 3) := by decide +kernel
theorem dX5_growSide_17 : decode cX5_growSide 17 = .ok (.iconst (-1), 1) := by decide +kernel
theorem dX5_growSide_18 : decode cX5_growSide 18 = .ok (.ireturn, 1) := by decide +kernel
theorem dX5_growSide_19 : decode cX5_growSide 19 = .ok (.aload_n 1, 1) := by decide +kernel
theorem dX5_growSide_20 : decode cX5_growSide 20 = .ok (.iload_n 2, 1) := by decide +kernel
theorem dX5_growSide_21 : decode cX5_growSide 21 = .ok (.iload_n 3, 1) := by decide +kernel
theorem dX5_growSide_22 : decode cX5_growSide 22 = .ok (.iconst 1, 1) := by decide +kernel
theorem dX5_growSide_23 : decode cX5_growSide 23 = .ok (.isub, 1) := by decide +kernel
theorem dX5_growSide_24 : decode cX5_growSide 24 = .ok (.invokevirtual 61, 3) := by decide +kernel
theorem dX5_growSide_27 : decode cX5_growSide 27 = .ok (.istore 5, 2) := by decide +kernel
theorem dX5_growSide_29 : decode cX5_growSide 29 = .ok (.iload 5, 2) := by decide +kernel
theorem dX5_growSide_31 : decode cX5_growSide 31 = .ok (.aload_n 0, 1) := by decide +kernel
theorem dX5_growSide_32 : decode cX5_growSide 32 = .ok (.getfield 15, 3) := by decide +kernel
theorem dX5_growSide_35 : decode cX5_growSide 35 = .ok (.iload 4, 2) := by decide +kernel
theorem dX5_growSide_37 : decode cX5_growSide 37 = .ok (.iaload, 1) := by decide +kernel
theorem dX5_growSide_38 : decode cX5_growSide 38 = .ok (.if_icmp .gt 5, 3) := by decide +kernel
theorem dX5_growSide_41 : decode cX5_growSide 41 = .ok (.iconst (-1), 1) := by decide +kernel
theorem dX5_growSide_42 : decode cX5_growSide 42 = .ok (.ireturn, 1) := by decide +kernel
theorem dX5_growSide_43 : decode cX5_growSide 43 = .ok (.aload_n 0, 1) := by decide +kernel
theorem dX5_growSide_44 : decode cX5_growSide 44 = .ok (.aload_n 1, 1) := by decide +kernel
theorem dX5_growSide_45 : decode cX5_growSide 45 = .ok (.iload_n 2, 1) := by decide +kernel
theorem dX5_growSide_46 : decode cX5_growSide 46 = .ok (.iload_n 3, 1) := by decide +kernel
theorem dX5_growSide_47 : decode cX5_growSide 47 = .ok (.aload_n 1, 1) := by decide +kernel
theorem dX5_growSide_48 : decode cX5_growSide 48 = .ok (.getfield 64, 3) := by decide +kernel
theorem dX5_growSide_51 : decode cX5_growSide 51 = .ok (.iload_n 2, 1) := by decide +kernel
theorem dX5_growSide_52 : decode cX5_growSide 52 = .ok (.iaload, 1) := by decide +kernel
theorem dX5_growSide_53 : decode cX5_growSide 53 = .ok (.iload 5, 2) := by decide +kernel
theorem dX5_growSide_55 : decode cX5_growSide 55 = .ok (.invokestatic 65, 3) := by decide +kernel
theorem dX5_growSide_58 : decode cX5_growSide 58 = .ok (.iand, 1) := by decide +kernel
theorem dX5_growSide_59 : decode cX5_growSide 59 = .ok (.iload 5, 2) := by decide +kernel
theorem dX5_growSide_61 : decode cX5_growSide 61 = .ok (.aload_n 0, 1) := by decide +kernel
theorem dX5_growSide_62 : decode cX5_growSide 62 = .ok (.getfield 18, 3) := by decide +kernel
theorem dX5_growSide_65 : decode cX5_growSide 65 = .ok (.iload 4, 2) := by decide +kernel
theorem dX5_growSide_67 : decode cX5_growSide 67 = .ok (.iaload, 1) := by decide +kernel
theorem dX5_growSide_68 : decode cX5_growSide 68 = .ok (.invokevirtual 37, 3) := by decide +kernel
theorem dX5_growSide_71 : decode cX5_growSide 71 = .ok (.ireturn, 1) := by decide +kernel
set_option maxRecDepth 20000 in
theorem ggX5_setOfSide_X5_both : GoodIn wsX5_setOfSide wsX5_both := goodIn_r _ [8] (by decide +kernel) (by decide +kernel)
set_option maxRecDepth 20000 in
theorem gX5_setOfSide_X5_both : GoodIn wsX5_setOfSide (va_wsS RX5 58 yX5_both wsX5_both) := goodIn_app (goodIn_of _ (by decide +kernel)) ggX5_setOfSide_X5_both
theorem dX5_setOfSide_0 : decode cX5_setOfSide 0 = .ok (.iconst 1, 1) := by decide +kernel
theorem dX5_setOfSide_1 : decode cX5_setOfSide 1 = .ok (.aload_n 0, 1) := by decide +kernel
theorem dX5_setOfSide_2 : decode cX5_setOfSide 2 = .ok (.getfield 18, 3) := by decide +kernel
theorem dX5_setOfSide_5 : decode cX5_setOfSide 5 = .ok (.iload_n 1, 1) := by decide +kernel
theorem dX5_setOfSide_6 : decode cX5_setOfSide 6 = .ok (.iaload, 1) := by decide +kernel
theorem dX5_setOfSide_7 : decode cX5_setOfSide 7 = .ok (.ishl, 1) := by decide +kernel
theorem dX5_setOfSide_8 : decode cX5_setOfSide 8 = .ok (.istore_n 3, 1) := by decide +kernel
theorem dX5_setOfSide_9 : decode cX5_setOfSide 9 = .ok (.iload_n 2, 1) := by decide +kernel
theorem dX5_setOfSide_10 : decode cX5_setOfSide 10 = .ok (.ifCond .lt 11, 3) := by decide +kernel
theorem dX5_setOfSide_13 : decode cX5_setOfSide 13 = .ok (.iload_n 2, 1) := by decide +kernel
theorem dX5_setOfSide_14 : decode cX5_setOfSide 14 = .ok (.aload_n 0, 1) := by decide +kernel
theorem dX5_setOfSide_15 : decode cX5_setOfSide 15 = .ok (.getfield 30, 3) := by decide +kernel
theorem dX5_setOfSide_18 : decode cX5_setOfSide 18 = .ok (.if_icmp .lt 5, 3) := by decide +kernel
theorem dX5_setOfSide_21 : decode cX5_setOfSide 21 = .ok (.iload_n 3, 1) := by decide +kernel
theorem dX5_setOfSide_22 : decode cX5_setOfSide 22 = .ok (.ireturn, 1) := by decide +kernel
theorem dX5_setOfSide_23 : decode cX5_setOfSide 23 = .ok (.aload_n 0, 1) := by decide +kernel
theorem dX5_setOfSide_24 : decode cX5_setOfSide 24 = .ok (.getfield 15, 3) := by decide +kernel
theorem dX5_setOfSide_27 : decode cX5_setOfSide 27 = .ok (.iload_n 2, 1) := by decide +kernel
theorem dX5_setOfSide_28 : decode cX5_setOfSide 28 = .ok (.iaload, 1) := by decide +kernel
theorem dX5_setOfSide_29 : decode cX5_setOfSide 29 = .ok (.aload_n 0, 1) := by decide +kernel
theorem dX5_setOfSide_30 : decode cX5_setOfSide 30 = .ok (.getfield 15, 3) := by decide +kernel
theorem dX5_setOfSide_33 : decode cX5_setOfSide 33 = .ok (.iload_n 1, 1) := by decide +kernel
theorem dX5_setOfSide_34 : decode cX5_setOfSide 34 = .ok (.iaload, 1) := by decide +kernel
theorem dX5_setOfSide_35 : decode cX5_setOfSide 35 = .ok (.isub, 1) := by decide +kernel
theorem dX5_setOfSide_36 : decode cX5_setOfSide 36 = .ok (.iconst 1, 1) := by decide +kernel
theorem dX5_setOfSide_37 : decode cX5_setOfSide 37 = .ok (.isub, 1) := by decide +kernel
theorem dX5_setOfSide_38 : decode cX5_setOfSide 38 = .ok (.istore 4, 2) := by decide +kernel
theorem dX5_setOfSide_40 : decode cX5_setOfSide 40 = .ok (.iload 4, 2) := by decide +kernel
theorem dX5_setOfSide_42 : decode cX5_setOfSide 42 = .ok (.ifCond .gt 10, 3) := by decide +kernel
theorem dX5_setOfSide_45 : decode cX5_setOfSide 45 = .ok (.aload_n 0, 1) := by decide +kernel
theorem dX5_setOfSide_46 : decode cX5_setOfSide 46 = .ok (.getfield 27, 3) := by decide +kernel
theorem dX5_setOfSide_49 : decode cX5_setOfSide 49 = .ok (.iload_n 2, 1) := by decide +kernel
theorem dX5_setOfSide_50 : decode cX5_setOfSide 50 = .ok (.iaload, 1) := by decide +kernel
theorem dX5_setOfSide_51 : decode cX5_setOfSide 51 = .ok (.ireturn, 1) := by decide +kernel
theorem dX5_setOfSide_52 : decode cX5_setOfSide 52 = .ok (.iload 4, 2) := by decide +kernel
theorem dX5_setOfSide_54 : decode cX5_setOfSide 54 = .ok (.iconst 1, 1) := by decide +kernel
theorem dX5_setOfSide_55 : decode cX5_setOfSide 55 = .ok (.if_icmp .ne 16, 3) := by decide +kernel
theorem dX5_setOfSide_58 : decode cX5_setOfSide 58 = .ok (.aload_n 0, 1) := by decide +kernel
theorem dX5_setOfSide_59 : decode cX5_setOfSide 59 = .ok (.getfield 27, 3) := by decide +kernel
theorem dX5_setOfSide_62 : decode cX5_setOfSide 62 = .ok (.iload_n 2, 1) := by decide +kernel
theorem dX5_setOfSide_63 : decode cX5_setOfSide 63 = .ok (.iaload, 1) := by decide +kernel
theorem dX5_setOfSide_64 : decode cX5_setOfSide 64 = .ok (.iload_n 3, 1) := by decide +kernel
theorem dX5_setOfSide_65 : decode cX5_setOfSide 65 = .ok (.invokestatic 58, 3) := by decide +kernel
theorem dX5_setOfSide_68 : decode cX5_setOfSide 68 = .ok (.goto 4, 3) := by decide +kernel
theorem dX5_setOfSide_71 : decode cX5_setOfSide 71 = .ok (.iload_n 3, 1) := by decide +kernel
theorem dX5_setOfSide_72 : decode cX5_setOfSide 72 = .ok (.ireturn, 1) := by decide +kernel
theorem dX5_both_0 : decode cX5_both 0 = .ok (.iload_n 0, 1) := by decide +kernel
theorem dX5_both_1 : decode cX5_both 1 = .ok (.iload_n 1, 1) := by decide +kernel
theorem dX5_both_2 : decode cX5_both 2 = .ok (.iand, 1) := by decide +kernel
theorem dX5_both_3 : decode cX5_both 3 = .ok (.ifCond .eq 9, 3) := by decide +kernel
theorem dX5_both_6 : decode cX5_both 6 = .ok (.iload_n 0, 1) := by decide +kernel
theorem dX5_both_7 : decode cX5_both 7 = .ok (.iload_n 1, 1) := by decide +kernel
theorem dX5_both_8 : decode cX5_both 8 = .ok (.iand, 1) := by decide +kernel
theorem dX5_both_9 : decode cX5_both 9 = .ok (.goto 6, 3) := by decide +kernel
theorem dX5_both_12 : decode cX5_both 12 = .ok (.iload_n 0, 1) := by decide +kernel
theorem dX5_both_13 : decode cX5_both 13 = .ok (.iload_n 1, 1) := by decide +kernel
theorem dX5_both_14 : decode cX5_both 14 = .ok (.ior, 1) := by decide +kernel
theorem dX5_both_15 : decode cX5_both 15 = .ok (.ireturn, 1) := by decide +kernel
set_option maxRecDepth 20000 in
theorem ggX5_writeLeast_X2_clear : GoodIn wsX5_writeLeast wsX2_clear := goodIn_r _ [5, 6, 52, 53, 54, 55, 56] (by decide +kernel) (by decide +kernel)
set_option maxRecDepth 20000 in
theorem gX5_writeLeast_X2_clear : GoodIn wsX5_writeLeast (wsV RX5 69 RX2 yX2_clear wsX2_clear) := goodIn_app (goodIn_of _ (by decide +kernel)) ggX5_writeLeast_X2_clear
set_option maxRecDepth 20000 in
theorem ggX5_writeLeast_X5_writeNode : GoodIn wsX5_writeLeast wsX5_writeNode := goodIn_r _ [11, 12, 13, 14, 15, 16, 17, 18, 19, 10, 20, 21, 22, 23, 24, 25, 26, 4, 27, 6, 28, 29, 30, 31, 32, 33, 34, 35, 36, 37, 38, 39, 7, 8, 9, 40, 41, 42, 43, 44, 45, 46, 47, 48, 49, 50, 51, 57, 58, 59, 60, 61, 62, 63, 52, 53, 54, 55, 56] (by decide +kernel) (by decide +kernel)
set_option maxRecDepth 20000 in
theorem gX5_writeLeast_X5_writeNode : GoodIn wsX5_writeLeast (wsV RX5 72 RX5 yX5_writeNode wsX5_writeNode) := goodIn_app (goodIn_of _ (by decide +kernel)) ggX5_writeLeast_X5_writeNode
theorem dX5_writeLeast_0 : decode cX5_writeLeast 0 = .ok (.aload_n 1, 1) := by decide +kernel
theorem dX5_writeLeast_1 : decode cX5_writeLeast 1 = .ok (.invokevirtual 69, 3) := by decide +kernel
theorem dX5_writeLeast_4 : decode cX5_writeLeast 4 = .ok (.aload_n 0, 1) := by decide +kernel
theorem dX5_writeLeast_5 : decode cX5_writeLeast 5 = .ok (.aload_n 1, 1) := by decide +kernel
theorem dX5_writeLeast_6 : decode cX5_writeLeast 6 = .ok (.iconst 0, 1) := by decide +kernel
theorem dX5_writeLeast_7 : decode cX5_writeLeast 7 = .ok (.bipush 16, 2) := by decide +kernel
theorem dX5_writeLeast_9 : decode cX5_writeLeast 9 = .ok (.iconst 0, 1) := by decide +kernel
theorem dX5_writeLeast_10 : decode cX5_writeLeast 10 = .ok (.invokevirtual 72, 3) := by decide +kernel
theorem dX5_writeLeast_13 : decode cX5_writeLeast 13 = .ok (.return_, 1) := by decide +kernel
set_option maxRecDepth 20000 in
theorem ggX5_writeNode_X5_writeIfNeeded : GoodIn wsX5_writeNode wsX5_writeIfNeeded := goodIn_r _ [10, 11, 12, 9, 13, 14, 15, 16, 17, 18, 19, 20, 21, 22, 23, 54, 55, 56, 57, 58] (by decide +kernel) (by decide +kernel)
set_option maxRecDepth 20000 in
theorem gX5_writeNode_X5_writeIfNeeded : GoodIn wsX5_writeNode (va_wsS RX5 76 yX5_writeIfNeeded wsX5_writeIfNeeded) := goodIn_app (goodIn_of _ (by decide +kernel)) ggX5_writeNode_X5_writeIfNeeded
set_option maxRecDepth 20000 in
theorem ggX5_writeNode_X5_writeSide : GoodIn wsX5_writeNode wsX5_writeSide := goodIn_r _ [31, 3, 1, 32, 33, 34, 9, 35, 36, 37, 38, 39, 4, 40, 41, 42, 7, 8, 10, 11, 12, 13, 14, 15, 16, 17, 18, 19, 20, 21, 22, 23, 43, 44, 45, 0, 2, 5, 6, 24, 25, 26, 27, 28, 29, 30, 46, 47, 48, 49, 50, 51, 52, 53, 54, 55, 56, 57, 58] (by decide +kernel) (by decide +kernel)
set_option maxRecDepth 20000 in
theorem gX5_writeNode_X5_writeSide : GoodIn wsX5_writeNode (wsV RX5 80 RX5 yX5_writeSide wsX5_writeSide) := goodIn_app (goodIn_of _ (by decide +kernel)) ggX5_writeNode_X5_writeSide
set_option maxRecDepth 20000 in
theorem ggX5_writeNode_X7_bitAt : GoodIn wsX5_writeNode wsX7_bitAt := goodIn_r _ [29, 30] (by decide +kernel) (by decide +kernel)
set_option maxRecDepth 20000 in
theorem gX5_writeNode_X7_bitAt_n84 : GoodIn wsX5_writeNode (wsX7_bitAt) := ggX5_writeNode_X7_bitAt
theorem dX5_writeNode_0 : decode cX5_writeNode 0 = .ok (.iload_n 2, 1) := by decide +kernel
theorem dX5_writeNode_1 : decode cX5_writeNode 1 = .ok (.ifCond .lt 18, 3) := by decide +kernel
theorem dX5_writeNode_4 : decode cX5_writeNode 4 = .ok (.iload_n 2, 1) := by decide +kernel
theorem dX5_writeNode_5 : decode cX5_writeNode 5 = .ok (.aload_n 0, 1) := by decide +kernel
theorem dX5_writeNode_6 : decode cX5_writeNode 6 = .ok (.getfield 30, 3) := by decide +kernel
theorem dX5_writeNode_9 : decode cX5_writeNode 9 = .ok (.if_icmp .ge 10, 3) := by decide +kernel
theorem dX5_writeNode_12 : decode cX5_writeNode 12 = .ok (.iload 4, 2) := by decide +kernel
theorem dX5_writeNode_14 : decode cX5_writeNode 14 = .ok (.bipush 32, 2) := by decide +kernel
theorem dX5_writeNode_16 : decode cX5_writeNode 16 = .ok (.if_icmp .le 4, 3) := by decide +kernel
theorem dX5_writeNode_19 : decode cX5_writeNode 19 = .ok (.return_, 1) := by decide +kernel
theorem dX5_writeNode_20 : decode cX5_writeNode 20 = .ok (.aload_n 1, 1) := by decide +kernel
theorem dX5_writeNode_21 : decode cX5_writeNode 21 = .ok (.aload_n 0, 1) := by decide +kernel
theorem dX5_writeNode_22 : decode cX5_writeNode 22 = .ok (.getfield 11, 3) := by decide +kernel
theorem dX5_writeNode_25 : decode cX5_writeNode 25 = .ok (.iload_n 2, 1) := by decide +kernel
theorem dX5_writeNode_26 : decode cX5_writeNode 26 = .ok (.iaload, 1) := by decide +kernel
theorem dX5_writeNode_27 : decode cX5_writeNode 27 = .ok (.aload_n 0, 1) := by decide +kernel
theorem dX5_writeNode_28 : decode cX5_writeNode 28 = .ok (.getfield 15, 3) := by decide +kernel
theorem dX5_writeNode_31 : decode cX5_writeNode 31 = .ok (.iload_n 2, 1) := by decide +kernel
theorem dX5_writeNode_32 : decode cX5_writeNode 32 = .ok (.iaload, 1) := by decide +kernel
theorem dX5_writeNode_33 : decode cX5_writeNode 33 = .ok (.aload_n 0, 1) := by decide +kernel
theorem dX5_writeNode_34 : decode cX5_writeNode 34 = .ok (.getfield 27, 3) := by decide +kernel
theorem dX5_writeNode_37 : decode cX5_writeNode 37 = .ok (.iload_n 2, 1) := by decide +kernel
theorem dX5_writeNode_38 : decode cX5_writeNode 38 = .ok (.iaload, 1) := by decide +kernel
theorem dX5_writeNode_39 : decode cX5_writeNode 39 = .ok (.iload_n 3, 1) := by decide +kernel
theorem dX5_writeNode_40 : decode cX5_writeNode 40 = .ok (.invokestatic 76, 3) := by decide +kernel
theorem dX5_writeNode_43 : decode cX5_writeNode 43 = .ok (.istore 5, 2) := by decide +kernel
theorem dX5_writeNode_45 : decode cX5_writeNode 45 = .ok (.aload_n 0, 1) := by decide +kernel
theorem dX5_writeNode_46 : decode cX5_writeNode 46 = .ok (.getfield 21, 3) := by decide +kernel
theorem dX5_writeNode_49 : decode cX5_writeNode 49 = .ok (.iload_n 2, 1) := by decide +kernel
theorem dX5_writeNode_50 : decode cX5_writeNode 50 = .ok (.iaload, 1) := by decide +kernel
theorem dX5_writeNode_51 : decode cX5_writeNode 51 = .ok (.iconst (-1), 1) := by decide +kernel
theorem dX5_writeNode_52 : decode cX5_writeNode 52 = .ok (.if_icmp .ne 14, 3) := by decide +kernel
theorem dX5_writeNode_55 : decode cX5_writeNode 55 = .ok (.aload_n 0, 1) := by decide +kernel
theorem dX5_writeNode_56 : decode cX5_writeNode 56 = .ok (.getfield 24, 3) := by decide +kernel
theorem dX5_writeNode_59 : decode cX5_writeNode 59 = .ok (.iload_n 2, 1) := by decide +kernel
theorem dX5_writeNode_60 : decode cX5_writeNode 60 = .ok (.iaload, 1) := by decide +kernel
theorem dX5_writeNode_61 : decode cX5_writeNode 61 = .ok (.iconst (-1), 1) := by decide +kernel
theorem dX5_writeNode_62 : decode cX5_writeNode 62 = .ok (.if_icmp .ne 4, 3) := by decide +kernel
theorem dX5_writeNode_65 : decode cX5_writeNode 65 = .ok (.return_, 1) := by decide +kernel
theorem dX5_writeNode_66 : decode cX5_writeNode 66 = .ok (.aload_n 0, 1) := by decide +kernel
theorem dX5_writeNode_67 : decode cX5_writeNode 67 = .ok (.aload_n 1, 1) := by decide +kernel
theorem dX5_writeNode_68 : decode cX5_writeNode 68 = .ok (.iload_n 2, 1) := by decide +kernel
theorem dX5_writeNode_69 : decode cX5_writeNode 69 = .ok (.aload_n 0, 1) := by decide +kernel
theorem dX5_writeNode_70 : decode cX5_writeNode 70 = .ok (.getfield 21, 3) := by decide +kernel
theorem dX5_writeNode_73 : decode cX5_writeNode 73 = .ok (.iload_n 2, 1) := by decide +kernel
theorem dX5_writeNode_74 : decode cX5_writeNode 74 = .ok (.iaload, 1) := by decide +kernel
theorem dX5_writeNode_75 : decode cX5_writeNode 75 = .ok (.aload_n 0, 1) := by decide +kernel
theorem dX5_writeNode_76 : decode cX5_writeNode 76 = .ok (.getfield 11, 3) := by decide +kernel
theorem dX5_writeNode_79 : decode cX5_writeNode 79 = .ok (.iload_n 2, 1) := by decide +kernel
theorem dX5_writeNode_80 : decode cX5_writeNode 80 = .ok (.iaload, 1) := by decide +kernel
theorem dX5_writeNode_81 : decode cX5_writeNode 81 = .ok (.iload 5, 2) := by decide +kernel
theorem dX5_writeNode_83 : decode cX5_writeNode 83 = .ok (.iload 4, 2) := by decide +kernel
theorem dX5_writeNode_85 : decode cX5_writeNode 85 = .ok (.invokevirtual 80, 3) := by decide +kernel
theorem dX5_writeNode_88 : decode cX5_writeNode 88 = .ok (.aload_n 0, 1) := by decide +kernel
theorem dX5_writeNode_89 : decode cX5_writeNode 89 = .ok (.aload_n 1, 1) := by decide +kernel
theorem dX5_writeNode_90 : decode cX5_writeNode 90 = .ok (.iload_n 2, 1) := by decide +kernel
theorem dX5_writeNode_91 : decode cX5_writeNode 91 = .ok (.aload_n 0, 1) := by decide +kernel
theorem dX5_writeNode_92 : decode cX5_writeNode 92 = .ok (.getfield 24, 3) := by decide +kernel
theorem dX5_writeNode_95 : decode cX5_writeNode 95 = .ok (.iload_n 2, 1) := by decide +kernel
theorem dX5_writeNode_96 : decode cX5_writeNode 96 = .ok (.iaload, 1) := by decide +kernel
theorem dX5_writeNode_97 : decode cX5_writeNode 97 = .ok (.aload_n 0, 1) := by decide +kernel
theorem dX5_writeNode_98 : decode cX5_writeNode 98 = .ok (.getfield 11, 3) := by decide +kernel
theorem dX5_writeNode_101 : decode cX5_writeNode 101 = .ok (.iload_n 2, 1) := by decide +kernel
theorem dX5_writeNode_102 : decode cX5_writeNode 102 = .ok (.iaload, 1) := by decide +kernel
theorem dX5_writeNode_103 : decode cX5_writeNode 103 = .ok (.aload_n 0, 1) := by decide +kernel
theorem dX5_writeNode_104 : decode cX5_writeNode 104 = .ok (.getfield 15, 3) := by decide +kernel
theorem dX5_writeNode_107 : decode cX5_writeNode 107 = .ok (.iload_n 2, 1) := by decide +kernel
theorem dX5_writeNode_108 : decode cX5_writeNode 108 = .ok (.iaload, 1) := by decide +kernel
theorem dX5_writeNode_109 : decode cX5_writeNode 109 = .ok (.invokestatic 84, 3) := by decide +kernel
theorem dX5_writeNode_112 : decode cX5_writeNode 112 = .ok (.ior, 1) := by decide +kernel
theorem dX5_writeNode_113 : decode cX5_writeNode 113 = .ok (.iload 5, 2) := by decide +kernel
theorem dX5_writeNode_115 : decode cX5_writeNode 115 = .ok (.iload 4, 2) := by decide +kernel
theorem dX5_writeNode_117 : decode cX5_writeNode 117 = .ok (.invokevirtual 80, 3) := by decide +kernel
theorem dX5_writeNode_120 : decode cX5_writeNode 120 = .ok (.return_, 1) := by decide +kernel
set_option maxRecDepth 20000 in
theorem ggX5_writeSide_X5_writeNode : GoodIn wsX5_writeSide wsX5_writeNode := goodIn_r _ [35, 2, 36, 1, 12, 37, 38, 16, 17, 6, 18, 19, 20, 21, 22, 23, 24, 25, 26, 27, 28, 29, 30, 31, 39, 40, 41, 42, 43, 44, 45, 0, 3, 4, 5, 7, 8, 9, 10, 11, 13, 14, 15, 32, 33, 34, 46, 47, 48, 49, 50, 51, 52, 53, 54, 55, 56, 57, 58] (by decide +kernel) (by decide +kernel)
set_option maxRecDepth 20000 in
theorem gX5_writeSide_X5_writeNode : GoodIn wsX5_writeSide (wsV RX5 72 RX5 yX5_writeNode wsX5_writeNode) := goodIn_app (goodIn_of _ (by decide +kernel)) ggX5_writeSide_X5_writeNode
set_option maxRecDepth 20000 in
theorem ggX5_writeSide_X5_setOfSide : GoodIn wsX5_writeSide wsX5_setOfSide := goodIn_r _ [10, 11, 2, 1, 12, 13, 14, 6, 15, 47, 48, 49, 50, 51, 52, 53] (by decide +kernel) (by decide +kernel)
set_option maxRecDepth 20000 in
theorem gX5_writeSide_X5_setOfSide : GoodIn wsX5_writeSide (wsV RX5 54 RX5 yX5_setOfSide wsX5_setOfSide) := goodIn_app (goodIn_of _ (by decide +kernel)) ggX5_writeSide_X5_setOfSide
set_option maxRecDepth 20000 in
theorem ggX5_writeSide_X5_writeIfNeeded : GoodIn wsX5_writeSide wsX5_writeIfNeeded := goodIn_r _ [18, 19, 20, 6, 21, 22, 23, 24, 25, 26, 27, 28, 29, 30, 31, 54, 55, 56, 57, 58] (by decide +kernel) (by decide +kernel)
set_option maxRecDepth 20000 in
theorem gX5_writeSide_X5_writeIfNeeded : GoodIn wsX5_writeSide (va_wsS RX5 76 yX5_writeIfNeeded wsX5_writeIfNeeded) := goodIn_app (goodIn_of _ (by decide +kernel)) ggX5_writeSide_X5_writeIfNeeded
set_option maxRecDepth 20000 in
theorem ggX5_writeSide_X5_writeWithTwin : GoodIn wsX5_writeSide wsX5_writeWithTwin := goodIn_r _ [46, 1, 36, 11, 42, 43, 44, 45, 16, 17, 6, 18, 19, 20, 21, 22, 23, 24, 25, 26, 27, 28, 29, 30, 31, 3, 4, 5, 35, 2, 12, 37, 38, 39, 40, 41, 0, 7, 8, 9, 10, 13, 14, 15, 32, 33, 34, 47, 48, 49, 50, 51, 52, 53, 54, 55, 56, 57, 58] (by decide +kernel) (by decide +kernel)
set_option maxRecDepth 20000 in
theorem gX5_writeSide_X5_writeWithTwin : GoodIn wsX5_writeSide (wsV RX5 87 RX5 yX5_writeWithTwin wsX5_writeWithTwin) := goodIn_app (goodIn_of _ (by decide +kernel)) ggX5_writeSide_X5_writeWithTwin
theorem dX5_writeSide_0 : decode cX5_writeSide 0 = .ok (.aload_n 0, 1) := by decide +kernel
theorem dX5_writeSide_1 : decode cX5_writeSide 1 = .ok (.getfield 15, 3) := by decide +kernel
theorem dX5_writeSide_4 : decode cX5_writeSide 4 = .ok (.iload_n 2, 1) := by decide +kernel
theorem dX5_writeSide_5 : decode cX5_writeSide 5 = .ok (.iaload, 1) := by decide +kernel
theorem dX5_writeSide_6 : decode cX5_writeSide 6 = .ok (.iconst 1, 1) := by decide +kernel
theorem dX5_writeSide_7 : decode cX5_writeSide 7 = .ok (.iadd, 1) := by decide +kernel
theorem dX5_writeSide_8 : decode cX5_writeSide 8 = .ok (.istore 7, 2) := by decide +kernel
theorem dX5_writeSide_10 : decode cX5_writeSide 10 = .ok (.iload_n 3, 1) := by decide +kernel
theorem dX5_writeSide_11 : decode cX5_writeSide 11 = .ok (.ifCond .lt 35, 3) := by decide +kernel
theorem dX5_writeSide_14 : decode cX5_writeSide 14 = .ok (.iload_n 3, 1) := by decide +kernel
theorem dX5_writeSide_15 : decode cX5_writeSide 15 = .ok (.aload_n 0, 1) := by decide +kernel
theorem dX5_writeSide_16 : decode cX5_writeSide 16 = .ok (.getfield 30, 3) := by decide +kernel
theorem dX5_writeSide_19 : decode cX5_writeSide 19 = .ok (.if_icmp .ge 27, 3) := by decide +kernel
theorem dX5_writeSide_22 : decode cX5_writeSide 22 = .ok (.aload_n 0, 1) := by decide +kernel
theorem dX5_writeSide_23 : decode cX5_writeSide 23 = .ok (.getfield 15, 3) := by decide +kernel
theorem dX5_writeSide_26 : decode cX5_writeSide 26 = .ok (.iload_n 3, 1) := by decide +kernel
theorem dX5_writeSide_27 : decode cX5_writeSide 27 = .ok (.iaload, 1) := by decide +kernel
theorem dX5_writeSide_28 : decode cX5_writeSide 28 = .ok (.iload 7, 2) := by decide +kernel
theorem dX5_writeSide_30 : decode cX5_writeSide 30 = .ok (.if_icmp .ne 16, 3) := by decide +kernel
theorem dX5_writeSide_33 : decode cX5_writeSide 33 = .ok (.aload_n 0, 1) := by decide +kernel
theorem dX5_writeSide_34 : decode cX5_writeSide 34 = .ok (.aload_n 1, 1) := by decide +kernel
theorem dX5_writeSide_35 : decode cX5_writeSide 35 = .ok (.iload_n 3, 1) := by decide +kernel
theorem dX5_writeSide_36 : decode cX5_writeSide 36 = .ok (.iload 5, 2) := by decide +kernel
theorem dX5_writeSide_38 : decode cX5_writeSide 38 = .ok (.iload 6, 2) := by decide +kernel
theorem dX5_writeSide_40 : decode cX5_writeSide 40 = .ok (.iconst 1, 1) := by decide +kernel
theorem dX5_writeSide_41 : decode cX5_writeSide 41 = .ok (.iadd, 1) := by decide +kernel
theorem dX5_writeSide_42 : decode cX5_writeSide 42 = .ok (.invokevirtual 72, 3) := by decide +kernel
theorem dX5_writeSide_45 : decode cX5_writeSide 45 = .ok (.return_, 1) := by decide +kernel
theorem dX5_writeSide_46 : decode cX5_writeSide 46 = .ok (.aload_n 1, 1) := by decide +kernel
theorem dX5_writeSide_47 : decode cX5_writeSide 47 = .ok (.iload 4, 2) := by decide +kernel
theorem dX5_writeSide_49 : decode cX5_writeSide 49 = .ok (.iload 7, 2) := by decide +kernel
theorem dX5_writeSide_51 : decode cX5_writeSide 51 = .ok (.aload_n 0, 1) := by decide +kernel
theorem dX5_writeSide_52 : decode cX5_writeSide 52 = .ok (.iload_n 2, 1) := by decide +kernel
theorem dX5_writeSide_53 : decode cX5_writeSide 53 = .ok (.iload_n 3, 1) := by decide +kernel
theorem dX5_writeSide_54 : decode cX5_writeSide 54 = .ok (.invokevirtual 54, 3) := by decide +kernel
theorem dX5_writeSide_57 : decode cX5_writeSide 57 = .ok (.iload 5, 2) := by decide +kernel
theorem dX5_writeSide_59 : decode cX5_writeSide 59 = .ok (.invokestatic 76, 3) := by decide +kernel
theorem dX5_writeSide_62 : decode cX5_writeSide 62 = .ok (.istore 8, 2) := by decide +kernel
theorem dX5_writeSide_64 : decode cX5_writeSide 64 = .ok (.iload_n 3, 1) := by decide +kernel
theorem dX5_writeSide_65 : decode cX5_writeSide 65 = .ok (.ifCond .lt 22, 3) := by decide +kernel
theorem dX5_writeSide_68 : decode cX5_writeSide 68 = .ok (.iload_n 3, 1) := by decide +kernel
theorem dX5_writeSide_69 : decode cX5_writeSide 69 = .ok (.aload_n 0, 1) := by decide +kernel
theorem dX5_writeSide_70 : decode cX5_writeSide 70 = .ok (.getfield 30, 3) := by decide +kernel
theorem dX5_writeSide_73 : decode cX5_writeSide 73 = .ok (.if_icmp .ge 14, 3) := by decide +kernel
theorem dX5_writeSide_76 : decode cX5_writeSide 76 = .ok (.aload_n 0, 1) := by decide +kernel
theorem dX5_writeSide_77 : decode cX5_writeSide 77 = .ok (.aload_n 1, 1) := by decide +kernel
theorem dX5_writeSide_78 : decode cX5_writeSide 78 = .ok (.iload_n 2, 1) := by decide +kernel
theorem dX5_writeSide_79 : decode cX5_writeSide 79 = .ok (.iload_n 3, 1) := by decide +kernel
theorem dX5_writeSide_80 : decode cX5_writeSide 80 = .ok (.iload 8, 2) := by decide +kernel
theorem dX5_writeSide_82 : decode cX5_writeSide 82 = .ok (.iload 6, 2) := by decide +kernel
theorem dX5_writeSide_84 : decode cX5_writeSide 84 = .ok (.invokevirtual 87, 3) := by decide +kernel
theorem dX5_writeSide_87 : decode cX5_writeSide 87 = .ok (.return_, 1) := by decide +kernel
set_option maxRecDepth 20000 in
theorem ggX5_writeWithTwin_X7_bitAt : GoodIn wsX5_writeWithTwin wsX7_bitAt := goodIn_r _ [6, 7] (by decide +kernel) (by decide +kernel)
set_option maxRecDepth 20000 in
theorem gX5_writeWithTwin_X7_bitAt_n84 : GoodIn wsX5_writeWithTwin (wsX7_bitAt) := ggX5_writeWithTwin_X7_bitAt
set_option maxRecDepth 20000 in
theorem ggX5_writeWithTwin_X5_writeIfNeeded : GoodIn wsX5_writeWithTwin wsX5_writeIfNeeded := goodIn_r _ [11, 12, 13, 10, 14, 15, 16, 17, 18, 19, 20, 21, 22, 23, 24, 54, 55, 56, 57, 58] (by decide +kernel) (by decide +kernel)
set_option maxRecDepth 20000 in
theorem gX5_writeWithTwin_X5_writeIfNeeded : GoodIn wsX5_writeWithTwin (va_wsS RX5 76 yX5_writeIfNeeded wsX5_writeIfNeeded) := goodIn_app (goodIn_of _ (by decide +kernel)) ggX5_writeWithTwin_X5_writeIfNeeded
set_option maxRecDepth 20000 in
theorem ggX5_writeWithTwin_X5_writeNode : GoodIn wsX5_writeWithTwin wsX5_writeNode := goodIn_r _ [28, 29, 2, 1, 30, 31, 32, 8, 9, 10, 11, 12, 13, 14, 15, 16, 17, 18, 19, 20, 21, 22, 23, 24, 33, 34, 35, 4, 5, 6, 7, 36, 25, 26, 27, 37, 38, 39, 40, 3, 41, 42, 43, 44, 45, 46, 0, 47, 48, 49, 50, 51, 52, 53, 54, 55, 56, 57, 58] (by decide +kernel) (by decide +kernel)
set_option maxRecDepth 20000 in
theorem gX5_writeWithTwin_X5_writeNode : GoodIn wsX5_writeWithTwin (wsV RX5 72 RX5 yX5_writeNode wsX5_writeNode) := goodIn_app (goodIn_of _ (by decide +kernel)) ggX5_writeWithTwin_X5_writeNode
theorem dX5_writeWithTwin_0 : decode cX5_writeWithTwin 0 = .ok (.aload_n 0, 1) := by decide +kernel
theorem dX5_writeWithTwin_1 : decode cX5_writeWithTwin 1 = .ok (.getfield 15, 3) := by decide +kernel
theorem dX5_writeWithTwin_4 : decode cX5_writeWithTwin 4 = .ok (.iload_n 3, 1) := by decide +kernel
theorem dX5_writeWithTwin_5 : decode cX5_writeWithTwin 5 = .ok (.iaload, 1) := by decide +kernel
theorem dX5_writeWithTwin_6 : decode cX5_writeWithTwin 6 = .ok (.istore 6, 2) := by decide +kernel
theorem dX5_writeWithTwin_8 : decode cX5_writeWithTwin 8 = .ok (.iload 6, 2) := by decide +kernel
theorem dX5_writeWithTwin_10 : decode cX5_writeWithTwin 10 = .ok (.iconst 1, 1) := by decide +kernel
theorem dX5_writeWithTwin_11 : decode cX5_writeWithTwin 11 = .ok (.isub, 1) := by decide +kernel
theorem dX5_writeWithTwin_12 : decode cX5_writeWithTwin 12 = .ok (.invokestatic 84, 3) := by decide +kernel
theorem dX5_writeWithTwin_15 : decode cX5_writeWithTwin 15 = .ok (.istore 7, 2) := by decide +kernel
theorem dX5_writeWithTwin_17 : decode cX5_writeWithTwin 17 = .ok (.aload_n 0, 1) := by decide +kernel
theorem dX5_writeWithTwin_18 : decode cX5_writeWithTwin 18 = .ok (.getfield 11, 3) := by decide +kernel
theorem dX5_writeWithTwin_21 : decode cX5_writeWithTwin 21 = .ok (.iload_n 3, 1) := by decide +kernel
theorem dX5_writeWithTwin_22 : decode cX5_writeWithTwin 22 = .ok (.iaload, 1) := by decide +kernel
theorem dX5_writeWithTwin_23 : decode cX5_writeWithTwin 23 = .ok (.iload 7, 2) := by decide +kernel
theorem dX5_writeWithTwin_25 : decode cX5_writeWithTwin 25 = .ok (.ixor, 1) := by decide +kernel
theorem dX5_writeWithTwin_26 : decode cX5_writeWithTwin 26 = .ok (.istore 8, 2) := by decide +kernel
theorem dX5_writeWithTwin_28 : decode cX5_writeWithTwin 28 = .ok (.iconst 1, 1) := by decide +kernel
theorem dX5_writeWithTwin_29 : decode cX5_writeWithTwin 29 = .ok (.aload_n 0, 1) := by decide +kernel
theorem dX5_writeWithTwin_30 : decode cX5_writeWithTwin 30 = .ok (.getfield 18, 3) := by decide +kernel
theorem dX5_writeWithTwin_33 : decode cX5_writeWithTwin 33 = .ok (.iload_n 2, 1) := by decide +kernel
theorem dX5_writeWithTwin_34 : decode cX5_writeWithTwin 34 = .ok (.iaload, 1) := by decide +kernel
theorem dX5_writeWithTwin_35 : decode cX5_writeWithTwin 35 = .ok (.ishl, 1) := by decide +kernel
theorem dX5_writeWithTwin_36 : decode cX5_writeWithTwin 36 = .ok (.istore 9, 2) := by decide +kernel
theorem dX5_writeWithTwin_38 : decode cX5_writeWithTwin 38 = .ok (.iload 8, 2) := by decide +kernel
theorem dX5_writeWithTwin_40 : decode cX5_writeWithTwin 40 = .ok (.iload 7, 2) := by decide +kernel
theorem dX5_writeWithTwin_42 : decode cX5_writeWithTwin 42 = .ok (.iand, 1) := by decide +kernel
theorem dX5_writeWithTwin_43 : decode cX5_writeWithTwin 43 = .ok (.ifCond .ne 31, 3) := by decide +kernel
theorem dX5_writeWithTwin_46 : decode cX5_writeWithTwin 46 = .ok (.aload_n 1, 1) := by decide +kernel
theorem dX5_writeWithTwin_47 : decode cX5_writeWithTwin 47 = .ok (.iload 8, 2) := by decide +kernel
theorem dX5_writeWithTwin_49 : decode cX5_writeWithTwin 49 = .ok (.iload 6, 2) := by decide +kernel
theorem dX5_writeWithTwin_51 : decode cX5_writeWithTwin 51 = .ok (.iload 9, 2) := by decide +kernel
theorem dX5_writeWithTwin_53 : decode cX5_writeWithTwin 53 = .ok (.iload 4, 2) := by decide +kernel
theorem dX5_writeWithTwin_55 : decode cX5_writeWithTwin 55 = .ok (.invokestatic 76, 3) := by decide +kernel
theorem dX5_writeWithTwin_58 : decode cX5_writeWithTwin 58 = .ok (.pop, 1) := by decide +kernel
theorem dX5_writeWithTwin_59 : decode cX5_writeWithTwin 59 = .ok (.aload_n 0, 1) := by decide +kernel
theorem dX5_writeWithTwin_60 : decode cX5_writeWithTwin 60 = .ok (.aload_n 1, 1) := by decide +kernel
theorem dX5_writeWithTwin_61 : decode cX5_writeWithTwin 61 = .ok (.iload_n 3, 1) := by decide +kernel
theorem dX5_writeWithTwin_62 : decode cX5_writeWithTwin 62 = .ok (.iload 4, 2) := by decide +kernel
theorem dX5_writeWithTwin_64 : decode cX5_writeWithTwin 64 = .ok (.iload 5, 2) := by decide +kernel
theorem dX5_writeWithTwin_66 : decode cX5_writeWithTwin 66 = .ok (.iconst 1, 1) := by decide +kernel
theorem dX5_writeWithTwin_67 : decode cX5_writeWithTwin 67 = .ok (.iadd, 1) := by decide +kernel
theorem dX5_writeWithTwin_68 : decode cX5_writeWithTwin 68 = .ok (.invokevirtual 72, 3) := by decide +kernel
theorem dX5_writeWithTwin_71 : decode cX5_writeWithTwin 71 = .ok (.goto 28, 3) := by decide +kernel
theorem dX5_writeWithTwin_74 : decode cX5_writeWithTwin 74 = .ok (.aload_n 0, 1) := by decide +kernel
theorem dX5_writeWithTwin_75 : decode cX5_writeWithTwin 75 = .ok (.aload_n 1, 1) := by decide +kernel
theorem dX5_writeWithTwin_76 : decode cX5_writeWithTwin 76 = .ok (.iload_n 3, 1) := by decide +kernel
theorem dX5_writeWithTwin_77 : decode cX5_writeWithTwin 77 = .ok (.iload 4, 2) := by decide +kernel
theorem dX5_writeWithTwin_79 : decode cX5_writeWithTwin 79 = .ok (.iload 5, 2) := by decide +kernel
theorem dX5_writeWithTwin_81 : decode cX5_writeWithTwin 81 = .ok (.iconst 1, 1) := by decide +kernel
theorem dX5_writeWithTwin_82 : decode cX5_writeWithTwin 82 = .ok (.iadd, 1) := by decide +kernel
theorem dX5_writeWithTwin_83 : decode cX5_writeWithTwin 83 = .ok (.invokevirtual 72, 3) := by decide +kernel
theorem dX5_writeWithTwin_86 : decode cX5_writeWithTwin 86 = .ok (.aload_n 1, 1) := by decide +kernel
theorem dX5_writeWithTwin_87 : decode cX5_writeWithTwin 87 = .ok (.iload 8, 2) := by decide +kernel
theorem dX5_writeWithTwin_89 : decode cX5_writeWithTwin 89 = .ok (.iload 6, 2) := by decide +kernel
theorem dX5_writeWithTwin_91 : decode cX5_writeWithTwin 91 = .ok (.iload 9, 2) := by decide +kernel
theorem dX5_writeWithTwin_93 : decode cX5_writeWithTwin 93 = .ok (.iload 4, 2) := by decide +kernel
theorem dX5_writeWithTwin_95 : decode cX5_writeWithTwin 95 = .ok (.invokestatic 76, 3) := by decide +kernel
theorem dX5_writeWithTwin_98 : decode cX5_writeWithTwin 98 = .ok (.pop, 1) := by decide +kernel
theorem dX5_writeWithTwin_99 : decode cX5_writeWithTwin 99 = .ok (.return_, 1) := by decide +kernel
set_option maxRecDepth 20000 in
theorem ggX5_writeIfNeeded_X5_leastOf : GoodIn wsX5_writeIfNeeded wsX5_leastOf := goodIn_r _ [4] (by decide +kernel) (by decide +kernel)
set_option maxRecDepth 20000 in
theorem gX5_writeIfNeeded_X5_leastOf : GoodIn wsX5_writeIfNeeded (va_wsS RX5 91 yX5_leastOf wsX5_leastOf) := goodIn_app (goodIn_of _ (by decide +kernel)) ggX5_writeIfNeeded_X5_leastOf
set_option maxRecDepth 20000 in
theorem ggX5_writeIfNeeded_X2_append : GoodIn wsX5_writeIfNeeded wsX2_append := goodIn_r _ [9, 10, 11, 12, 13, 14, 15, 16, 17, 18, 19] (by decide +kernel) (by decide +kernel)
set_option maxRecDepth 20000 in
theorem gX5_writeIfNeeded_X2_append : GoodIn wsX5_writeIfNeeded (wsV RX5 94 RX2 yX2_append wsX2_append) := goodIn_app (goodIn_of _ (by decide +kernel)) ggX5_writeIfNeeded_X2_append
theorem dX5_writeIfNeeded_0 : decode cX5_writeIfNeeded 0 = .ok (.iload_n 3, 1) := by decide +kernel
theorem dX5_writeIfNeeded_1 : decode cX5_writeIfNeeded 1 = .ok (.iconst 1, 1) := by decide +kernel
theorem dX5_writeIfNeeded_2 : decode cX5_writeIfNeeded 2 = .ok (.iload 4, 2) := by decide +kernel
theorem dX5_writeIfNeeded_4 : decode cX5_writeIfNeeded 4 = .ok (.ishl, 1) := by decide +kernel
theorem dX5_writeIfNeeded_5 : decode cX5_writeIfNeeded 5 = .ok (.iand, 1) := by decide +kernel
theorem dX5_writeIfNeeded_6 : decode cX5_writeIfNeeded 6 = .ok (.ifCond .eq 6, 3) := by decide +kernel
theorem dX5_writeIfNeeded_9 : decode cX5_writeIfNeeded 9 = .ok (.iload 4, 2) := by decide +kernel
theorem dX5_writeIfNeeded_11 : decode cX5_writeIfNeeded 11 = .ok (.ireturn, 1) := by decide +kernel
theorem dX5_writeIfNeeded_12 : decode cX5_writeIfNeeded 12 = .ok (.iload_n 3, 1) := by decide +kernel
theorem dX5_writeIfNeeded_13 : decode cX5_writeIfNeeded 13 = .ok (.invokestatic 91, 3) := by decide +kernel
theorem dX5_writeIfNeeded_16 : decode cX5_writeIfNeeded 16 = .ok (.istore 5, 2) := by decide +kernel
theorem dX5_writeIfNeeded_18 : decode cX5_writeIfNeeded 18 = .ok (.aload_n 0, 1) := by decide +kernel
theorem dX5_writeIfNeeded_19 : decode cX5_writeIfNeeded 19 = .ok (.iload_n 1, 1) := by decide +kernel
theorem dX5_writeIfNeeded_20 : decode cX5_writeIfNeeded 20 = .ok (.iload_n 2, 1) := by decide +kernel
theorem dX5_writeIfNeeded_21 : decode cX5_writeIfNeeded 21 = .ok (.iload 5, 2) := by decide +kernel
theorem dX5_writeIfNeeded_23 : decode cX5_writeIfNeeded 23 = .ok (.invokevirtual 94, 3) := by decide +kernel
theorem dX5_writeIfNeeded_26 : decode cX5_writeIfNeeded 26 = .ok (.iload 5, 2) := by decide +kernel
theorem dX5_writeIfNeeded_28 : decode cX5_writeIfNeeded 28 = .ok (.ireturn, 1) := by decide +kernel
theorem dX5_leastOf_0 : decode cX5_leastOf 0 = .ok (.iconst 0, 1) := by decide +kernel
theorem dX5_leastOf_1 : decode cX5_leastOf 1 = .ok (.istore_n 1, 1) := by decide +kernel
theorem dX5_leastOf_2 : decode cX5_leastOf 2 = .ok (.iload_n 1, 1) := by decide +kernel
theorem dX5_leastOf_3 : decode cX5_leastOf 3 = .ok (.bipush 16, 2) := by decide +kernel
theorem dX5_leastOf_5 : decode cX5_leastOf 5 = .ok (.if_icmp .ge 17, 3) := by decide +kernel
theorem dX5_leastOf_8 : decode cX5_leastOf 8 = .ok (.iload_n 0, 1) := by decide +kernel
theorem dX5_leastOf_9 : decode cX5_leastOf 9 = .ok (.iconst 1, 1) := by decide +kernel
theorem dX5_leastOf_10 : decode cX5_leastOf 10 = .ok (.iload_n 1, 1) := by decide +kernel
theorem dX5_leastOf_11 : decode cX5_leastOf 11 = .ok (.ishl, 1) := by decide +kernel
theorem dX5_leastOf_12 : decode cX5_leastOf 12 = .ok (.iand, 1) := by decide +kernel
theorem dX5_leastOf_13 : decode cX5_leastOf 13 = .ok (.ifCond .ne 9, 3) := by decide +kernel
theorem dX5_leastOf_16 : decode cX5_leastOf 16 = .ok (.iinc 1 1, 3) := by decide +kernel
theorem dX5_leastOf_19 : decode cX5_leastOf 19 = .ok (.goto (-17), 3) := by decide +kernel
theorem dX5_leastOf_22 : decode cX5_leastOf 22 = .ok (.iload_n 1, 1) := by decide +kernel
theorem dX5_leastOf_23 : decode cX5_leastOf 23 = .ok (.ireturn, 1) := by decide +kernel
set_option maxRecDepth 20000 in
theorem ggX6_init_X2_init : GoodIn wsX6_init wsX2_init := goodIn_r _ [15, 16, 2, 3, 17, 18, 19, 20, 21, 10, 22, 23, 24, 25, 26, 27, 28, 29] (by decide +kernel) (by decide +kernel)
set_option maxRecDepth 20000 in
theorem gX6_init_X2_init : GoodIn wsX6_init (wsX2_init) := ggX6_init_X2_init
theorem dX6_init_0 : decode cX6_init 0 = .ok (.aload_n 0, 1) := by decide +kernel
theorem dX6_init_1 : decode cX6_init 1 = .ok (.invokespecial 3, 3) := by decide +kernel
theorem dX6_init_4 : decode cX6_init 4 = .ok (.aload_n 0, 1) := by decide +kernel
theorem dX6_init_5 : decode cX6_init 5 = .ok (.new 9, 3) := by decide +kernel
theorem dX6_init_8 : decode cX6_init 8 = .ok (.dup, 1) := by decide +kernel
theorem dX6_init_9 : decode cX6_init 9 = .ok (.bipush 64, 2) := by decide +kernel
theorem dX6_init_11 : decode cX6_init 11 = .ok (.invokespecial 11, 3) := by decide +kernel
theorem dX6_init_14 : decode cX6_init 14 = .ok (.putfield 14, 3) := by decide +kernel
theorem dX6_init_17 : decode cX6_init 17 = .ok (.aload_n 0, 1) := by decide +kernel
theorem dX6_init_18 : decode cX6_init 18 = .ok (.new 9, 3) := by decide +kernel
theorem dX6_init_21 : decode cX6_init 21 = .ok (.dup, 1) := by decide +kernel
theorem dX6_init_22 : decode cX6_init 22 = .ok (.bipush 64, 2) := by decide +kernel
theorem dX6_init_24 : decode cX6_init 24 = .ok (.invokespecial 11, 3) := by decide +kernel
theorem dX6_init_27 : decode cX6_init 27 = .ok (.putfield 20, 3) := by decide +kernel
theorem dX6_init_30 : decode cX6_init 30 = .ok (.aload_n 0, 1) := by decide +kernel
theorem dX6_init_31 : decode cX6_init 31 = .ok (.new 9, 3) := by decide +kernel
theorem dX6_init_34 : decode cX6_init 34 = .ok (.dup, 1) := by decide +kernel
theorem dX6_init_35 : decode cX6_init 35 = .ok (.bipush 64, 2) := by decide +kernel
theorem dX6_init_37 : decode cX6_init 37 = .ok (.invokespecial 11, 3) := by decide +kernel
theorem dX6_init_40 : decode cX6_init 40 = .ok (.putfield 23, 3) := by decide +kernel
theorem dX6_init_43 : decode cX6_init 43 = .ok (.aload_n 0, 1) := by decide +kernel
theorem dX6_init_44 : decode cX6_init 44 = .ok (.bipush 33, 2) := by decide +kernel
theorem dX6_init_46 : decode cX6_init 46 = .ok (.newarray .int, 2) := by decide +kernel
theorem dX6_init_48 : decode cX6_init 48 = .ok (.putfield 26, 3) := by decide +kernel
theorem dX6_init_51 : decode cX6_init 51 = .ok (.aload_n 0, 1) := by decide +kernel
theorem dX6_init_52 : decode cX6_init 52 = .ok (.iconst (-1), 1) := by decide +kernel
theorem dX6_init_53 : decode cX6_init 53 = .ok (.putfield 30, 3) := by decide +kernel
theorem dX6_init_56 : decode cX6_init 56 = .ok (.return_, 1) := by decide +kernel
set_option maxRecDepth 20000 in
theorem ggX6_lay_X2_become : GoodIn wsX6_lay wsX2_become := goodIn_r _ [10, 11, 12, 13, 14, 15, 16, 17, 18, 19, 20, 21, 22, 9, 23, 73, 74, 75, 76, 77] (by decide +kernel) (by decide +kernel)
set_option maxRecDepth 20000 in
theorem gX6_lay_X2_become : GoodIn wsX6_lay (wsV RX6 34 RX2 yX2_become wsX2_become) := goodIn_app (goodIn_of _ (by decide +kernel)) ggX6_lay_X2_become
set_option maxRecDepth 20000 in
theorem ggX6_lay_X2_clear : GoodIn wsX6_lay wsX2_clear := goodIn_r _ [27, 11, 73, 74, 75, 76, 77] (by decide +kernel) (by decide +kernel)
set_option maxRecDepth 20000 in
theorem gX6_lay_X2_clear : GoodIn wsX6_lay (wsV RX6 38 RX2 yX2_clear wsX2_clear) := goodIn_app (goodIn_of _ (by decide +kernel)) ggX6_lay_X2_clear
set_option maxRecDepth 20000 in
theorem ggX6_lay_X6_appendPuts : GoodIn wsX6_lay wsX6_appendPuts := goodIn_r _ [32, 4, 33, 34, 35, 2, 36, 37, 38, 9, 39, 19, 40, 41, 42, 43, 11, 44, 45, 46, 47, 17, 18, 48, 49, 50, 51, 52, 53, 54, 55, 56, 57, 58, 59, 12, 73, 74, 75, 76, 77, 68, 69, 70, 71, 72] (by decide +kernel) (by decide +kernel)
set_option maxRecDepth 20000 in
theorem gX6_lay_X6_appendPuts : GoodIn wsX6_lay (wsV RX6 41 RX6 yX6_appendPuts wsX6_appendPuts) := goodIn_app (goodIn_of _ (by decide +kernel)) ggX6_lay_X6_appendPuts
set_option maxRecDepth 20000 in
theorem ggX6_lay_X6_appendDrops : GoodIn wsX6_lay wsX6_appendDrops := goodIn_r _ [63, 4, 33, 34, 3, 35, 64, 65, 66, 9, 67, 40, 41, 42, 43, 11, 44, 45, 46, 47, 17, 18, 48, 49, 50, 51, 52, 53, 54, 55, 56, 57, 58, 59, 12, 19, 73, 74, 75, 76, 77, 68, 69, 70, 71, 72] (by decide +kernel) (by decide +kernel)
set_option maxRecDepth 20000 in
theorem gX6_lay_X6_appendDrops : GoodIn wsX6_lay (wsV RX6 45 RX6 yX6_appendDrops wsX6_appendDrops) := goodIn_app (goodIn_of _ (by decide +kernel)) ggX6_lay_X6_appendDrops
theorem dX6_lay_0 : decode cX6_lay 0 = .ok (.aload_n 0, 1) := by decide +kernel
theorem dX6_lay_1 : decode cX6_lay 1 = .ok (.getfield 14, 3) := by decide +kernel
theorem dX6_lay_4 : decode cX6_lay 4 = .ok (.aload_n 1, 1) := by decide +kernel
theorem dX6_lay_5 : decode cX6_lay 5 = .ok (.invokevirtual 34, 3) := by decide +kernel
theorem dX6_lay_8 : decode cX6_lay 8 = .ok (.aload_n 0, 1) := by decide +kernel
theorem dX6_lay_9 : decode cX6_lay 9 = .ok (.getfield 20, 3) := by decide +kernel
theorem dX6_lay_12 : decode cX6_lay 12 = .ok (.invokevirtual 38, 3) := by decide +kernel
theorem dX6_lay_15 : decode cX6_lay 15 = .ok (.aload_n 0, 1) := by decide +kernel
theorem dX6_lay_16 : decode cX6_lay 16 = .ok (.getfield 23, 3) := by decide +kernel
theorem dX6_lay_19 : decode cX6_lay 19 = .ok (.invokevirtual 38, 3) := by decide +kernel
theorem dX6_lay_22 : decode cX6_lay 22 = .ok (.bipush 32, 2) := by decide +kernel
theorem dX6_lay_24 : decode cX6_lay 24 = .ok (.istore_n 3, 1) := by decide +kernel
theorem dX6_lay_25 : decode cX6_lay 25 = .ok (.iload_n 3, 1) := by decide +kernel
theorem dX6_lay_26 : decode cX6_lay 26 = .ok (.ifCond .lt 16, 3) := by decide +kernel
theorem dX6_lay_29 : decode cX6_lay 29 = .ok (.aload_n 0, 1) := by decide +kernel
theorem dX6_lay_30 : decode cX6_lay 30 = .ok (.aload_n 1, 1) := by decide +kernel
theorem dX6_lay_31 : decode cX6_lay 31 = .ok (.aload_n 2, 1) := by decide +kernel
theorem dX6_lay_32 : decode cX6_lay 32 = .ok (.iload_n 3, 1) := by decide +kernel
theorem dX6_lay_33 : decode cX6_lay 33 = .ok (.invokevirtual 41, 3) := by decide +kernel
