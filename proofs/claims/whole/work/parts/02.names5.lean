theorem dX8_leads__97 : decode cX8_leads_ 97 = .ok (.bipush 17, 2) := by decide +kernel
theorem dX8_leads__99 : decode cX8_leads_ 99 = .ok (.iload 6, 2) := by decide +kernel
theorem dX8_leads__101 : decode cX8_leads_ 101 = .ok (.imul, 1) := by decide +kernel
theorem dX8_leads__102 : decode cX8_leads_ 102 = .ok (.iload 7, 2) := by decide +kernel
theorem dX8_leads__104 : decode cX8_leads_ 104 = .ok (.iadd, 1) := by decide +kernel
theorem dX8_leads__105 : decode cX8_leads_ 105 = .ok (.ireturn, 1) := by decide +kernel
theorem dX8_cuts_0 : decode cX8_cuts 0 = .ok (.lload_n 1, 1) := by decide +kernel
theorem dX8_cuts_1 : decode cX8_cuts 1 = .ok (.ldc2_w 137, 3) := by decide +kernel
theorem dX8_cuts_4 : decode cX8_cuts 4 = .ok (.lcmp, 1) := by decide +kernel
theorem dX8_cuts_5 : decode cX8_cuts 5 = .ok (.ifCond .lt 4, 3) := by decide +kernel
theorem dX8_cuts_8 : decode cX8_cuts 8 = .ok (.return_, 1) := by decide +kernel
theorem dX8_cuts_9 : decode cX8_cuts 9 = .ok (.aload_n 0, 1) := by decide +kernel
theorem dX8_cuts_10 : decode cX8_cuts 10 = .ok (.getfield 139, 3) := by decide +kernel
theorem dX8_cuts_13 : decode cX8_cuts 13 = .ok (.istore_n 3, 1) := by decide +kernel
theorem dX8_cuts_14 : decode cX8_cuts 14 = .ok (.iload_n 3, 1) := by decide +kernel
theorem dX8_cuts_15 : decode cX8_cuts 15 = .ok (.ifCond .le 22, 3) := by decide +kernel
theorem dX8_cuts_18 : decode cX8_cuts 18 = .ok (.aload_n 0, 1) := by decide +kernel
theorem dX8_cuts_19 : decode cX8_cuts 19 = .ok (.getfield 23, 3) := by decide +kernel
theorem dX8_cuts_22 : decode cX8_cuts 22 = .ok (.iload_n 3, 1) := by decide +kernel
theorem dX8_cuts_23 : decode cX8_cuts 23 = .ok (.iconst 1, 1) := by decide +kernel
theorem dX8_cuts_24 : decode cX8_cuts 24 = .ok (.isub, 1) := by decide +kernel
theorem dX8_cuts_25 : decode cX8_cuts 25 = .ok (.laload, 1) := by decide +kernel
theorem dX8_cuts_26 : decode cX8_cuts 26 = .ok (.lload_n 1, 1) := by decide +kernel
theorem dX8_cuts_27 : decode cX8_cuts 27 = .ok (.lcmp, 1) := by decide +kernel
theorem dX8_cuts_28 : decode cX8_cuts 28 = .ok (.ifCond .le 9, 3) := by decide +kernel
theorem dX8_cuts_31 : decode cX8_cuts 31 = .ok (.iinc 3 (-1), 3) := by decide +kernel
theorem dX8_cuts_34 : decode cX8_cuts 34 = .ok (.goto (-20), 3) := by decide +kernel
theorem dX8_cuts_37 : decode cX8_cuts 37 = .ok (.iload_n 3, 1) := by decide +kernel
theorem dX8_cuts_38 : decode cX8_cuts 38 = .ok (.ifCond .le 17, 3) := by decide +kernel
theorem dX8_cuts_41 : decode cX8_cuts 41 = .ok (.aload_n 0, 1) := by decide +kernel
theorem dX8_cuts_42 : decode cX8_cuts 42 = .ok (.getfield 23, 3) := by decide +kernel
theorem dX8_cuts_45 : decode cX8_cuts 45 = .ok (.iload_n 3, 1) := by decide +kernel
theorem dX8_cuts_46 : decode cX8_cuts 46 = .ok (.iconst 1, 1) := by decide +kernel
theorem dX8_cuts_47 : decode cX8_cuts 47 = .ok (.isub, 1) := by decide +kernel
theorem dX8_cuts_48 : decode cX8_cuts 48 = .ok (.laload, 1) := by decide +kernel
theorem dX8_cuts_49 : decode cX8_cuts 49 = .ok (.lload_n 1, 1) := by decide +kernel
theorem dX8_cuts_50 : decode cX8_cuts 50 = .ok (.lcmp, 1) := by decide +kernel
theorem dX8_cuts_51 : decode cX8_cuts 51 = .ok (.ifCond .ne 4, 3) := by decide +kernel
theorem dX8_cuts_54 : decode cX8_cuts 54 = .ok (.return_, 1) := by decide +kernel
theorem dX8_cuts_55 : decode cX8_cuts 55 = .ok (.aload_n 0, 1) := by decide +kernel
theorem dX8_cuts_56 : decode cX8_cuts 56 = .ok (.getfield 139, 3) := by decide +kernel
theorem dX8_cuts_59 : decode cX8_cuts 59 = .ok (.istore 4, 2) := by decide +kernel
theorem dX8_cuts_61 : decode cX8_cuts 61 = .ok (.iload 4, 2) := by decide +kernel
theorem dX8_cuts_63 : decode cX8_cuts 63 = .ok (.iload_n 3, 1) := by decide +kernel
theorem dX8_cuts_64 : decode cX8_cuts 64 = .ok (.if_icmp .le 25, 3) := by decide +kernel
theorem dX8_cuts_67 : decode cX8_cuts 67 = .ok (.aload_n 0, 1) := by decide +kernel
theorem dX8_cuts_68 : decode cX8_cuts 68 = .ok (.getfield 23, 3) := by decide +kernel
theorem dX8_cuts_71 : decode cX8_cuts 71 = .ok (.iload 4, 2) := by decide +kernel
theorem dX8_cuts_73 : decode cX8_cuts 73 = .ok (.aload_n 0, 1) := by decide +kernel
theorem dX8_cuts_74 : decode cX8_cuts 74 = .ok (.getfield 23, 3) := by decide +kernel
theorem dX8_cuts_77 : decode cX8_cuts 77 = .ok (.iload 4, 2) := by decide +kernel
theorem dX8_cuts_79 : decode cX8_cuts 79 = .ok (.iconst 1, 1) := by decide +kernel
theorem dX8_cuts_80 : decode cX8_cuts 80 = .ok (.isub, 1) := by decide +kernel
theorem dX8_cuts_81 : decode cX8_cuts 81 = .ok (.laload, 1) := by decide +kernel
theorem dX8_cuts_82 : decode cX8_cuts 82 = .ok (.lastore, 1) := by decide +kernel
theorem dX8_cuts_83 : decode cX8_cuts 83 = .ok (.iinc 4 (-1), 3) := by decide +kernel
theorem dX8_cuts_86 : decode cX8_cuts 86 = .ok (.goto (-25), 3) := by decide +kernel
theorem dX8_cuts_89 : decode cX8_cuts 89 = .ok (.aload_n 0, 1) := by decide +kernel
theorem dX8_cuts_90 : decode cX8_cuts 90 = .ok (.getfield 23, 3) := by decide +kernel
theorem dX8_cuts_93 : decode cX8_cuts 93 = .ok (.iload_n 3, 1) := by decide +kernel
theorem dX8_cuts_94 : decode cX8_cuts 94 = .ok (.lload_n 1, 1) := by decide +kernel
theorem dX8_cuts_95 : decode cX8_cuts 95 = .ok (.lastore, 1) := by decide +kernel
theorem dX8_cuts_96 : decode cX8_cuts 96 = .ok (.aload_n 0, 1) := by decide +kernel
theorem dX8_cuts_97 : decode cX8_cuts 97 = .ok (.dup, 1) := by decide +kernel
theorem dX8_cuts_98 : decode cX8_cuts 98 = .ok (.getfield 139, 3) := by decide +kernel
theorem dX8_cuts_101 : decode cX8_cuts 101 = .ok (.iconst 1, 1) := by decide +kernel
theorem dX8_cuts_102 : decode cX8_cuts 102 = .ok (.iadd, 1) := by decide +kernel
theorem dX8_cuts_103 : decode cX8_cuts 103 = .ok (.putfield 139, 3) := by decide +kernel
theorem dX8_cuts_106 : decode cX8_cuts 106 = .ok (.return_, 1) := by decide +kernel
set_option maxRecDepth 20000 in
theorem ggX8_cutsOf_X8_cuts : GoodIn wsX8_cutsOf wsX8_cuts := goodIn_r _ [8, 9, 10, 11, 15, 16, 17, 18, 19, 20, 21, 22, 23, 24, 25, 26, 27, 28, 29, 30, 31, 32, 33, 34, 35, 36, 37, 38, 39, 40, 41, 42, 43, 44, 45, 46, 47, 48] (by decide +kernel) (by decide +kernel)
set_option maxRecDepth 20000 in
theorem gX8_cutsOf_X8_cuts : GoodIn wsX8_cutsOf (wsV RX8 143 RX8 yX8_cuts wsX8_cuts) := goodIn_app (goodIn_of _ (by decide +kernel)) ggX8_cutsOf_X8_cuts
set_option maxRecDepth 20000 in
theorem ggX8_cutsOf_X8_size : GoodIn wsX8_cutsOf wsX8_size := goodIn_r _ [14] (by decide +kernel) (by decide +kernel)
set_option maxRecDepth 20000 in
theorem gX8_cutsOf_X8_size : GoodIn wsX8_cutsOf (va_wsS RX8 102 yX8_size wsX8_size) := goodIn_app (goodIn_of _ (by decide +kernel)) ggX8_cutsOf_X8_size
theorem dX8_cutsOf_0 : decode cX8_cutsOf 0 = .ok (.iconst 0, 1) := by decide +kernel
theorem dX8_cutsOf_1 : decode cX8_cutsOf 1 = .ok (.istore_n 2, 1) := by decide +kernel
theorem dX8_cutsOf_2 : decode cX8_cutsOf 2 = .ok (.iload_n 2, 1) := by decide +kernel
theorem dX8_cutsOf_3 : decode cX8_cutsOf 3 = .ok (.aload_n 0, 1) := by decide +kernel
theorem dX8_cutsOf_4 : decode cX8_cutsOf 4 = .ok (.getfield 7, 3) := by decide +kernel
theorem dX8_cutsOf_7 : decode cX8_cutsOf 7 = .ok (.iload_n 1, 1) := by decide +kernel
theorem dX8_cutsOf_8 : decode cX8_cutsOf 8 = .ok (.iaload, 1) := by decide +kernel
theorem dX8_cutsOf_9 : decode cX8_cutsOf 9 = .ok (.if_icmp .ge 54, 3) := by decide +kernel
theorem dX8_cutsOf_12 : decode cX8_cutsOf 12 = .ok (.aload_n 0, 1) := by decide +kernel
theorem dX8_cutsOf_13 : decode cX8_cutsOf 13 = .ok (.aload_n 0, 1) := by decide +kernel
theorem dX8_cutsOf_14 : decode cX8_cutsOf 14 = .ok (.getfield 13, 3) := by decide +kernel
theorem dX8_cutsOf_17 : decode cX8_cutsOf 17 = .ok (.bipush 64, 2) := by decide +kernel
theorem dX8_cutsOf_19 : decode cX8_cutsOf 19 = .ok (.iload_n 1, 1) := by decide +kernel
theorem dX8_cutsOf_20 : decode cX8_cutsOf 20 = .ok (.imul, 1) := by decide +kernel
theorem dX8_cutsOf_21 : decode cX8_cutsOf 21 = .ok (.iload_n 2, 1) := by decide +kernel
theorem dX8_cutsOf_22 : decode cX8_cutsOf 22 = .ok (.iadd, 1) := by decide +kernel
theorem dX8_cutsOf_23 : decode cX8_cutsOf 23 = .ok (.laload, 1) := by decide +kernel
theorem dX8_cutsOf_24 : decode cX8_cutsOf 24 = .ok (.invokevirtual 143, 3) := by decide +kernel
theorem dX8_cutsOf_27 : decode cX8_cutsOf 27 = .ok (.aload_n 0, 1) := by decide +kernel
theorem dX8_cutsOf_28 : decode cX8_cutsOf 28 = .ok (.aload_n 0, 1) := by decide +kernel
theorem dX8_cutsOf_29 : decode cX8_cutsOf 29 = .ok (.getfield 13, 3) := by decide +kernel
theorem dX8_cutsOf_32 : decode cX8_cutsOf 32 = .ok (.bipush 64, 2) := by decide +kernel
theorem dX8_cutsOf_34 : decode cX8_cutsOf 34 = .ok (.iload_n 1, 1) := by decide +kernel
theorem dX8_cutsOf_35 : decode cX8_cutsOf 35 = .ok (.imul, 1) := by decide +kernel
theorem dX8_cutsOf_36 : decode cX8_cutsOf 36 = .ok (.iload_n 2, 1) := by decide +kernel
theorem dX8_cutsOf_37 : decode cX8_cutsOf 37 = .ok (.iadd, 1) := by decide +kernel
theorem dX8_cutsOf_38 : decode cX8_cutsOf 38 = .ok (.laload, 1) := by decide +kernel
theorem dX8_cutsOf_39 : decode cX8_cutsOf 39 = .ok (.aload_n 0, 1) := by decide +kernel
theorem dX8_cutsOf_40 : decode cX8_cutsOf 40 = .ok (.getfield 17, 3) := by decide +kernel
theorem dX8_cutsOf_43 : decode cX8_cutsOf 43 = .ok (.bipush 64, 2) := by decide +kernel
theorem dX8_cutsOf_45 : decode cX8_cutsOf 45 = .ok (.iload_n 1, 1) := by decide +kernel
theorem dX8_cutsOf_46 : decode cX8_cutsOf 46 = .ok (.imul, 1) := by decide +kernel
theorem dX8_cutsOf_47 : decode cX8_cutsOf 47 = .ok (.iload_n 2, 1) := by decide +kernel
theorem dX8_cutsOf_48 : decode cX8_cutsOf 48 = .ok (.iadd, 1) := by decide +kernel
theorem dX8_cutsOf_49 : decode cX8_cutsOf 49 = .ok (.iaload, 1) := by decide +kernel
theorem dX8_cutsOf_50 : decode cX8_cutsOf 50 = .ok (.invokestatic 102, 3) := by decide +kernel
theorem dX8_cutsOf_53 : decode cX8_cutsOf 53 = .ok (.ladd, 1) := by decide +kernel
theorem dX8_cutsOf_54 : decode cX8_cutsOf 54 = .ok (.invokevirtual 143, 3) := by decide +kernel
theorem dX8_cutsOf_57 : decode cX8_cutsOf 57 = .ok (.iinc 2 1, 3) := by decide +kernel
theorem dX8_cutsOf_60 : decode cX8_cutsOf 60 = .ok (.goto (-58), 3) := by decide +kernel
theorem dX8_cutsOf_63 : decode cX8_cutsOf 63 = .ok (.return_, 1) := by decide +kernel
set_option maxRecDepth 20000 in
theorem ggX8_makeSpans_X8_cuts : GoodIn wsX8_makeSpans wsX8_cuts := goodIn_r _ [8, 9, 1, 2, 36, 37, 38, 39, 40, 41, 42, 43, 44, 45, 46, 47, 48, 49, 50, 51, 52, 53, 54, 55, 56, 57, 58, 59, 60, 61, 62, 63, 64, 65, 66, 67, 68, 69] (by decide +kernel) (by decide +kernel)
set_option maxRecDepth 20000 in
theorem gX8_makeSpans_X8_cuts : GoodIn wsX8_makeSpans (wsV RX8 143 RX8 yX8_cuts wsX8_cuts) := goodIn_app (goodIn_of _ (by decide +kernel)) ggX8_makeSpans_X8_cuts
set_option maxRecDepth 20000 in
theorem ggX8_makeSpans_X8_cutsOf : GoodIn wsX8_makeSpans wsX8_cutsOf := goodIn_r _ [13, 14, 15, 16, 4, 5, 6, 7, 8, 9, 1, 2, 17, 18, 19, 36, 37, 38, 39, 40, 41, 42, 43, 44, 45, 46, 47, 48, 49, 50, 51, 52, 53, 54, 55, 56, 57, 58, 59, 60, 61, 62, 63, 64, 65, 66, 67, 68, 69] (by decide +kernel) (by decide +kernel)
set_option maxRecDepth 20000 in
theorem gX8_makeSpans_X8_cutsOf : GoodIn wsX8_makeSpans (wsV RX8 147 RX8 yX8_cutsOf wsX8_cutsOf) := goodIn_app (goodIn_of _ (by decide +kernel)) ggX8_makeSpans_X8_cutsOf
set_option maxRecDepth 20000 in
theorem ggX8_makeSpans_X8_leads_ : GoodIn wsX8_makeSpans wsX8_leads_ := goodIn_r _ [23, 24, 25, 26, 7, 27, 28, 29, 30, 31, 32, 14, 15, 16, 33, 34, 35, 17, 18, 19, 36, 37, 38, 39, 40, 41, 42, 43, 44, 45, 46, 47, 48, 49, 50, 51, 52, 53, 54, 55, 56, 57, 58, 59, 60, 61, 62, 63, 64, 65, 66, 67, 68, 69] (by decide +kernel) (by decide +kernel)
set_option maxRecDepth 20000 in
theorem gX8_makeSpans_X8_leads_ : GoodIn wsX8_makeSpans (wsV RX8 151 RX8 yX8_leads_ wsX8_leads_) := goodIn_app (goodIn_of _ (by decide +kernel)) ggX8_makeSpans_X8_leads_
theorem dX8_makeSpans_0 : decode cX8_makeSpans 0 = .ok (.aload_n 0, 1) := by decide +kernel
theorem dX8_makeSpans_1 : decode cX8_makeSpans 1 = .ok (.iconst 0, 1) := by decide +kernel
theorem dX8_makeSpans_2 : decode cX8_makeSpans 2 = .ok (.putfield 139, 3) := by decide +kernel
theorem dX8_makeSpans_5 : decode cX8_makeSpans 5 = .ok (.aload_n 0, 1) := by decide +kernel
theorem dX8_makeSpans_6 : decode cX8_makeSpans 6 = .ok (.lconst 0, 1) := by decide +kernel
theorem dX8_makeSpans_7 : decode cX8_makeSpans 7 = .ok (.invokevirtual 143, 3) := by decide +kernel
theorem dX8_makeSpans_10 : decode cX8_makeSpans 10 = .ok (.aload_n 0, 1) := by decide +kernel
theorem dX8_makeSpans_11 : decode cX8_makeSpans 11 = .ok (.iload_n 2, 1) := by decide +kernel
theorem dX8_makeSpans_12 : decode cX8_makeSpans 12 = .ok (.invokevirtual 147, 3) := by decide +kernel
theorem dX8_makeSpans_15 : decode cX8_makeSpans 15 = .ok (.iload_n 1, 1) := by decide +kernel
theorem dX8_makeSpans_16 : decode cX8_makeSpans 16 = .ok (.iconst 3, 1) := by decide +kernel
theorem dX8_makeSpans_17 : decode cX8_makeSpans 17 = .ok (.if_icmp .eq 8, 3) := by decide +kernel
theorem dX8_makeSpans_20 : decode cX8_makeSpans 20 = .ok (.aload_n 0, 1) := by decide +kernel
theorem dX8_makeSpans_21 : decode cX8_makeSpans 21 = .ok (.iload_n 3, 1) := by decide +kernel
theorem dX8_makeSpans_22 : decode cX8_makeSpans 22 = .ok (.invokevirtual 147, 3) := by decide +kernel
theorem dX8_makeSpans_25 : decode cX8_makeSpans 25 = .ok (.iconst 0, 1) := by decide +kernel
theorem dX8_makeSpans_26 : decode cX8_makeSpans 26 = .ok (.istore 4, 2) := by decide +kernel
theorem dX8_makeSpans_28 : decode cX8_makeSpans 28 = .ok (.iconst 0, 1) := by decide +kernel
theorem dX8_makeSpans_29 : decode cX8_makeSpans 29 = .ok (.istore 5, 2) := by decide +kernel
theorem dX8_makeSpans_31 : decode cX8_makeSpans 31 = .ok (.iload 5, 2) := by decide +kernel
theorem dX8_makeSpans_33 : decode cX8_makeSpans 33 = .ok (.aload_n 0, 1) := by decide +kernel
theorem dX8_makeSpans_34 : decode cX8_makeSpans 34 = .ok (.getfield 139, 3) := by decide +kernel
theorem dX8_makeSpans_37 : decode cX8_makeSpans 37 = .ok (.if_icmp .ge 73, 3) := by decide +kernel
theorem dX8_makeSpans_40 : decode cX8_makeSpans 40 = .ok (.aload_n 0, 1) := by decide +kernel
theorem dX8_makeSpans_41 : decode cX8_makeSpans 41 = .ok (.iload_n 1, 1) := by decide +kernel
theorem dX8_makeSpans_42 : decode cX8_makeSpans 42 = .ok (.iload_n 2, 1) := by decide +kernel
theorem dX8_makeSpans_43 : decode cX8_makeSpans 43 = .ok (.iload_n 3, 1) := by decide +kernel
theorem dX8_makeSpans_44 : decode cX8_makeSpans 44 = .ok (.aload_n 0, 1) := by decide +kernel
theorem dX8_makeSpans_45 : decode cX8_makeSpans 45 = .ok (.getfield 23, 3) := by decide +kernel
theorem dX8_makeSpans_48 : decode cX8_makeSpans 48 = .ok (.iload 5, 2) := by decide +kernel
theorem dX8_makeSpans_50 : decode cX8_makeSpans 50 = .ok (.laload, 1) := by decide +kernel
theorem dX8_makeSpans_51 : decode cX8_makeSpans 51 = .ok (.invokevirtual 151, 3) := by decide +kernel
theorem dX8_makeSpans_54 : decode cX8_makeSpans 54 = .ok (.istore 6, 2) := by decide +kernel
theorem dX8_makeSpans_56 : decode cX8_makeSpans 56 = .ok (.iload 4, 2) := by decide +kernel
theorem dX8_makeSpans_58 : decode cX8_makeSpans 58 = .ok (.ifCond .le 20, 3) := by decide +kernel
theorem dX8_makeSpans_61 : decode cX8_makeSpans 61 = .ok (.aload_n 0, 1) := by decide +kernel
theorem dX8_makeSpans_62 : decode cX8_makeSpans 62 = .ok (.getfield 26, 3) := by decide +kernel
theorem dX8_makeSpans_65 : decode cX8_makeSpans 65 = .ok (.iload 4, 2) := by decide +kernel
theorem dX8_makeSpans_67 : decode cX8_makeSpans 67 = .ok (.iconst 1, 1) := by decide +kernel
theorem dX8_makeSpans_68 : decode cX8_makeSpans 68 = .ok (.isub, 1) := by decide +kernel
theorem dX8_makeSpans_69 : decode cX8_makeSpans 69 = .ok (.iaload, 1) := by decide +kernel
theorem dX8_makeSpans_70 : decode cX8_makeSpans 70 = .ok (.iload 6, 2) := by decide +kernel
theorem dX8_makeSpans_72 : decode cX8_makeSpans 72 = .ok (.if_icmp .ne 6, 3) := by decide +kernel
theorem dX8_makeSpans_75 : decode cX8_makeSpans 75 = .ok (.goto 29, 3) := by decide +kernel
theorem dX8_makeSpans_78 : decode cX8_makeSpans 78 = .ok (.aload_n 0, 1) := by decide +kernel
theorem dX8_makeSpans_79 : decode cX8_makeSpans 79 = .ok (.getfield 23, 3) := by decide +kernel
theorem dX8_makeSpans_82 : decode cX8_makeSpans 82 = .ok (.iload 4, 2) := by decide +kernel
theorem dX8_makeSpans_84 : decode cX8_makeSpans 84 = .ok (.aload_n 0, 1) := by decide +kernel
theorem dX8_makeSpans_85 : decode cX8_makeSpans 85 = .ok (.getfield 23, 3) := by decide +kernel
theorem dX8_makeSpans_88 : decode cX8_makeSpans 88 = .ok (.iload 5, 2) := by decide +kernel
theorem dX8_makeSpans_90 : decode cX8_makeSpans 90 = .ok (.laload, 1) := by decide +kernel
theorem dX8_makeSpans_91 : decode cX8_makeSpans 91 = .ok (.lastore, 1) := by decide +kernel
theorem dX8_makeSpans_92 : decode cX8_makeSpans 92 = .ok (.aload_n 0, 1) := by decide +kernel
theorem dX8_makeSpans_93 : decode cX8_makeSpans 93 = .ok (.getfield 26, 3) := by decide +kernel
theorem dX8_makeSpans_96 : decode cX8_makeSpans 96 = .ok (.iload 4, 2) := by decide +kernel
theorem dX8_makeSpans_98 : decode cX8_makeSpans 98 = .ok (.iload 6, 2) := by decide +kernel
theorem dX8_makeSpans_100 : decode cX8_makeSpans 100 = .ok (.iastore, 1) := by decide +kernel
theorem dX8_makeSpans_101 : decode cX8_makeSpans 101 = .ok (.iinc 4 1, 3) := by decide +kernel
theorem dX8_makeSpans_104 : decode cX8_makeSpans 104 = .ok (.iinc 5 1, 3) := by decide +kernel
theorem dX8_makeSpans_107 : decode cX8_makeSpans 107 = .ok (.goto (-76), 3) := by decide +kernel
theorem dX8_makeSpans_110 : decode cX8_makeSpans 110 = .ok (.aload_n 0, 1) := by decide +kernel
theorem dX8_makeSpans_111 : decode cX8_makeSpans 111 = .ok (.iload 4, 2) := by decide +kernel
theorem dX8_makeSpans_113 : decode cX8_makeSpans 113 = .ok (.putfield 139, 3) := by decide +kernel
theorem dX8_makeSpans_116 : decode cX8_makeSpans 116 = .ok (.return_, 1) := by decide +kernel
theorem dX8_end_0 : decode cX8_end 0 = .ok (.iload_n 1, 1) := by decide +kernel
theorem dX8_end_1 : decode cX8_end 1 = .ok (.iconst 1, 1) := by decide +kernel
theorem dX8_end_2 : decode cX8_end 2 = .ok (.iadd, 1) := by decide +kernel
theorem dX8_end_3 : decode cX8_end 3 = .ok (.aload_n 0, 1) := by decide +kernel
theorem dX8_end_4 : decode cX8_end 4 = .ok (.getfield 139, 3) := by decide +kernel
theorem dX8_end_7 : decode cX8_end 7 = .ok (.if_icmp .ge 14, 3) := by decide +kernel
theorem dX8_end_10 : decode cX8_end 10 = .ok (.aload_n 0, 1) := by decide +kernel
theorem dX8_end_11 : decode cX8_end 11 = .ok (.getfield 23, 3) := by decide +kernel
theorem dX8_end_14 : decode cX8_end 14 = .ok (.iload_n 1, 1) := by decide +kernel
theorem dX8_end_15 : decode cX8_end 15 = .ok (.iconst 1, 1) := by decide +kernel
theorem dX8_end_16 : decode cX8_end 16 = .ok (.iadd, 1) := by decide +kernel
theorem dX8_end_17 : decode cX8_end 17 = .ok (.laload, 1) := by decide +kernel
theorem dX8_end_18 : decode cX8_end 18 = .ok (.goto 6, 3) := by decide +kernel
theorem dX8_end_21 : decode cX8_end 21 = .ok (.ldc2_w 137, 3) := by decide +kernel
theorem dX8_end_24 : decode cX8_end 24 = .ok (.lreturn, 1) := by decide +kernel
set_option maxRecDepth 20000 in
theorem ggX8_spans_X8_isBook : GoodIn wsX8_spans wsX8_isBook := goodIn_r _ [5, 6, 7, 4, 8] (by decide +kernel) (by decide +kernel)
set_option maxRecDepth 20000 in
theorem gX8_spans_X8_isBook : GoodIn wsX8_spans (va_wsS RX8 109 yX8_isBook wsX8_isBook) := goodIn_app (goodIn_of _ (by decide +kernel)) ggX8_spans_X8_isBook
set_option maxRecDepth 20000 in
theorem ggX8_spans_X8_makeSpans : GoodIn wsX8_spans wsX8_makeSpans := goodIn_r _ [12, 1, 13, 14, 15, 16, 17, 4, 18, 19, 20, 21, 22, 23, 24, 25, 26, 27, 28, 29, 30, 31, 32, 33, 34, 35, 36, 37, 38, 39, 40, 41, 42, 43, 44, 45, 46, 47, 48, 49, 50, 51, 52, 53, 54, 55, 56, 57, 58, 59, 60, 61, 62, 63, 64, 65, 66, 67, 68, 69, 70, 71, 72, 73, 74, 75, 76, 77, 78, 79] (by decide +kernel) (by decide +kernel)
set_option maxRecDepth 20000 in
theorem gX8_spans_X8_makeSpans : GoodIn wsX8_spans (wsV RX8 154 RX8 yX8_makeSpans wsX8_makeSpans) := goodIn_app (goodIn_of _ (by decide +kernel)) ggX8_spans_X8_makeSpans
theorem dX8_spans_0 : decode cX8_spans 0 = .ok (.iload_n 1, 1) := by decide +kernel
theorem dX8_spans_1 : decode cX8_spans 1 = .ok (.invokestatic 109, 3) := by decide +kernel
theorem dX8_spans_4 : decode cX8_spans 4 = .ok (.ifCond .ne 5, 3) := by decide +kernel
theorem dX8_spans_7 : decode cX8_spans 7 = .ok (.iconst (-1), 1) := by decide +kernel
theorem dX8_spans_8 : decode cX8_spans 8 = .ok (.ireturn, 1) := by decide +kernel
theorem dX8_spans_9 : decode cX8_spans 9 = .ok (.aload_n 0, 1) := by decide +kernel
theorem dX8_spans_10 : decode cX8_spans 10 = .ok (.iconst 3, 1) := by decide +kernel
theorem dX8_spans_11 : decode cX8_spans 11 = .ok (.iload_n 1, 1) := by decide +kernel
theorem dX8_spans_12 : decode cX8_spans 12 = .ok (.iload_n 1, 1) := by decide +kernel
theorem dX8_spans_13 : decode cX8_spans 13 = .ok (.invokevirtual 154, 3) := by decide +kernel
theorem dX8_spans_16 : decode cX8_spans 16 = .ok (.aload_n 0, 1) := by decide +kernel
theorem dX8_spans_17 : decode cX8_spans 17 = .ok (.getfield 139, 3) := by decide +kernel
theorem dX8_spans_20 : decode cX8_spans 20 = .ok (.ireturn, 1) := by decide +kernel
set_option maxRecDepth 20000 in
theorem ggX8_span_X8_isBook : GoodIn wsX8_span wsX8_isBook := goodIn_r _ [8, 9, 10, 7, 11] (by decide +kernel) (by decide +kernel)
set_option maxRecDepth 20000 in
theorem gX8_span_X8_isBook : GoodIn wsX8_span (va_wsS RX8 109 yX8_isBook wsX8_isBook) := goodIn_app (goodIn_of _ (by decide +kernel)) ggX8_span_X8_isBook
set_option maxRecDepth 20000 in
theorem ggX8_span_X8_makeSpans : GoodIn wsX8_span wsX8_makeSpans := goodIn_r _ [15, 2, 3, 4, 16, 17, 18, 7, 19, 20, 21, 22, 23, 24, 25, 26, 27, 28, 29, 30, 31, 32, 33, 34, 35, 36, 37, 38, 39, 40, 41, 42, 43, 44, 45, 46, 51, 52, 53, 54, 55, 56, 57, 58, 59, 60, 61, 62, 63, 64, 65, 66, 67, 68, 69, 70, 71, 72, 73, 74, 75, 76, 77, 78, 79, 80, 81, 82, 83, 84] (by decide +kernel) (by decide +kernel)
set_option maxRecDepth 20000 in
theorem gX8_span_X8_makeSpans : GoodIn wsX8_span (wsV RX8 154 RX8 yX8_makeSpans wsX8_makeSpans) := goodIn_app (goodIn_of _ (by decide +kernel)) ggX8_span_X8_makeSpans
set_option maxRecDepth 20000 in
theorem ggX8_span_X8_lies : GoodIn wsX8_span wsX8_lies := goodIn_r _ [11] (by decide +kernel) (by decide +kernel)
set_option maxRecDepth 20000 in
theorem gX8_span_X8_lies : GoodIn wsX8_span (va_wsS RX8 92 yX8_lies wsX8_lies) := goodIn_app (goodIn_of _ (by decide +kernel)) ggX8_span_X8_lies
set_option maxRecDepth 20000 in
theorem ggX8_span_X8_end : GoodIn wsX8_span wsX8_end := goodIn_r _ [50, 2, 3, 20, 51, 52, 53, 54, 55, 56, 57, 58, 59, 60, 61, 62, 63, 64, 65, 66, 67, 68, 69, 70, 71, 72, 73, 74, 75, 76, 77, 78, 79, 80, 81, 82, 83, 84] (by decide +kernel) (by decide +kernel)
set_option maxRecDepth 20000 in
theorem gX8_span_X8_end : GoodIn wsX8_span (wsV RX8 157 RX8 yX8_end wsX8_end) := goodIn_app (goodIn_of _ (by decide +kernel)) ggX8_span_X8_end
theorem dX8_span_0 : decode cX8_span 0 = .ok (.iload_n 1, 1) := by decide +kernel
theorem dX8_span_1 : decode cX8_span 1 = .ok (.invokestatic 109, 3) := by decide +kernel
theorem dX8_span_4 : decode cX8_span 4 = .ok (.ifCond .ne 7, 3) := by decide +kernel
theorem dX8_span_7 : decode cX8_span 7 = .ok (.ldc2_w 124, 3) := by decide +kernel
theorem dX8_span_10 : decode cX8_span 10 = .ok (.lreturn, 1) := by decide +kernel
theorem dX8_span_11 : decode cX8_span 11 = .ok (.aload_n 0, 1) := by decide +kernel
theorem dX8_span_12 : decode cX8_span 12 = .ok (.iconst 3, 1) := by decide +kernel
theorem dX8_span_13 : decode cX8_span 13 = .ok (.iload_n 1, 1) := by decide +kernel
theorem dX8_span_14 : decode cX8_span 14 = .ok (.iload_n 1, 1) := by decide +kernel
theorem dX8_span_15 : decode cX8_span 15 = .ok (.invokevirtual 154, 3) := by decide +kernel
theorem dX8_span_18 : decode cX8_span 18 = .ok (.iload_n 2, 1) := by decide +kernel
theorem dX8_span_19 : decode cX8_span 19 = .ok (.iconst 0, 1) := by decide +kernel
theorem dX8_span_20 : decode cX8_span 20 = .ok (.aload_n 0, 1) := by decide +kernel
theorem dX8_span_21 : decode cX8_span 21 = .ok (.getfield 139, 3) := by decide +kernel
theorem dX8_span_24 : decode cX8_span 24 = .ok (.iconst 1, 1) := by decide +kernel
theorem dX8_span_25 : decode cX8_span 25 = .ok (.isub, 1) := by decide +kernel
theorem dX8_span_26 : decode cX8_span 26 = .ok (.invokestatic 92, 3) := by decide +kernel
theorem dX8_span_29 : decode cX8_span 29 = .ok (.ifCond .ne 7, 3) := by decide +kernel
theorem dX8_span_32 : decode cX8_span 32 = .ok (.ldc2_w 124, 3) := by decide +kernel
theorem dX8_span_35 : decode cX8_span 35 = .ok (.lreturn, 1) := by decide +kernel
theorem dX8_span_36 : decode cX8_span 36 = .ok (.iload_n 3, 1) := by decide +kernel
theorem dX8_span_37 : decode cX8_span 37 = .ok (.ifCond .ne 12, 3) := by decide +kernel
theorem dX8_span_40 : decode cX8_span 40 = .ok (.aload_n 0, 1) := by decide +kernel
theorem dX8_span_41 : decode cX8_span 41 = .ok (.getfield 23, 3) := by decide +kernel
theorem dX8_span_44 : decode cX8_span 44 = .ok (.iload_n 2, 1) := by decide +kernel
theorem dX8_span_45 : decode cX8_span 45 = .ok (.laload, 1) := by decide +kernel
theorem dX8_span_46 : decode cX8_span 46 = .ok (.goto 36, 3) := by decide +kernel
theorem dX8_span_49 : decode cX8_span 49 = .ok (.iload_n 3, 1) := by decide +kernel
theorem dX8_span_50 : decode cX8_span 50 = .ok (.iconst 1, 1) := by decide +kernel
theorem dX8_span_51 : decode cX8_span 51 = .ok (.if_icmp .ne 13, 3) := by decide +kernel
theorem dX8_span_54 : decode cX8_span 54 = .ok (.aload_n 0, 1) := by decide +kernel
theorem dX8_span_55 : decode cX8_span 55 = .ok (.iload_n 2, 1) := by decide +kernel
theorem dX8_span_56 : decode cX8_span 56 = .ok (.invokevirtual 157, 3) := by decide +kernel
theorem dX8_span_59 : decode cX8_span 59 = .ok (.lconst 1, 1) := by decide +kernel
theorem dX8_span_60 : decode cX8_span 60 = .ok (.lsub, 1) := by decide +kernel
theorem dX8_span_61 : decode cX8_span 61 = .ok (.goto 21, 3) := by decide +kernel
theorem dX8_span_64 : decode cX8_span 64 = .ok (.iload_n 3, 1) := by decide +kernel
theorem dX8_span_65 : decode cX8_span 65 = .ok (.iconst 2, 1) := by decide +kernel
theorem dX8_span_66 : decode cX8_span 66 = .ok (.if_icmp .ne 13, 3) := by decide +kernel
theorem dX8_span_69 : decode cX8_span 69 = .ok (.aload_n 0, 1) := by decide +kernel
theorem dX8_span_70 : decode cX8_span 70 = .ok (.getfield 26, 3) := by decide +kernel
theorem dX8_span_73 : decode cX8_span 73 = .ok (.iload_n 2, 1) := by decide +kernel
theorem dX8_span_74 : decode cX8_span 74 = .ok (.iaload, 1) := by decide +kernel
theorem dX8_span_75 : decode cX8_span 75 = .ok (.i2l, 1) := by decide +kernel
theorem dX8_span_76 : decode cX8_span 76 = .ok (.goto 6, 3) := by decide +kernel
theorem dX8_span_79 : decode cX8_span 79 = .ok (.ldc2_w 124, 3) := by decide +kernel
theorem dX8_span_82 : decode cX8_span 82 = .ok (.lreturn, 1) := by decide +kernel
set_option maxRecDepth 20000 in
theorem ggX8_share_X8_isBook : GoodIn wsX8_share wsX8_isBook := goodIn_r _ [8, 9, 10, 7, 11] (by decide +kernel) (by decide +kernel)
set_option maxRecDepth 20000 in
theorem gX8_share_X8_isBook : GoodIn wsX8_share (va_wsS RX8 109 yX8_isBook wsX8_isBook) := goodIn_app (goodIn_of _ (by decide +kernel)) ggX8_share_X8_isBook
set_option maxRecDepth 20000 in
theorem ggX8_share_X8_lies : GoodIn wsX8_share wsX8_lies := goodIn_r _ [11] (by decide +kernel) (by decide +kernel)
set_option maxRecDepth 20000 in
theorem gX8_share_X8_lies : GoodIn wsX8_share (va_wsS RX8 92 yX8_lies wsX8_lies) := goodIn_app (goodIn_of _ (by decide +kernel)) ggX8_share_X8_lies
set_option maxRecDepth 20000 in
theorem ggX8_share_X8_makeSpans : GoodIn wsX8_share wsX8_makeSpans := goodIn_r _ [15, 2, 4, 3, 16, 17, 18, 7, 19, 20, 21, 22, 23, 24, 25, 26, 27, 28, 29, 30, 31, 32, 33, 34, 35, 36, 37, 38, 39, 40, 41, 42, 43, 44, 45, 46, 51, 52, 53, 54, 55, 56, 57, 58, 59, 60, 61, 62, 63, 64, 65, 66, 67, 68, 69, 70, 71, 72, 73, 74, 75, 76, 77, 78, 79, 80, 81, 82, 83, 84] (by decide +kernel) (by decide +kernel)
set_option maxRecDepth 20000 in
theorem gX8_share_X8_makeSpans : GoodIn wsX8_share (wsV RX8 154 RX8 yX8_makeSpans wsX8_makeSpans) := goodIn_app (goodIn_of _ (by decide +kernel)) ggX8_share_X8_makeSpans
set_option maxRecDepth 20000 in
theorem ggX8_share_X8_end : GoodIn wsX8_share wsX8_end := goodIn_r _ [50, 2, 4, 20, 51, 52, 53, 54, 55, 56, 57, 58, 59, 60, 61, 62, 63, 64, 65, 66, 67, 68, 69, 70, 71, 72, 73, 74, 75, 76, 77, 78, 79, 80, 81, 82, 83, 84] (by decide +kernel) (by decide +kernel)
set_option maxRecDepth 20000 in
theorem gX8_share_X8_end : GoodIn wsX8_share (wsV RX8 157 RX8 yX8_end wsX8_end) := goodIn_app (goodIn_of _ (by decide +kernel)) ggX8_share_X8_end
theorem dX8_share_0 : decode cX8_share 0 = .ok (.iload_n 1, 1) := by decide +kernel
theorem dX8_share_1 : decode cX8_share 1 = .ok (.invokestatic 109, 3) := by decide +kernel
theorem dX8_share_4 : decode cX8_share 4 = .ok (.ifCond .eq 13, 3) := by decide +kernel
theorem dX8_share_7 : decode cX8_share 7 = .ok (.iload_n 2, 1) := by decide +kernel
theorem dX8_share_8 : decode cX8_share 8 = .ok (.iconst 0, 1) := by decide +kernel
theorem dX8_share_9 : decode cX8_share 9 = .ok (.bipush 16, 2) := by decide +kernel
theorem dX8_share_11 : decode cX8_share 11 = .ok (.invokestatic 92, 3) := by decide +kernel
theorem dX8_share_14 : decode cX8_share 14 = .ok (.ifCond .ne 7, 3) := by decide +kernel
theorem dX8_share_17 : decode cX8_share 17 = .ok (.ldc2_w 124, 3) := by decide +kernel
theorem dX8_share_20 : decode cX8_share 20 = .ok (.lreturn, 1) := by decide +kernel
theorem dX8_share_21 : decode cX8_share 21 = .ok (.aload_n 0, 1) := by decide +kernel
theorem dX8_share_22 : decode cX8_share 22 = .ok (.iconst 3, 1) := by decide +kernel
theorem dX8_share_23 : decode cX8_share 23 = .ok (.iload_n 1, 1) := by decide +kernel
theorem dX8_share_24 : decode cX8_share 24 = .ok (.iload_n 1, 1) := by decide +kernel
theorem dX8_share_25 : decode cX8_share 25 = .ok (.invokevirtual 154, 3) := by decide +kernel
theorem dX8_share_28 : decode cX8_share 28 = .ok (.lconst 0, 1) := by decide +kernel
theorem dX8_share_29 : decode cX8_share 29 = .ok (.lstore_n 3, 1) := by decide +kernel
theorem dX8_share_30 : decode cX8_share 30 = .ok (.iconst 0, 1) := by decide +kernel
theorem dX8_share_31 : decode cX8_share 31 = .ok (.istore 5, 2) := by decide +kernel
theorem dX8_share_33 : decode cX8_share 33 = .ok (.iload 5, 2) := by decide +kernel
theorem dX8_share_35 : decode cX8_share 35 = .ok (.aload_n 0, 1) := by decide +kernel
theorem dX8_share_36 : decode cX8_share 36 = .ok (.getfield 139, 3) := by decide +kernel
theorem dX8_share_39 : decode cX8_share 39 = .ok (.if_icmp .ge 41, 3) := by decide +kernel
theorem dX8_share_42 : decode cX8_share 42 = .ok (.lload_n 3, 1) := by decide +kernel
theorem dX8_share_43 : decode cX8_share 43 = .ok (.aload_n 0, 1) := by decide +kernel
theorem dX8_share_44 : decode cX8_share 44 = .ok (.getfield 26, 3) := by decide +kernel
theorem dX8_share_47 : decode cX8_share 47 = .ok (.iload 5, 2) := by decide +kernel
theorem dX8_share_49 : decode cX8_share 49 = .ok (.iaload, 1) := by decide +kernel
theorem dX8_share_50 : decode cX8_share 50 = .ok (.iload_n 2, 1) := by decide +kernel
theorem dX8_share_51 : decode cX8_share 51 = .ok (.if_icmp .ne 20, 3) := by decide +kernel
theorem dX8_share_54 : decode cX8_share 54 = .ok (.aload_n 0, 1) := by decide +kernel
theorem dX8_share_55 : decode cX8_share 55 = .ok (.iload 5, 2) := by decide +kernel
theorem dX8_share_57 : decode cX8_share 57 = .ok (.invokevirtual 157, 3) := by decide +kernel
theorem dX8_share_60 : decode cX8_share 60 = .ok (.aload_n 0, 1) := by decide +kernel
theorem dX8_share_61 : decode cX8_share 61 = .ok (.getfield 23, 3) := by decide +kernel
theorem dX8_share_64 : decode cX8_share 64 = .ok (.iload 5, 2) := by decide +kernel
theorem dX8_share_66 : decode cX8_share 66 = .ok (.laload, 1) := by decide +kernel
theorem dX8_share_67 : decode cX8_share 67 = .ok (.lsub, 1) := by decide +kernel
theorem dX8_share_68 : decode cX8_share 68 = .ok (.goto 4, 3) := by decide +kernel
theorem dX8_share_71 : decode cX8_share 71 = .ok (.lconst 0, 1) := by decide +kernel
theorem dX8_share_72 : decode cX8_share 72 = .ok (.ladd, 1) := by decide +kernel
theorem dX8_share_73 : decode cX8_share 73 = .ok (.lstore_n 3, 1) := by decide +kernel
theorem dX8_share_74 : decode cX8_share 74 = .ok (.iinc 5 1, 3) := by decide +kernel
theorem dX8_share_77 : decode cX8_share 77 = .ok (.goto (-44), 3) := by decide +kernel
theorem dX8_share_80 : decode cX8_share 80 = .ok (.lload_n 3, 1) := by decide +kernel
theorem dX8_share_81 : decode cX8_share 81 = .ok (.lreturn, 1) := by decide +kernel
set_option maxRecDepth 20000 in
theorem ggX8_same_X8_isBook : GoodIn wsX8_same wsX8_isBook := goodIn_r _ [4, 5, 6, 3, 7] (by decide +kernel) (by decide +kernel)
set_option maxRecDepth 20000 in
theorem gX8_same_X8_isBook : GoodIn wsX8_same (va_wsS RX8 109 yX8_isBook wsX8_isBook) := goodIn_app (goodIn_of _ (by decide +kernel)) ggX8_same_X8_isBook
set_option maxRecDepth 20000 in
theorem ggX8_same_X8_differ : GoodIn wsX8_same wsX8_differ := goodIn_r _ [11, 12, 13, 14, 15, 1, 2, 3, 4, 5, 6, 7, 16, 17, 18, 19, 20, 21, 22, 23, 24, 25, 26, 27, 28, 29, 30, 31, 32, 33, 34, 35, 36, 37, 38, 39, 40, 41, 42, 43, 44, 45, 46, 47, 48, 49, 50, 51, 52, 53, 54, 55, 56, 57, 58, 59, 60, 61, 62, 63, 64, 65, 66, 67, 68, 69, 70, 71, 72, 73, 74, 75, 76, 77, 78, 79, 80, 81, 82, 83, 84, 85, 86, 87, 88] (by decide +kernel) (by decide +kernel)
set_option maxRecDepth 20000 in
theorem gX8_same_X8_differ : GoodIn wsX8_same (wsV RX8 160 RX8 yX8_differ wsX8_differ) := goodIn_app (goodIn_of _ (by decide +kernel)) ggX8_same_X8_differ
theorem dX8_same_0 : decode cX8_same 0 = .ok (.iload_n 1, 1) := by decide +kernel
theorem dX8_same_1 : decode cX8_same 1 = .ok (.invokestatic 109, 3) := by decide +kernel
theorem dX8_same_4 : decode cX8_same 4 = .ok (.ifCond .eq 10, 3) := by decide +kernel
theorem dX8_same_7 : decode cX8_same 7 = .ok (.iload_n 2, 1) := by decide +kernel
theorem dX8_same_8 : decode cX8_same 8 = .ok (.invokestatic 109, 3) := by decide +kernel
theorem dX8_same_11 : decode cX8_same 11 = .ok (.ifCond .ne 5, 3) := by decide +kernel
theorem dX8_same_14 : decode cX8_same 14 = .ok (.iconst (-1), 1) := by decide +kernel
theorem dX8_same_15 : decode cX8_same 15 = .ok (.ireturn, 1) := by decide +kernel
theorem dX8_same_16 : decode cX8_same 16 = .ok (.aload_n 0, 1) := by decide +kernel
theorem dX8_same_17 : decode cX8_same 17 = .ok (.iload_n 1, 1) := by decide +kernel
theorem dX8_same_18 : decode cX8_same 18 = .ok (.iload_n 2, 1) := by decide +kernel
theorem dX8_same_19 : decode cX8_same 19 = .ok (.iconst 1, 1) := by decide +kernel
theorem dX8_same_20 : decode cX8_same 20 = .ok (.invokevirtual 160, 3) := by decide +kernel
theorem dX8_same_23 : decode cX8_same 23 = .ok (.lconst 0, 1) := by decide +kernel
theorem dX8_same_24 : decode cX8_same 24 = .ok (.lcmp, 1) := by decide +kernel
theorem dX8_same_25 : decode cX8_same 25 = .ok (.ifCond .ne 7, 3) := by decide +kernel
theorem dX8_same_28 : decode cX8_same 28 = .ok (.iconst 1, 1) := by decide +kernel
theorem dX8_same_29 : decode cX8_same 29 = .ok (.goto 4, 3) := by decide +kernel
theorem dX8_same_32 : decode cX8_same 32 = .ok (.iconst 0, 1) := by decide +kernel
theorem dX8_same_33 : decode cX8_same 33 = .ok (.ireturn, 1) := by decide +kernel
set_option maxRecDepth 20000 in
theorem ggX8_differ_X8_isBook : GoodIn wsX8_differ wsX8_isBook := goodIn_r _ [8, 9, 10, 7, 11] (by decide +kernel) (by decide +kernel)
set_option maxRecDepth 20000 in
theorem gX8_differ_X8_isBook : GoodIn wsX8_differ (va_wsS RX8 109 yX8_isBook wsX8_isBook) := goodIn_app (goodIn_of _ (by decide +kernel)) ggX8_differ_X8_isBook
set_option maxRecDepth 20000 in
theorem ggX8_differ_X8_lies : GoodIn wsX8_differ wsX8_lies := goodIn_r _ [11] (by decide +kernel) (by decide +kernel)
set_option maxRecDepth 20000 in
theorem gX8_differ_X8_lies : GoodIn wsX8_differ (va_wsS RX8 92 yX8_lies wsX8_lies) := goodIn_app (goodIn_of _ (by decide +kernel)) ggX8_differ_X8_lies
set_option maxRecDepth 20000 in
theorem ggX8_differ_X8_makeSpans : GoodIn wsX8_differ wsX8_makeSpans := goodIn_r _ [15, 2, 4, 3, 16, 17, 18, 7, 19, 20, 21, 22, 23, 24, 25, 26, 27, 28, 29, 30, 31, 32, 33, 34, 35, 36, 37, 38, 39, 40, 41, 42, 43, 44, 45, 46, 51, 52, 53, 54, 55, 56, 57, 58, 59, 60, 61, 62, 63, 64, 65, 66, 67, 68, 69, 70, 71, 72, 73, 74, 75, 76, 77, 78, 79, 80, 81, 82, 83, 84] (by decide +kernel) (by decide +kernel)
set_option maxRecDepth 20000 in
theorem gX8_differ_X8_makeSpans : GoodIn wsX8_differ (wsV RX8 154 RX8 yX8_makeSpans wsX8_makeSpans) := goodIn_app (goodIn_of _ (by decide +kernel)) ggX8_differ_X8_makeSpans
set_option maxRecDepth 20000 in
theorem ggX8_differ_X8_end : GoodIn wsX8_differ wsX8_end := goodIn_r _ [50, 2, 4, 20, 51, 52, 53, 54, 55, 56, 57, 58, 59, 60, 61, 62, 63, 64, 65, 66, 67, 68, 69, 70, 71, 72, 73, 74, 75, 76, 77, 78, 79, 80, 81, 82, 83, 84] (by decide +kernel) (by decide +kernel)
set_option maxRecDepth 20000 in
theorem gX8_differ_X8_end : GoodIn wsX8_differ (wsV RX8 157 RX8 yX8_end wsX8_end) := goodIn_app (goodIn_of _ (by decide +kernel)) ggX8_differ_X8_end
theorem dX8_differ_0 : decode cX8_differ 0 = .ok (.iload_n 1, 1) := by decide +kernel
theorem dX8_differ_1 : decode cX8_differ 1 = .ok (.invokestatic 109, 3) := by decide +kernel
theorem dX8_differ_4 : decode cX8_differ 4 = .ok (.ifCond .eq 19, 3) := by decide +kernel
theorem dX8_differ_7 : decode cX8_differ 7 = .ok (.iload_n 2, 1) := by decide +kernel
theorem dX8_differ_8 : decode cX8_differ 8 = .ok (.invokestatic 109, 3) := by decide +kernel
theorem dX8_differ_11 : decode cX8_differ 11 = .ok (.ifCond .eq 12, 3) := by decide +kernel
theorem dX8_differ_14 : decode cX8_differ 14 = .ok (.iload_n 3, 1) := by decide +kernel
theorem dX8_differ_15 : decode cX8_differ 15 = .ok (.iconst 0, 1) := by decide +kernel
theorem dX8_differ_16 : decode cX8_differ 16 = .ok (.iconst 1, 1) := by decide +kernel
theorem dX8_differ_17 : decode cX8_differ 17 = .ok (.invokestatic 92, 3) := by decide +kernel
theorem dX8_differ_20 : decode cX8_differ 20 = .ok (.ifCond .ne 7, 3) := by decide +kernel
theorem dX8_differ_23 : decode cX8_differ 23 = .ok (.ldc2_w 124, 3) := by decide +kernel
theorem dX8_differ_26 : decode cX8_differ 26 = .ok (.lreturn, 1) := by decide +kernel
theorem dX8_differ_27 : decode cX8_differ 27 = .ok (.aload_n 0, 1) := by decide +kernel
theorem dX8_differ_28 : decode cX8_differ 28 = .ok (.iconst 4, 1) := by decide +kernel
theorem dX8_differ_29 : decode cX8_differ 29 = .ok (.iload_n 1, 1) := by decide +kernel
theorem dX8_differ_30 : decode cX8_differ 30 = .ok (.iload_n 2, 1) := by decide +kernel
theorem dX8_differ_31 : decode cX8_differ 31 = .ok (.invokevirtual 154, 3) := by decide +kernel
theorem dX8_differ_34 : decode cX8_differ 34 = .ok (.ldc2_w 124, 3) := by decide +kernel
theorem dX8_differ_37 : decode cX8_differ 37 = .ok (.lstore 4, 2) := by decide +kernel
theorem dX8_differ_39 : decode cX8_differ 39 = .ok (.lconst 0, 1) := by decide +kernel
theorem dX8_differ_40 : decode cX8_differ 40 = .ok (.lstore 6, 2) := by decide +kernel
theorem dX8_differ_42 : decode cX8_differ 42 = .ok (.iconst 0, 1) := by decide +kernel
theorem dX8_differ_43 : decode cX8_differ 43 = .ok (.istore 8, 2) := by decide +kernel
theorem dX8_differ_45 : decode cX8_differ 45 = .ok (.iload 8, 2) := by decide +kernel
theorem dX8_differ_47 : decode cX8_differ 47 = .ok (.aload_n 0, 1) := by decide +kernel
theorem dX8_differ_48 : decode cX8_differ 48 = .ok (.getfield 139, 3) := by decide +kernel
theorem dX8_differ_51 : decode cX8_differ 51 = .ok (.if_icmp .ge 77, 3) := by decide +kernel
theorem dX8_differ_54 : decode cX8_differ 54 = .ok (.aload_n 0, 1) := by decide +kernel
theorem dX8_differ_55 : decode cX8_differ 55 = .ok (.getfield 26, 3) := by decide +kernel
theorem dX8_differ_58 : decode cX8_differ 58 = .ok (.iload 8, 2) := by decide +kernel
theorem dX8_differ_60 : decode cX8_differ 60 = .ok (.iaload, 1) := by decide +kernel
theorem dX8_differ_61 : decode cX8_differ 61 = .ok (.bipush 17, 2) := by decide +kernel
theorem dX8_differ_63 : decode cX8_differ 63 = .ok (.idiv, 1) := by decide +kernel
theorem dX8_differ_64 : decode cX8_differ 64 = .ok (.aload_n 0, 1) := by decide +kernel
theorem dX8_differ_65 : decode cX8_differ 65 = .ok (.getfield 26, 3) := by decide +kernel
theorem dX8_differ_68 : decode cX8_differ 68 = .ok (.iload 8, 2) := by decide +kernel
theorem dX8_differ_70 : decode cX8_differ 70 = .ok (.iaload, 1) := by decide +kernel
theorem dX8_differ_71 : decode cX8_differ 71 = .ok (.bipush 17, 2) := by decide +kernel
theorem dX8_differ_73 : decode cX8_differ 73 = .ok (.irem, 1) := by decide +kernel
theorem dX8_differ_74 : decode cX8_differ 74 = .ok (.if_icmp .ne 6, 3) := by decide +kernel
theorem dX8_differ_77 : decode cX8_differ 77 = .ok (.goto 45, 3) := by decide +kernel
theorem dX8_differ_80 : decode cX8_differ 80 = .ok (.lload 4, 2) := by decide +kernel
theorem dX8_differ_82 : decode cX8_differ 82 = .ok (.ldc2_w 124, 3) := by decide +kernel
theorem dX8_differ_85 : decode cX8_differ 85 = .ok (.lcmp, 1) := by decide +kernel
theorem dX8_differ_86 : decode cX8_differ 86 = .ok (.ifCond .ne 13, 3) := by decide +kernel
theorem dX8_differ_89 : decode cX8_differ 89 = .ok (.aload_n 0, 1) := by decide +kernel
theorem dX8_differ_90 : decode cX8_differ 90 = .ok (.getfield 23, 3) := by decide +kernel
theorem dX8_differ_93 : decode cX8_differ 93 = .ok (.iload 8, 2) := by decide +kernel
theorem dX8_differ_95 : decode cX8_differ 95 = .ok (.laload, 1) := by decide +kernel
theorem dX8_differ_96 : decode cX8_differ 96 = .ok (.goto 5, 3) := by decide +kernel
theorem dX8_differ_99 : decode cX8_differ 99 = .ok (.lload 4, 2) := by decide +kernel
theorem dX8_differ_101 : decode cX8_differ 101 = .ok (.lstore 4, 2) := by decide +kernel
theorem dX8_differ_103 : decode cX8_differ 103 = .ok (.lload 6, 2) := by decide +kernel
theorem dX8_differ_105 : decode cX8_differ 105 = .ok (.aload_n 0, 1) := by decide +kernel
theorem dX8_differ_106 : decode cX8_differ 106 = .ok (.iload 8, 2) := by decide +kernel
theorem dX8_differ_108 : decode cX8_differ 108 = .ok (.invokevirtual 157, 3) := by decide +kernel
theorem dX8_differ_111 : decode cX8_differ 111 = .ok (.aload_n 0, 1) := by decide +kernel
theorem dX8_differ_112 : decode cX8_differ 112 = .ok (.getfield 23, 3) := by decide +kernel
theorem dX8_differ_115 : decode cX8_differ 115 = .ok (.iload 8, 2) := by decide +kernel
theorem dX8_differ_117 : decode cX8_differ 117 = .ok (.laload, 1) := by decide +kernel
theorem dX8_differ_118 : decode cX8_differ 118 = .ok (.lsub, 1) := by decide +kernel
theorem dX8_differ_119 : decode cX8_differ 119 = .ok (.ladd, 1) := by decide +kernel
theorem dX8_differ_120 : decode cX8_differ 120 = .ok (.lstore 6, 2) := by decide +kernel
theorem dX8_differ_122 : decode cX8_differ 122 = .ok (.iinc 8 1, 3) := by decide +kernel
theorem dX8_differ_125 : decode cX8_differ 125 = .ok (.goto (-80), 3) := by decide +kernel
theorem dX8_differ_128 : decode cX8_differ 128 = .ok (.iload_n 3, 1) := by decide +kernel
theorem dX8_differ_129 : decode cX8_differ 129 = .ok (.ifCond .ne 8, 3) := by decide +kernel
theorem dX8_differ_132 : decode cX8_differ 132 = .ok (.lload 4, 2) := by decide +kernel
theorem dX8_differ_134 : decode cX8_differ 134 = .ok (.goto 5, 3) := by decide +kernel
theorem dX8_differ_137 : decode cX8_differ 137 = .ok (.lload 6, 2) := by decide +kernel
theorem dX8_differ_139 : decode cX8_differ 139 = .ok (.lreturn, 1) := by decide +kernel
set_option maxRecDepth 20000 in
theorem ggX8_spanOf_X8_end : GoodIn wsX8_spanOf wsX8_end := goodIn_r _ [5, 6, 7, 8, 9, 10, 11, 12, 13, 14, 15, 16, 17, 18, 19, 20, 21, 22, 23, 24, 25, 26, 27, 28, 29, 30, 31, 32, 33, 34, 35, 36, 37, 38, 39, 40, 41, 42] (by decide +kernel) (by decide +kernel)
set_option maxRecDepth 20000 in
theorem gX8_spanOf_X8_end : GoodIn wsX8_spanOf (wsV RX8 157 RX8 yX8_end wsX8_end) := goodIn_app (goodIn_of _ (by decide +kernel)) ggX8_spanOf_X8_end
theorem dX8_spanOf_0 : decode cX8_spanOf 0 = .ok (.iconst 0, 1) := by decide +kernel
theorem dX8_spanOf_1 : decode cX8_spanOf 1 = .ok (.istore_n 3, 1) := by decide +kernel
theorem dX8_spanOf_2 : decode cX8_spanOf 2 = .ok (.aload_n 0, 1) := by decide +kernel
theorem dX8_spanOf_3 : decode cX8_spanOf 3 = .ok (.iload_n 3, 1) := by decide +kernel
theorem dX8_spanOf_4 : decode cX8_spanOf 4 = .ok (.invokevirtual 157, 3) := by decide +kernel
theorem dX8_spanOf_7 : decode cX8_spanOf 7 = .ok (.lload_n 1, 1) := by decide +kernel
theorem dX8_spanOf_8 : decode cX8_spanOf 8 = .ok (.lcmp, 1) := by decide +kernel
theorem dX8_spanOf_9 : decode cX8_spanOf 9 = .ok (.ifCond .gt 9, 3) := by decide +kernel
theorem dX8_spanOf_12 : decode cX8_spanOf 12 = .ok (.iinc 3 1, 3) := by decide +kernel
theorem dX8_spanOf_15 : decode cX8_spanOf 15 = .ok (.goto (-13), 3) := by decide +kernel
theorem dX8_spanOf_18 : decode cX8_spanOf 18 = .ok (.iload_n 3, 1) := by decide +kernel
theorem dX8_spanOf_19 : decode cX8_spanOf 19 = .ok (.ireturn, 1) := by decide +kernel
set_option maxRecDepth 20000 in
theorem ggX8_isOne_X8_spanOf : GoodIn wsX8_isOne wsX8_spanOf := goodIn_r _ [5, 6, 7, 8, 4, 9, 10, 11, 12, 16, 17, 18, 19, 20, 21, 22, 23, 24, 25, 26, 27, 28, 29, 30, 31, 32, 33, 34, 35, 36, 37, 38, 39, 40, 41, 42, 43, 44, 45, 46, 47, 48, 49] (by decide +kernel) (by decide +kernel)
set_option maxRecDepth 20000 in
theorem gX8_isOne_X8_spanOf : GoodIn wsX8_isOne (wsV RX8 164 RX8 yX8_spanOf wsX8_spanOf) := goodIn_app (goodIn_of _ (by decide +kernel)) ggX8_isOne_X8_spanOf
set_option maxRecDepth 20000 in
theorem ggX8_isOne_X8_size : GoodIn wsX8_isOne wsX8_size := goodIn_r _ [15] (by decide +kernel) (by decide +kernel)
set_option maxRecDepth 20000 in
theorem gX8_isOne_X8_size : GoodIn wsX8_isOne (va_wsS RX8 102 yX8_size wsX8_size) := goodIn_app (goodIn_of _ (by decide +kernel)) ggX8_isOne_X8_size
theorem dX8_isOne_0 : decode cX8_isOne 0 = .ok (.aload_n 0, 1) := by decide +kernel
theorem dX8_isOne_1 : decode cX8_isOne 1 = .ok (.lload_n 1, 1) := by decide +kernel
theorem dX8_isOne_2 : decode cX8_isOne 2 = .ok (.invokevirtual 164, 3) := by decide +kernel
theorem dX8_isOne_5 : decode cX8_isOne 5 = .ok (.aload_n 0, 1) := by decide +kernel
theorem dX8_isOne_6 : decode cX8_isOne 6 = .ok (.lload_n 1, 1) := by decide +kernel
theorem dX8_isOne_7 : decode cX8_isOne 7 = .ok (.iload_n 3, 1) := by decide +kernel
theorem dX8_isOne_8 : decode cX8_isOne 8 = .ok (.invokestatic 102, 3) := by decide +kernel
theorem dX8_isOne_11 : decode cX8_isOne 11 = .ok (.ladd, 1) := by decide +kernel
theorem dX8_isOne_12 : decode cX8_isOne 12 = .ok (.lconst 1, 1) := by decide +kernel
theorem dX8_isOne_13 : decode cX8_isOne 13 = .ok (.lsub, 1) := by decide +kernel
theorem dX8_isOne_14 : decode cX8_isOne 14 = .ok (.invokevirtual 164, 3) := by decide +kernel
theorem dX8_isOne_17 : decode cX8_isOne 17 = .ok (.if_icmp .ne 7, 3) := by decide +kernel
theorem dX8_isOne_20 : decode cX8_isOne 20 = .ok (.iconst 1, 1) := by decide +kernel
theorem dX8_isOne_21 : decode cX8_isOne 21 = .ok (.goto 4, 3) := by decide +kernel
theorem dX8_isOne_24 : decode cX8_isOne 24 = .ok (.iconst 0, 1) := by decide +kernel
theorem dX8_isOne_25 : decode cX8_isOne 25 = .ok (.ireturn, 1) := by decide +kernel
theorem dX8_mixedAt_0 : decode cX8_mixedAt 0 = .ok (.iconst 0, 1) := by decide +kernel
theorem dX8_mixedAt_1 : decode cX8_mixedAt 1 = .ok (.istore 4, 2) := by decide +kernel
theorem dX8_mixedAt_3 : decode cX8_mixedAt 3 = .ok (.iload 4, 2) := by decide +kernel
theorem dX8_mixedAt_5 : decode cX8_mixedAt 5 = .ok (.aload_n 0, 1) := by decide +kernel
theorem dX8_mixedAt_6 : decode cX8_mixedAt 6 = .ok (.getfield 29, 3) := by decide +kernel
theorem dX8_mixedAt_9 : decode cX8_mixedAt 9 = .ok (.iload_n 3, 1) := by decide +kernel
theorem dX8_mixedAt_10 : decode cX8_mixedAt 10 = .ok (.iaload, 1) := by decide +kernel
theorem dX8_mixedAt_11 : decode cX8_mixedAt 11 = .ok (.if_icmp .ge 30, 3) := by decide +kernel
theorem dX8_mixedAt_14 : decode cX8_mixedAt 14 = .ok (.aload_n 0, 1) := by decide +kernel
theorem dX8_mixedAt_15 : decode cX8_mixedAt 15 = .ok (.getfield 32, 3) := by decide +kernel
theorem dX8_mixedAt_18 : decode cX8_mixedAt 18 = .ok (.sipush 600, 3) := by decide +kernel
theorem dX8_mixedAt_21 : decode cX8_mixedAt 21 = .ok (.iload_n 3, 1) := by decide +kernel
theorem dX8_mixedAt_22 : decode cX8_mixedAt 22 = .ok (.imul, 1) := by decide +kernel
theorem dX8_mixedAt_23 : decode cX8_mixedAt 23 = .ok (.iload 4, 2) := by decide +kernel
theorem dX8_mixedAt_25 : decode cX8_mixedAt 25 = .ok (.iadd, 1) := by decide +kernel
theorem dX8_mixedAt_26 : decode cX8_mixedAt 26 = .ok (.laload, 1) := by decide +kernel
theorem dX8_mixedAt_27 : decode cX8_mixedAt 27 = .ok (.lload_n 1, 1) := by decide +kernel
theorem dX8_mixedAt_28 : decode cX8_mixedAt 28 = .ok (.lcmp, 1) := by decide +kernel
theorem dX8_mixedAt_29 : decode cX8_mixedAt 29 = .ok (.ifCond .ne 6, 3) := by decide +kernel
theorem dX8_mixedAt_32 : decode cX8_mixedAt 32 = .ok (.iload 4, 2) := by decide +kernel
theorem dX8_mixedAt_34 : decode cX8_mixedAt 34 = .ok (.ireturn, 1) := by decide +kernel
theorem dX8_mixedAt_35 : decode cX8_mixedAt 35 = .ok (.iinc 4 1, 3) := by decide +kernel
theorem dX8_mixedAt_38 : decode cX8_mixedAt 38 = .ok (.goto (-35), 3) := by decide +kernel
theorem dX8_mixedAt_41 : decode cX8_mixedAt 41 = .ok (.iconst (-1), 1) := by decide +kernel
theorem dX8_mixedAt_42 : decode cX8_mixedAt 42 = .ok (.ireturn, 1) := by decide +kernel
set_option maxRecDepth 20000 in
theorem ggX8_setOf_X8_isOne : GoodIn wsX8_setOf wsX8_isOne := goodIn_r _ [7, 8, 9, 10, 6, 11, 12, 13, 14, 15, 16, 17, 18, 19, 20, 21, 28, 29, 30, 31, 32, 33, 34, 35, 36, 37, 38, 39, 40, 41, 42, 43, 44, 45, 46, 47, 48, 49, 50, 51, 52, 53, 54, 55, 56, 57, 58, 59, 60, 61] (by decide +kernel) (by decide +kernel)
set_option maxRecDepth 20000 in
theorem gX8_setOf_X8_isOne : GoodIn wsX8_setOf (wsV RX8 168 RX8 yX8_isOne wsX8_isOne) := goodIn_app (goodIn_of _ (by decide +kernel)) ggX8_setOf_X8_isOne
set_option maxRecDepth 20000 in
theorem ggX8_setOf_X8_spanOf : GoodIn wsX8_setOf wsX8_spanOf := goodIn_r _ [11, 12, 13, 14, 6, 15, 16, 17, 18, 28, 29, 30, 31, 32, 33, 34, 35, 36, 37, 38, 39, 40, 41, 42, 43, 44, 45, 46, 47, 48, 49, 50, 51, 52, 53, 54, 55, 56, 57, 58, 59, 60, 61] (by decide +kernel) (by decide +kernel)
set_option maxRecDepth 20000 in
theorem gX8_setOf_X8_spanOf : GoodIn wsX8_setOf (wsV RX8 164 RX8 yX8_spanOf wsX8_spanOf) := goodIn_app (goodIn_of _ (by decide +kernel)) ggX8_setOf_X8_spanOf
set_option maxRecDepth 20000 in
theorem ggX8_setOf_X8_mixedAt : GoodIn wsX8_setOf wsX8_mixedAt := goodIn_r _ [25, 26, 27, 28, 29, 30, 31, 32, 33, 34, 35, 36, 37, 38, 39, 40, 41, 42, 43, 44, 45, 46, 47, 48, 49, 50, 51, 52, 53, 54, 55, 56, 57, 58, 59, 60, 61] (by decide +kernel) (by decide +kernel)
set_option maxRecDepth 20000 in
theorem gX8_setOf_X8_mixedAt : GoodIn wsX8_setOf (wsV RX8 172 RX8 yX8_mixedAt wsX8_mixedAt) := goodIn_app (goodIn_of _ (by decide +kernel)) ggX8_setOf_X8_mixedAt
theorem dX8_setOf_0 : decode cX8_setOf 0 = .ok (.aload_n 0, 1) := by decide +kernel
theorem dX8_setOf_1 : decode cX8_setOf 1 = .ok (.lload_n 1, 1) := by decide +kernel
theorem dX8_setOf_2 : decode cX8_setOf 2 = .ok (.iload_n 3, 1) := by decide +kernel
theorem dX8_setOf_3 : decode cX8_setOf 3 = .ok (.invokevirtual 168, 3) := by decide +kernel
theorem dX8_setOf_6 : decode cX8_setOf 6 = .ok (.ifCond .eq 18, 3) := by decide +kernel
theorem dX8_setOf_9 : decode cX8_setOf 9 = .ok (.iconst 1, 1) := by decide +kernel
theorem dX8_setOf_10 : decode cX8_setOf 10 = .ok (.aload_n 0, 1) := by decide +kernel
theorem dX8_setOf_11 : decode cX8_setOf 11 = .ok (.getfield 26, 3) := by decide +kernel
theorem dX8_setOf_14 : decode cX8_setOf 14 = .ok (.aload_n 0, 1) := by decide +kernel
theorem dX8_setOf_15 : decode cX8_setOf 15 = .ok (.lload_n 1, 1) := by decide +kernel
theorem dX8_setOf_16 : decode cX8_setOf 16 = .ok (.invokevirtual 164, 3) := by decide +kernel
theorem dX8_setOf_19 : decode cX8_setOf 19 = .ok (.iaload, 1) := by decide +kernel
theorem dX8_setOf_20 : decode cX8_setOf 20 = .ok (.ishl, 1) := by decide +kernel
theorem dX8_setOf_21 : decode cX8_setOf 21 = .ok (.goto 20, 3) := by decide +kernel
theorem dX8_setOf_24 : decode cX8_setOf 24 = .ok (.aload_n 0, 1) := by decide +kernel
theorem dX8_setOf_25 : decode cX8_setOf 25 = .ok (.getfield 35, 3) := by decide +kernel
theorem dX8_setOf_28 : decode cX8_setOf 28 = .ok (.sipush 600, 3) := by decide +kernel
theorem dX8_setOf_31 : decode cX8_setOf 31 = .ok (.iload_n 3, 1) := by decide +kernel
theorem dX8_setOf_32 : decode cX8_setOf 32 = .ok (.imul, 1) := by decide +kernel
theorem dX8_setOf_33 : decode cX8_setOf 33 = .ok (.aload_n 0, 1) := by decide +kernel
theorem dX8_setOf_34 : decode cX8_setOf 34 = .ok (.lload_n 1, 1) := by decide +kernel
theorem dX8_setOf_35 : decode cX8_setOf 35 = .ok (.iload_n 3, 1) := by decide +kernel
theorem dX8_setOf_36 : decode cX8_setOf 36 = .ok (.invokevirtual 172, 3) := by decide +kernel
theorem dX8_setOf_39 : decode cX8_setOf 39 = .ok (.iadd, 1) := by decide +kernel
theorem dX8_setOf_40 : decode cX8_setOf 40 = .ok (.iaload, 1) := by decide +kernel
theorem dX8_setOf_41 : decode cX8_setOf 41 = .ok (.ireturn, 1) := by decide +kernel
set_option maxRecDepth 20000 in
theorem ggX8_makeSets_X8_size : GoodIn wsX8_makeSets wsX8_size := goodIn_r _ [9] (by decide +kernel) (by decide +kernel)
set_option maxRecDepth 20000 in
theorem gX8_makeSets_X8_size : GoodIn wsX8_makeSets (va_wsS RX8 102 yX8_size wsX8_size) := goodIn_app (goodIn_of _ (by decide +kernel)) ggX8_makeSets_X8_size
set_option maxRecDepth 20000 in
theorem ggX8_makeSets_X8_mixedAt : GoodIn wsX8_makeSets wsX8_mixedAt := goodIn_r _ [13, 1, 4, 32, 33, 34, 35, 36, 37, 38, 39, 40, 41, 42, 43, 44, 45, 46, 47, 48, 49, 50, 51, 52, 53, 54, 55, 56, 57, 58, 59, 60, 61, 62, 63, 64, 65] (by decide +kernel) (by decide +kernel)
set_option maxRecDepth 20000 in
theorem gX8_makeSets_X8_mixedAt : GoodIn wsX8_makeSets (wsV RX8 172 RX8 yX8_mixedAt wsX8_mixedAt) := goodIn_app (goodIn_of _ (by decide +kernel)) ggX8_makeSets_X8_mixedAt
set_option maxRecDepth 20000 in
theorem ggX8_makeSets_X8_setOf : GoodIn wsX8_makeSets wsX8_setOf := goodIn_r _ [17, 18, 5, 19, 20, 21, 8, 22, 23, 24, 25, 26, 27, 28, 29, 30, 2, 3, 31, 6, 7, 9, 10, 11, 12, 13, 1, 4, 32, 33, 34, 35, 36, 37, 38, 39, 40, 41, 42, 43, 44, 45, 46, 47, 48, 49, 50, 51, 52, 53, 54, 55, 56, 57, 58, 59, 60, 61, 62, 63, 64, 65] (by decide +kernel) (by decide +kernel)
set_option maxRecDepth 20000 in
theorem gX8_makeSets_X8_setOf : GoodIn wsX8_makeSets (wsV RX8 176 RX8 yX8_setOf wsX8_setOf) := goodIn_app (goodIn_of _ (by decide +kernel)) ggX8_makeSets_X8_setOf
theorem dX8_makeSets_0 : decode cX8_makeSets 0 = .ok (.aload_n 0, 1) := by decide +kernel
theorem dX8_makeSets_1 : decode cX8_makeSets 1 = .ok (.getfield 29, 3) := by decide +kernel
theorem dX8_makeSets_4 : decode cX8_makeSets 4 = .ok (.bipush 32, 2) := by decide +kernel
theorem dX8_makeSets_6 : decode cX8_makeSets 6 = .ok (.iconst 0, 1) := by decide +kernel
theorem dX8_makeSets_7 : decode cX8_makeSets 7 = .ok (.iastore, 1) := by decide +kernel
theorem dX8_makeSets_8 : decode cX8_makeSets 8 = .ok (.bipush 31, 2) := by decide +kernel
theorem dX8_makeSets_10 : decode cX8_makeSets 10 = .ok (.istore_n 1, 1) := by decide +kernel
theorem dX8_makeSets_11 : decode cX8_makeSets 11 = .ok (.iload_n 1, 1) := by decide +kernel
theorem dX8_makeSets_12 : decode cX8_makeSets 12 = .ok (.ifCond .lt 160, 3) := by decide +kernel
theorem dX8_makeSets_15 : decode cX8_makeSets 15 = .ok (.aload_n 0, 1) := by decide +kernel
theorem dX8_makeSets_16 : decode cX8_makeSets 16 = .ok (.getfield 29, 3) := by decide +kernel
theorem dX8_makeSets_19 : decode cX8_makeSets 19 = .ok (.iload_n 1, 1) := by decide +kernel
theorem dX8_makeSets_20 : decode cX8_makeSets 20 = .ok (.iconst 0, 1) := by decide +kernel
theorem dX8_makeSets_21 : decode cX8_makeSets 21 = .ok (.iastore, 1) := by decide +kernel
theorem dX8_makeSets_22 : decode cX8_makeSets 22 = .ok (.iconst 1, 1) := by decide +kernel
theorem dX8_makeSets_23 : decode cX8_makeSets 23 = .ok (.istore_n 2, 1) := by decide +kernel
theorem dX8_makeSets_24 : decode cX8_makeSets 24 = .ok (.iload_n 2, 1) := by decide +kernel
theorem dX8_makeSets_25 : decode cX8_makeSets 25 = .ok (.aload_n 0, 1) := by decide +kernel
theorem dX8_makeSets_26 : decode cX8_makeSets 26 = .ok (.getfield 139, 3) := by decide +kernel
theorem dX8_makeSets_29 : decode cX8_makeSets 29 = .ok (.if_icmp .ge 137, 3) := by decide +kernel
theorem dX8_makeSets_32 : decode cX8_makeSets 32 = .ok (.aload_n 0, 1) := by decide +kernel
theorem dX8_makeSets_33 : decode cX8_makeSets 33 = .ok (.getfield 23, 3) := by decide +kernel
theorem dX8_makeSets_36 : decode cX8_makeSets 36 = .ok (.iload_n 2, 1) := by decide +kernel
theorem dX8_makeSets_37 : decode cX8_makeSets 37 = .ok (.laload, 1) := by decide +kernel
theorem dX8_makeSets_38 : decode cX8_makeSets 38 = .ok (.iload_n 1, 1) := by decide +kernel
theorem dX8_makeSets_39 : decode cX8_makeSets 39 = .ok (.invokestatic 102, 3) := by decide +kernel
theorem dX8_makeSets_42 : decode cX8_makeSets 42 = .ok (.ldiv, 1) := by decide +kernel
theorem dX8_makeSets_43 : decode cX8_makeSets 43 = .ok (.iload_n 1, 1) := by decide +kernel
theorem dX8_makeSets_44 : decode cX8_makeSets 44 = .ok (.invokestatic 102, 3) := by decide +kernel
theorem dX8_makeSets_47 : decode cX8_makeSets 47 = .ok (.lmul, 1) := by decide +kernel
theorem dX8_makeSets_48 : decode cX8_makeSets 48 = .ok (.lstore_n 3, 1) := by decide +kernel
theorem dX8_makeSets_49 : decode cX8_makeSets 49 = .ok (.lload_n 3, 1) := by decide +kernel
theorem dX8_makeSets_50 : decode cX8_makeSets 50 = .ok (.aload_n 0, 1) := by decide +kernel
theorem dX8_makeSets_51 : decode cX8_makeSets 51 = .ok (.getfield 23, 3) := by decide +kernel
theorem dX8_makeSets_54 : decode cX8_makeSets 54 = .ok (.iload_n 2, 1) := by decide +kernel
theorem dX8_makeSets_55 : decode cX8_makeSets 55 = .ok (.laload, 1) := by decide +kernel
theorem dX8_makeSets_56 : decode cX8_makeSets 56 = .ok (.lcmp, 1) := by decide +kernel
theorem dX8_makeSets_57 : decode cX8_makeSets 57 = .ok (.ifCond .eq 103, 3) := by decide +kernel
theorem dX8_makeSets_60 : decode cX8_makeSets 60 = .ok (.aload_n 0, 1) := by decide +kernel
theorem dX8_makeSets_61 : decode cX8_makeSets 61 = .ok (.lload_n 3, 1) := by decide +kernel
theorem dX8_makeSets_62 : decode cX8_makeSets 62 = .ok (.iload_n 1, 1) := by decide +kernel
theorem dX8_makeSets_63 : decode cX8_makeSets 63 = .ok (.invokevirtual 172, 3) := by decide +kernel
theorem dX8_makeSets_66 : decode cX8_makeSets 66 = .ok (.iconst (-1), 1) := by decide +kernel
theorem dX8_makeSets_67 : decode cX8_makeSets 67 = .ok (.if_icmp .eq 6, 3) := by decide +kernel
theorem dX8_makeSets_70 : decode cX8_makeSets 70 = .ok (.goto 90, 3) := by decide +kernel
theorem dX8_makeSets_73 : decode cX8_makeSets 73 = .ok (.aload_n 0, 1) := by decide +kernel
theorem dX8_makeSets_74 : decode cX8_makeSets 74 = .ok (.lload_n 3, 1) := by decide +kernel
theorem dX8_makeSets_75 : decode cX8_makeSets 75 = .ok (.iload_n 1, 1) := by decide +kernel
theorem dX8_makeSets_76 : decode cX8_makeSets 76 = .ok (.iconst 1, 1) := by decide +kernel
theorem dX8_makeSets_77 : decode cX8_makeSets 77 = .ok (.iadd, 1) := by decide +kernel
theorem dX8_makeSets_78 : decode cX8_makeSets 78 = .ok (.invokevirtual 176, 3) := by decide +kernel
theorem dX8_makeSets_81 : decode cX8_makeSets 81 = .ok (.istore 5, 2) := by decide +kernel
theorem dX8_makeSets_83 : decode cX8_makeSets 83 = .ok (.aload_n 0, 1) := by decide +kernel
theorem dX8_makeSets_84 : decode cX8_makeSets 84 = .ok (.lload_n 3, 1) := by decide +kernel
theorem dX8_makeSets_85 : decode cX8_makeSets 85 = .ok (.iload_n 1, 1) := by decide +kernel
theorem dX8_makeSets_86 : decode cX8_makeSets 86 = .ok (.iconst 1, 1) := by decide +kernel
theorem dX8_makeSets_87 : decode cX8_makeSets 87 = .ok (.iadd, 1) := by decide +kernel
theorem dX8_makeSets_88 : decode cX8_makeSets 88 = .ok (.invokestatic 102, 3) := by decide +kernel
theorem dX8_makeSets_91 : decode cX8_makeSets 91 = .ok (.ladd, 1) := by decide +kernel
theorem dX8_makeSets_92 : decode cX8_makeSets 92 = .ok (.iload_n 1, 1) := by decide +kernel
theorem dX8_makeSets_93 : decode cX8_makeSets 93 = .ok (.iconst 1, 1) := by decide +kernel
theorem dX8_makeSets_94 : decode cX8_makeSets 94 = .ok (.iadd, 1) := by decide +kernel
theorem dX8_makeSets_95 : decode cX8_makeSets 95 = .ok (.invokevirtual 176, 3) := by decide +kernel
theorem dX8_makeSets_98 : decode cX8_makeSets 98 = .ok (.istore 6, 2) := by decide +kernel
theorem dX8_makeSets_100 : decode cX8_makeSets 100 = .ok (.sipush 600, 3) := by decide +kernel
theorem dX8_makeSets_103 : decode cX8_makeSets 103 = .ok (.iload_n 1, 1) := by decide +kernel
theorem dX8_makeSets_104 : decode cX8_makeSets 104 = .ok (.imul, 1) := by decide +kernel
theorem dX8_makeSets_105 : decode cX8_makeSets 105 = .ok (.aload_n 0, 1) := by decide +kernel
theorem dX8_makeSets_106 : decode cX8_makeSets 106 = .ok (.getfield 29, 3) := by decide +kernel
theorem dX8_makeSets_109 : decode cX8_makeSets 109 = .ok (.iload_n 1, 1) := by decide +kernel
theorem dX8_makeSets_110 : decode cX8_makeSets 110 = .ok (.iaload, 1) := by decide +kernel
theorem dX8_makeSets_111 : decode cX8_makeSets 111 = .ok (.iadd, 1) := by decide +kernel
theorem dX8_makeSets_112 : decode cX8_makeSets 112 = .ok (.istore 7, 2) := by decide +kernel
theorem dX8_makeSets_114 : decode cX8_makeSets 114 = .ok (.aload_n 0, 1) := by decide +kernel
theorem dX8_makeSets_115 : decode cX8_makeSets 115 = .ok (.getfield 32, 3) := by decide +kernel
theorem dX8_makeSets_118 : decode cX8_makeSets 118 = .ok (.iload 7, 2) := by decide +kernel
theorem dX8_makeSets_120 : decode cX8_makeSets 120 = .ok (.lload_n 3, 1) := by decide +kernel
theorem dX8_makeSets_121 : decode cX8_makeSets 121 = .ok (.lastore, 1) := by decide +kernel
theorem dX8_makeSets_122 : decode cX8_makeSets 122 = .ok (.aload_n 0, 1) := by decide +kernel
theorem dX8_makeSets_123 : decode cX8_makeSets 123 = .ok (.getfield 35, 3) := by decide +kernel
theorem dX8_makeSets_126 : decode cX8_makeSets 126 = .ok (.iload 7, 2) := by decide +kernel
theorem dX8_makeSets_128 : decode cX8_makeSets 128 = .ok (.iload 5, 2) := by decide +kernel
theorem dX8_makeSets_130 : decode cX8_makeSets 130 = .ok (.iload 6, 2) := by decide +kernel
theorem dX8_makeSets_132 : decode cX8_makeSets 132 = .ok (.iand, 1) := by decide +kernel
theorem dX8_makeSets_133 : decode cX8_makeSets 133 = .ok (.ifCond .eq 11, 3) := by decide +kernel
theorem dX8_makeSets_136 : decode cX8_makeSets 136 = .ok (.iload 5, 2) := by decide +kernel
theorem dX8_makeSets_138 : decode cX8_makeSets 138 = .ok (.iload 6, 2) := by decide +kernel
theorem dX8_makeSets_140 : decode cX8_makeSets 140 = .ok (.iand, 1) := by decide +kernel
theorem dX8_makeSets_141 : decode cX8_makeSets 141 = .ok (.goto 8, 3) := by decide +kernel
theorem dX8_makeSets_144 : decode cX8_makeSets 144 = .ok (.iload 5, 2) := by decide +kernel
theorem dX8_makeSets_146 : decode cX8_makeSets 146 = .ok (.iload 6, 2) := by decide +kernel
theorem dX8_makeSets_148 : decode cX8_makeSets 148 = .ok (.ior, 1) := by decide +kernel
theorem dX8_makeSets_149 : decode cX8_makeSets 149 = .ok (.iastore, 1) := by decide +kernel
theorem dX8_makeSets_150 : decode cX8_makeSets 150 = .ok (.aload_n 0, 1) := by decide +kernel
theorem dX8_makeSets_151 : decode cX8_makeSets 151 = .ok (.getfield 29, 3) := by decide +kernel
theorem dX8_makeSets_154 : decode cX8_makeSets 154 = .ok (.iload_n 1, 1) := by decide +kernel
theorem dX8_makeSets_155 : decode cX8_makeSets 155 = .ok (.dup2, 1) := by decide +kernel
theorem dX8_makeSets_156 : decode cX8_makeSets 156 = .ok (.iaload, 1) := by decide +kernel
theorem dX8_makeSets_157 : decode cX8_makeSets 157 = .ok (.iconst 1, 1) := by decide +kernel
theorem dX8_makeSets_158 : decode cX8_makeSets 158 = .ok (.iadd, 1) := by decide +kernel
theorem dX8_makeSets_159 : decode cX8_makeSets 159 = .ok (.iastore, 1) := by decide +kernel
theorem dX8_makeSets_160 : decode cX8_makeSets 160 = .ok (.iinc 2 1, 3) := by decide +kernel
theorem dX8_makeSets_163 : decode cX8_makeSets 163 = .ok (.goto (-139), 3) := by decide +kernel
theorem dX8_makeSets_166 : decode cX8_makeSets 166 = .ok (.iinc 1 (-1), 3) := by decide +kernel
theorem dX8_makeSets_169 : decode cX8_makeSets 169 = .ok (.goto (-158), 3) := by decide +kernel
theorem dX8_makeSets_172 : decode cX8_makeSets 172 = .ok (.return_, 1) := by decide +kernel
set_option maxRecDepth 20000 in
theorem ggX8_set_X8_isBook : GoodIn wsX8_set wsX8_isBook := goodIn_r _ [4, 5, 6, 3, 7] (by decide +kernel) (by decide +kernel)
set_option maxRecDepth 20000 in
theorem gX8_set_X8_isBook : GoodIn wsX8_set (va_wsS RX8 109 yX8_isBook wsX8_isBook) := goodIn_app (goodIn_of _ (by decide +kernel)) ggX8_set_X8_isBook
set_option maxRecDepth 20000 in
theorem ggX8_set_X8_isBeginning : GoodIn wsX8_set wsX8_isBeginning := goodIn_r _ [10, 5, 6, 3, 7, 11, 12, 13, 14, 15, 16, 17] (by decide +kernel) (by decide +kernel)
set_option maxRecDepth 20000 in
theorem gX8_set_X8_isBeginning : GoodIn wsX8_set (va_wsS RX8 113 yX8_isBeginning wsX8_isBeginning) := goodIn_app (goodIn_of _ (by decide +kernel)) ggX8_set_X8_isBeginning
set_option maxRecDepth 20000 in
theorem ggX8_set_X8_makeSpans : GoodIn wsX8_set wsX8_makeSpans := goodIn_r _ [21, 22, 23, 24, 25, 26, 27, 3, 28, 29, 30, 31, 32, 33, 34, 35, 36, 15, 16, 17, 37, 38, 39, 40, 41, 42, 43, 44, 45, 46, 47, 48, 49, 50, 51, 52, 80, 81, 82, 83, 84, 85, 86, 87, 88, 89, 90, 91, 92, 93, 94, 95, 96, 97, 98, 99, 100, 101, 102, 103, 104, 105, 106, 107, 108, 109, 110, 111, 112, 113] (by decide +kernel) (by decide +kernel)
set_option maxRecDepth 20000 in
theorem gX8_set_X8_makeSpans : GoodIn wsX8_set (wsV RX8 154 RX8 yX8_makeSpans wsX8_makeSpans) := goodIn_app (goodIn_of _ (by decide +kernel)) ggX8_set_X8_makeSpans
set_option maxRecDepth 20000 in
theorem ggX8_set_X8_makeSets : GoodIn wsX8_set wsX8_makeSets := goodIn_r _ [56, 57, 22, 23, 58, 59, 15, 16, 3, 17, 60, 61, 62, 63, 64, 65, 66, 67, 24, 68, 69, 70, 71, 72, 73, 74, 75, 76, 77, 78, 79, 29, 80, 81, 82, 83, 84, 85, 86, 87, 88, 89, 90, 91, 92, 93, 94, 95, 96, 97, 98, 99, 100, 101, 102, 103, 104, 105, 106, 107, 108, 109, 110, 111, 112, 113] (by decide +kernel) (by decide +kernel)
set_option maxRecDepth 20000 in
theorem gX8_set_X8_makeSets : GoodIn wsX8_set (wsV RX8 179 RX8 yX8_makeSets wsX8_makeSets) := goodIn_app (goodIn_of _ (by decide +kernel)) ggX8_set_X8_makeSets
set_option maxRecDepth 20000 in
theorem ggX8_set_X8_number : GoodIn wsX8_set wsX8_number := goodIn_r _ [13, 14] (by decide +kernel) (by decide +kernel)
set_option maxRecDepth 20000 in
theorem gX8_set_X8_number : GoodIn wsX8_set (va_wsS RX8 98 yX8_number wsX8_number) := goodIn_app (goodIn_of _ (by decide +kernel)) ggX8_set_X8_number
set_option maxRecDepth 20000 in
theorem ggX8_set_X8_setOf : GoodIn wsX8_set wsX8_setOf := goodIn_r _ [67, 24, 59, 68, 69, 70, 3, 71, 72, 73, 74, 75, 76, 77, 78, 79, 22, 23, 29, 15, 16, 17, 60, 61, 62, 63, 57, 58, 80, 81, 82, 83, 84, 85, 86, 87, 88, 89, 90, 91, 92, 93, 94, 95, 96, 97, 98, 99, 100, 101, 102, 103, 104, 105, 106, 107, 108, 109, 110, 111, 112, 113] (by decide +kernel) (by decide +kernel)
set_option maxRecDepth 20000 in
theorem gX8_set_X8_setOf : GoodIn wsX8_set (wsV RX8 176 RX8 yX8_setOf wsX8_setOf) := goodIn_app (goodIn_of _ (by decide +kernel)) ggX8_set_X8_setOf
theorem dX8_set_0 : decode cX8_set 0 = .ok (.iload_n 1, 1) := by decide +kernel
theorem dX8_set_1 : decode cX8_set 1 = .ok (.invokestatic 109, 3) := by decide +kernel
theorem dX8_set_4 : decode cX8_set 4 = .ok (.ifCond .eq 11, 3) := by decide +kernel
theorem dX8_set_7 : decode cX8_set 7 = .ok (.iload_n 2, 1) := by decide +kernel
theorem dX8_set_8 : decode cX8_set 8 = .ok (.iload_n 3, 1) := by decide +kernel
theorem dX8_set_9 : decode cX8_set 9 = .ok (.invokestatic 113, 3) := by decide +kernel
theorem dX8_set_12 : decode cX8_set 12 = .ok (.ifCond .ne 5, 3) := by decide +kernel
theorem dX8_set_15 : decode cX8_set 15 = .ok (.iconst (-1), 1) := by decide +kernel
theorem dX8_set_16 : decode cX8_set 16 = .ok (.ireturn, 1) := by decide +kernel
theorem dX8_set_17 : decode cX8_set 17 = .ok (.aload_n 0, 1) := by decide +kernel
theorem dX8_set_18 : decode cX8_set 18 = .ok (.iconst 3, 1) := by decide +kernel
theorem dX8_set_19 : decode cX8_set 19 = .ok (.iload_n 1, 1) := by decide +kernel
theorem dX8_set_20 : decode cX8_set 20 = .ok (.iload_n 1, 1) := by decide +kernel
theorem dX8_set_21 : decode cX8_set 21 = .ok (.invokevirtual 154, 3) := by decide +kernel
theorem dX8_set_24 : decode cX8_set 24 = .ok (.aload_n 0, 1) := by decide +kernel
theorem dX8_set_25 : decode cX8_set 25 = .ok (.invokevirtual 179, 3) := by decide +kernel
theorem dX8_set_28 : decode cX8_set 28 = .ok (.aload_n 0, 1) := by decide +kernel
theorem dX8_set_29 : decode cX8_set 29 = .ok (.iload_n 2, 1) := by decide +kernel
theorem dX8_set_30 : decode cX8_set 30 = .ok (.invokestatic 98, 3) := by decide +kernel
theorem dX8_set_33 : decode cX8_set 33 = .ok (.iload_n 3, 1) := by decide +kernel
theorem dX8_set_34 : decode cX8_set 34 = .ok (.invokevirtual 176, 3) := by decide +kernel
theorem dX8_set_37 : decode cX8_set 37 = .ok (.ireturn, 1) := by decide +kernel
theorem dX8_lowest_0 : decode cX8_lowest 0 = .ok (.iconst 0, 1) := by decide +kernel
theorem dX8_lowest_1 : decode cX8_lowest 1 = .ok (.istore_n 1, 1) := by decide +kernel
theorem dX8_lowest_2 : decode cX8_lowest 2 = .ok (.iload_n 0, 1) := by decide +kernel
theorem dX8_lowest_3 : decode cX8_lowest 3 = .ok (.iload_n 1, 1) := by decide +kernel
theorem dX8_lowest_4 : decode cX8_lowest 4 = .ok (.ishr, 1) := by decide +kernel
theorem dX8_lowest_5 : decode cX8_lowest 5 = .ok (.iconst 1, 1) := by decide +kernel
theorem dX8_lowest_6 : decode cX8_lowest 6 = .ok (.iand, 1) := by decide +kernel
theorem dX8_lowest_7 : decode cX8_lowest 7 = .ok (.ifCond .ne 9, 3) := by decide +kernel
theorem dX8_lowest_10 : decode cX8_lowest 10 = .ok (.iinc 1 1, 3) := by decide +kernel
theorem dX8_lowest_13 : decode cX8_lowest 13 = .ok (.goto (-11), 3) := by decide +kernel
theorem dX8_lowest_16 : decode cX8_lowest 16 = .ok (.iload_n 1, 1) := by decide +kernel
theorem dX8_lowest_17 : decode cX8_lowest 17 = .ok (.ireturn, 1) := by decide +kernel
set_option maxRecDepth 20000 in
theorem ggX8_makeLeast_X8_makeSets : GoodIn wsX8_makeLeast wsX8_makeSets := goodIn_r _ [14, 15, 16, 17, 18, 19, 20, 21, 13, 22, 23, 24, 25, 26, 27, 28, 29, 30, 8, 31, 32, 33, 34, 35, 36, 37, 38, 39, 40, 41, 42, 43, 47, 48, 49, 50, 51, 52, 53, 54, 55, 56, 57, 58, 59, 60, 61, 62, 63, 64, 65, 66, 67, 68, 69, 70, 71, 72, 73, 74, 75, 76, 77, 78, 79, 80] (by decide +kernel) (by decide +kernel)
set_option maxRecDepth 20000 in
theorem gX8_makeLeast_X8_makeSets : GoodIn wsX8_makeLeast (wsV RX8 179 RX8 yX8_makeSets wsX8_makeSets) := goodIn_app (goodIn_of _ (by decide +kernel)) ggX8_makeLeast_X8_makeSets
set_option maxRecDepth 20000 in
theorem ggX8_makeLeast_X8_setOf : GoodIn wsX8_makeLeast wsX8_setOf := goodIn_r _ [30, 8, 19, 31, 32, 33, 13, 34, 35, 36, 37, 38, 39, 40, 41, 42, 16, 17, 43, 20, 21, 22, 23, 24, 25, 26, 15, 18, 47, 48, 49, 50, 51, 52, 53, 54, 55, 56, 57, 58, 59, 60, 61, 62, 63, 64, 65, 66, 67, 68, 69, 70, 71, 72, 73, 74, 75, 76, 77, 78, 79, 80] (by decide +kernel) (by decide +kernel)
set_option maxRecDepth 20000 in
theorem gX8_makeLeast_X8_setOf : GoodIn wsX8_makeLeast (wsV RX8 176 RX8 yX8_setOf wsX8_setOf) := goodIn_app (goodIn_of _ (by decide +kernel)) ggX8_makeLeast_X8_setOf
set_option maxRecDepth 20000 in
theorem ggX8_makeLeast_X8_lowest : GoodIn wsX8_makeLeast wsX8_lowest := goodIn_r _ [46] (by decide +kernel) (by decide +kernel)
set_option maxRecDepth 20000 in
theorem gX8_makeLeast_X8_lowest : GoodIn wsX8_makeLeast (va_wsS RX8 182 yX8_lowest wsX8_lowest) := goodIn_app (goodIn_of _ (by decide +kernel)) ggX8_makeLeast_X8_lowest
set_option maxRecDepth 20000 in
theorem ggX8_makeLeast_X8_isOne : GoodIn wsX8_makeLeast wsX8_isOne := goodIn_r _ [34, 35, 36, 37, 13, 38, 39, 40, 41, 42, 16, 17, 43, 20, 21, 22, 47, 48, 49, 50, 51, 52, 53, 54, 55, 56, 57, 58, 59, 60, 61, 62, 63, 64, 65, 66, 67, 68, 69, 70, 71, 72, 73, 74, 75, 76, 77, 78, 79, 80] (by decide +kernel) (by decide +kernel)
set_option maxRecDepth 20000 in
theorem gX8_makeLeast_X8_isOne : GoodIn wsX8_makeLeast (wsV RX8 168 RX8 yX8_isOne wsX8_isOne) := goodIn_app (goodIn_of _ (by decide +kernel)) ggX8_makeLeast_X8_isOne
set_option maxRecDepth 20000 in
theorem ggX8_makeLeast_X8_size : GoodIn wsX8_makeLeast wsX8_size := goodIn_r _ [22] (by decide +kernel) (by decide +kernel)
set_option maxRecDepth 20000 in
theorem gX8_makeLeast_X8_size : GoodIn wsX8_makeLeast (va_wsS RX8 102 yX8_size wsX8_size) := goodIn_app (goodIn_of _ (by decide +kernel)) ggX8_makeLeast_X8_size
set_option maxRecDepth 20000 in
theorem ggX8_makeLeast_X8_spanOf : GoodIn wsX8_makeLeast wsX8_spanOf := goodIn_r _ [38, 39, 40, 41, 13, 42, 16, 17, 43, 47, 48, 49, 50, 51, 52, 53, 54, 55, 56, 57, 58, 59, 60, 61, 62, 63, 64, 65, 66, 67, 68, 69, 70, 71, 72, 73, 74, 75, 76, 77, 78, 79, 80] (by decide +kernel) (by decide +kernel)
set_option maxRecDepth 20000 in
theorem gX8_makeLeast_X8_spanOf : GoodIn wsX8_makeLeast (wsV RX8 164 RX8 yX8_spanOf wsX8_spanOf) := goodIn_app (goodIn_of _ (by decide +kernel)) ggX8_makeLeast_X8_spanOf
theorem dX8_makeLeast_0 : decode cX8_makeLeast 0 = .ok (.aload_n 0, 1) := by decide +kernel
theorem dX8_makeLeast_1 : decode cX8_makeLeast 1 = .ok (.invokevirtual 179, 3) := by decide +kernel
theorem dX8_makeLeast_4 : decode cX8_makeLeast 4 = .ok (.iconst 0, 1) := by decide +kernel
theorem dX8_makeLeast_5 : decode cX8_makeLeast 5 = .ok (.istore_n 1, 1) := by decide +kernel
theorem dX8_makeLeast_6 : decode cX8_makeLeast 6 = .ok (.iconst 1, 1) := by decide +kernel
theorem dX8_makeLeast_7 : decode cX8_makeLeast 7 = .ok (.istore_n 2, 1) := by decide +kernel
theorem dX8_makeLeast_8 : decode cX8_makeLeast 8 = .ok (.aload_n 0, 1) := by decide +kernel
theorem dX8_makeLeast_9 : decode cX8_makeLeast 9 = .ok (.getfield 38, 3) := by decide +kernel
theorem dX8_makeLeast_12 : decode cX8_makeLeast 12 = .ok (.iconst 0, 1) := by decide +kernel
theorem dX8_makeLeast_13 : decode cX8_makeLeast 13 = .ok (.lconst 0, 1) := by decide +kernel
theorem dX8_makeLeast_14 : decode cX8_makeLeast 14 = .ok (.lastore, 1) := by decide +kernel
theorem dX8_makeLeast_15 : decode cX8_makeLeast 15 = .ok (.aload_n 0, 1) := by decide +kernel
theorem dX8_makeLeast_16 : decode cX8_makeLeast 16 = .ok (.getfield 41, 3) := by decide +kernel
theorem dX8_makeLeast_19 : decode cX8_makeLeast 19 = .ok (.iconst 0, 1) := by decide +kernel
theorem dX8_makeLeast_20 : decode cX8_makeLeast 20 = .ok (.bipush 16, 2) := by decide +kernel
theorem dX8_makeLeast_22 : decode cX8_makeLeast 22 = .ok (.iastore, 1) := by decide +kernel
theorem dX8_makeLeast_23 : decode cX8_makeLeast 23 = .ok (.iconst 0, 1) := by decide +kernel
theorem dX8_makeLeast_24 : decode cX8_makeLeast 24 = .ok (.istore_n 3, 1) := by decide +kernel
theorem dX8_makeLeast_25 : decode cX8_makeLeast 25 = .ok (.iload_n 3, 1) := by decide +kernel
theorem dX8_makeLeast_26 : decode cX8_makeLeast 26 = .ok (.bipush 32, 2) := by decide +kernel
theorem dX8_makeLeast_28 : decode cX8_makeLeast 28 = .ok (.if_icmp .gt 298, 3) := by decide +kernel
theorem dX8_makeLeast_31 : decode cX8_makeLeast 31 = .ok (.iload_n 2, 1) := by decide +kernel
theorem dX8_makeLeast_32 : decode cX8_makeLeast 32 = .ok (.ifCond .le 294, 3) := by decide +kernel
theorem dX8_makeLeast_35 : decode cX8_makeLeast 35 = .ok (.iconst 0, 1) := by decide +kernel
theorem dX8_makeLeast_36 : decode cX8_makeLeast 36 = .ok (.istore 4, 2) := by decide +kernel
theorem dX8_makeLeast_38 : decode cX8_makeLeast 38 = .ok (.iconst 0, 1) := by decide +kernel
theorem dX8_makeLeast_39 : decode cX8_makeLeast 39 = .ok (.istore 5, 2) := by decide +kernel
theorem dX8_makeLeast_41 : decode cX8_makeLeast 41 = .ok (.iload 5, 2) := by decide +kernel
theorem dX8_makeLeast_43 : decode cX8_makeLeast 43 = .ok (.iload_n 2, 1) := by decide +kernel
theorem dX8_makeLeast_44 : decode cX8_makeLeast 44 = .ok (.if_icmp .ge 183, 3) := by decide +kernel
theorem dX8_makeLeast_47 : decode cX8_makeLeast 47 = .ok (.aload_n 0, 1) := by decide +kernel
theorem dX8_makeLeast_48 : decode cX8_makeLeast 48 = .ok (.aload_n 0, 1) := by decide +kernel
theorem dX8_makeLeast_49 : decode cX8_makeLeast 49 = .ok (.getfield 38, 3) := by decide +kernel
theorem dX8_makeLeast_52 : decode cX8_makeLeast 52 = .ok (.iload 5, 2) := by decide +kernel
theorem dX8_makeLeast_54 : decode cX8_makeLeast 54 = .ok (.laload, 1) := by decide +kernel
theorem dX8_makeLeast_55 : decode cX8_makeLeast 55 = .ok (.iload_n 3, 1) := by decide +kernel
theorem dX8_makeLeast_56 : decode cX8_makeLeast 56 = .ok (.invokevirtual 176, 3) := by decide +kernel
theorem dX8_makeLeast_59 : decode cX8_makeLeast 59 = .ok (.istore 6, 2) := by decide +kernel
theorem dX8_makeLeast_61 : decode cX8_makeLeast 61 = .ok (.iload 6, 2) := by decide +kernel
theorem dX8_makeLeast_63 : decode cX8_makeLeast 63 = .ok (.aload_n 0, 1) := by decide +kernel
theorem dX8_makeLeast_64 : decode cX8_makeLeast 64 = .ok (.getfield 41, 3) := by decide +kernel
theorem dX8_makeLeast_67 : decode cX8_makeLeast 67 = .ok (.iload 5, 2) := by decide +kernel
theorem dX8_makeLeast_69 : decode cX8_makeLeast 69 = .ok (.iaload, 1) := by decide +kernel
theorem dX8_makeLeast_70 : decode cX8_makeLeast 70 = .ok (.ishr, 1) := by decide +kernel
theorem dX8_makeLeast_71 : decode cX8_makeLeast 71 = .ok (.iconst 1, 1) := by decide +kernel
theorem dX8_makeLeast_72 : decode cX8_makeLeast 72 = .ok (.iand, 1) := by decide +kernel
theorem dX8_makeLeast_73 : decode cX8_makeLeast 73 = .ok (.iconst 1, 1) := by decide +kernel
theorem dX8_makeLeast_74 : decode cX8_makeLeast 74 = .ok (.if_icmp .ne 13, 3) := by decide +kernel
theorem dX8_makeLeast_77 : decode cX8_makeLeast 77 = .ok (.aload_n 0, 1) := by decide +kernel
theorem dX8_makeLeast_78 : decode cX8_makeLeast 78 = .ok (.getfield 41, 3) := by decide +kernel
theorem dX8_makeLeast_81 : decode cX8_makeLeast 81 = .ok (.iload 5, 2) := by decide +kernel
theorem dX8_makeLeast_83 : decode cX8_makeLeast 83 = .ok (.iaload, 1) := by decide +kernel
theorem dX8_makeLeast_84 : decode cX8_makeLeast 84 = .ok (.goto 8, 3) := by decide +kernel
theorem dX8_makeLeast_87 : decode cX8_makeLeast 87 = .ok (.iload 6, 2) := by decide +kernel
theorem dX8_makeLeast_89 : decode cX8_makeLeast 89 = .ok (.invokestatic 182, 3) := by decide +kernel
theorem dX8_makeLeast_92 : decode cX8_makeLeast 92 = .ok (.istore 7, 2) := by decide +kernel
theorem dX8_makeLeast_94 : decode cX8_makeLeast 94 = .ok (.iload 7, 2) := by decide +kernel
theorem dX8_makeLeast_96 : decode cX8_makeLeast 96 = .ok (.aload_n 0, 1) := by decide +kernel
theorem dX8_makeLeast_97 : decode cX8_makeLeast 97 = .ok (.getfield 41, 3) := by decide +kernel
theorem dX8_makeLeast_100 : decode cX8_makeLeast 100 = .ok (.iload 5, 2) := by decide +kernel
theorem dX8_makeLeast_102 : decode cX8_makeLeast 102 = .ok (.iaload, 1) := by decide +kernel
theorem dX8_makeLeast_103 : decode cX8_makeLeast 103 = .ok (.if_icmp .eq 40, 3) := by decide +kernel
theorem dX8_makeLeast_106 : decode cX8_makeLeast 106 = .ok (.iload_n 1, 1) := by decide +kernel
theorem dX8_makeLeast_107 : decode cX8_makeLeast 107 = .ok (.bipush 64, 2) := by decide +kernel
theorem dX8_makeLeast_109 : decode cX8_makeLeast 109 = .ok (.if_icmp .ge 31, 3) := by decide +kernel
theorem dX8_makeLeast_112 : decode cX8_makeLeast 112 = .ok (.aload_n 0, 1) := by decide +kernel
theorem dX8_makeLeast_113 : decode cX8_makeLeast 113 = .ok (.getfield 50, 3) := by decide +kernel
theorem dX8_makeLeast_116 : decode cX8_makeLeast 116 = .ok (.iload_n 1, 1) := by decide +kernel
theorem dX8_makeLeast_117 : decode cX8_makeLeast 117 = .ok (.aload_n 0, 1) := by decide +kernel
theorem dX8_makeLeast_118 : decode cX8_makeLeast 118 = .ok (.getfield 38, 3) := by decide +kernel
theorem dX8_makeLeast_121 : decode cX8_makeLeast 121 = .ok (.iload 5, 2) := by decide +kernel
theorem dX8_makeLeast_123 : decode cX8_makeLeast 123 = .ok (.laload, 1) := by decide +kernel
theorem dX8_makeLeast_124 : decode cX8_makeLeast 124 = .ok (.lastore, 1) := by decide +kernel
theorem dX8_makeLeast_125 : decode cX8_makeLeast 125 = .ok (.aload_n 0, 1) := by decide +kernel
theorem dX8_makeLeast_126 : decode cX8_makeLeast 126 = .ok (.getfield 53, 3) := by decide +kernel
theorem dX8_makeLeast_129 : decode cX8_makeLeast 129 = .ok (.iload_n 1, 1) := by decide +kernel
theorem dX8_makeLeast_130 : decode cX8_makeLeast 130 = .ok (.iload_n 3, 1) := by decide +kernel
theorem dX8_makeLeast_131 : decode cX8_makeLeast 131 = .ok (.iastore, 1) := by decide +kernel
theorem dX8_makeLeast_132 : decode cX8_makeLeast 132 = .ok (.aload_n 0, 1) := by decide +kernel
theorem dX8_makeLeast_133 : decode cX8_makeLeast 133 = .ok (.getfield 56, 3) := by decide +kernel
theorem dX8_makeLeast_136 : decode cX8_makeLeast 136 = .ok (.iload_n 1, 1) := by decide +kernel
theorem dX8_makeLeast_137 : decode cX8_makeLeast 137 = .ok (.iload 7, 2) := by decide +kernel
theorem dX8_makeLeast_139 : decode cX8_makeLeast 139 = .ok (.iastore, 1) := by decide +kernel
theorem dX8_makeLeast_140 : decode cX8_makeLeast 140 = .ok (.iinc 1 1, 3) := by decide +kernel
theorem dX8_makeLeast_143 : decode cX8_makeLeast 143 = .ok (.aload_n 0, 1) := by decide +kernel
theorem dX8_makeLeast_144 : decode cX8_makeLeast 144 = .ok (.aload_n 0, 1) := by decide +kernel
theorem dX8_makeLeast_145 : decode cX8_makeLeast 145 = .ok (.getfield 38, 3) := by decide +kernel
theorem dX8_makeLeast_148 : decode cX8_makeLeast 148 = .ok (.iload 5, 2) := by decide +kernel
theorem dX8_makeLeast_150 : decode cX8_makeLeast 150 = .ok (.laload, 1) := by decide +kernel
theorem dX8_makeLeast_151 : decode cX8_makeLeast 151 = .ok (.iload_n 3, 1) := by decide +kernel
theorem dX8_makeLeast_152 : decode cX8_makeLeast 152 = .ok (.invokevirtual 168, 3) := by decide +kernel
theorem dX8_makeLeast_155 : decode cX8_makeLeast 155 = .ok (.ifCond .eq 6, 3) := by decide +kernel
theorem dX8_makeLeast_158 : decode cX8_makeLeast 158 = .ok (.goto 63, 3) := by decide +kernel
theorem dX8_makeLeast_161 : decode cX8_makeLeast 161 = .ok (.aload_n 0, 1) := by decide +kernel
theorem dX8_makeLeast_162 : decode cX8_makeLeast 162 = .ok (.getfield 44, 3) := by decide +kernel
theorem dX8_makeLeast_165 : decode cX8_makeLeast 165 = .ok (.iload 4, 2) := by decide +kernel
theorem dX8_makeLeast_167 : decode cX8_makeLeast 167 = .ok (.aload_n 0, 1) := by decide +kernel
theorem dX8_makeLeast_168 : decode cX8_makeLeast 168 = .ok (.getfield 38, 3) := by decide +kernel
theorem dX8_makeLeast_171 : decode cX8_makeLeast 171 = .ok (.iload 5, 2) := by decide +kernel
theorem dX8_makeLeast_173 : decode cX8_makeLeast 173 = .ok (.laload, 1) := by decide +kernel
theorem dX8_makeLeast_174 : decode cX8_makeLeast 174 = .ok (.lastore, 1) := by decide +kernel
theorem dX8_makeLeast_175 : decode cX8_makeLeast 175 = .ok (.aload_n 0, 1) := by decide +kernel
theorem dX8_makeLeast_176 : decode cX8_makeLeast 176 = .ok (.getfield 47, 3) := by decide +kernel
theorem dX8_makeLeast_179 : decode cX8_makeLeast 179 = .ok (.iload 4, 2) := by decide +kernel
theorem dX8_makeLeast_181 : decode cX8_makeLeast 181 = .ok (.iload 7, 2) := by decide +kernel
theorem dX8_makeLeast_183 : decode cX8_makeLeast 183 = .ok (.iastore, 1) := by decide +kernel
theorem dX8_makeLeast_184 : decode cX8_makeLeast 184 = .ok (.aload_n 0, 1) := by decide +kernel
theorem dX8_makeLeast_185 : decode cX8_makeLeast 185 = .ok (.getfield 44, 3) := by decide +kernel
theorem dX8_makeLeast_188 : decode cX8_makeLeast 188 = .ok (.iload 4, 2) := by decide +kernel
theorem dX8_makeLeast_190 : decode cX8_makeLeast 190 = .ok (.iconst 1, 1) := by decide +kernel
theorem dX8_makeLeast_191 : decode cX8_makeLeast 191 = .ok (.iadd, 1) := by decide +kernel
theorem dX8_makeLeast_192 : decode cX8_makeLeast 192 = .ok (.aload_n 0, 1) := by decide +kernel
theorem dX8_makeLeast_193 : decode cX8_makeLeast 193 = .ok (.getfield 38, 3) := by decide +kernel
theorem dX8_makeLeast_196 : decode cX8_makeLeast 196 = .ok (.iload 5, 2) := by decide +kernel
theorem dX8_makeLeast_198 : decode cX8_makeLeast 198 = .ok (.laload, 1) := by decide +kernel
theorem dX8_makeLeast_199 : decode cX8_makeLeast 199 = .ok (.iload_n 3, 1) := by decide +kernel
theorem dX8_makeLeast_200 : decode cX8_makeLeast 200 = .ok (.iconst 1, 1) := by decide +kernel
theorem dX8_makeLeast_201 : decode cX8_makeLeast 201 = .ok (.iadd, 1) := by decide +kernel
theorem dX8_makeLeast_202 : decode cX8_makeLeast 202 = .ok (.invokestatic 102, 3) := by decide +kernel
theorem dX8_makeLeast_205 : decode cX8_makeLeast 205 = .ok (.ladd, 1) := by decide +kernel
theorem dX8_makeLeast_206 : decode cX8_makeLeast 206 = .ok (.lastore, 1) := by decide +kernel
theorem dX8_makeLeast_207 : decode cX8_makeLeast 207 = .ok (.aload_n 0, 1) := by decide +kernel
theorem dX8_makeLeast_208 : decode cX8_makeLeast 208 = .ok (.getfield 47, 3) := by decide +kernel
theorem dX8_makeLeast_211 : decode cX8_makeLeast 211 = .ok (.iload 4, 2) := by decide +kernel
theorem dX8_makeLeast_213 : decode cX8_makeLeast 213 = .ok (.iconst 1, 1) := by decide +kernel
theorem dX8_makeLeast_214 : decode cX8_makeLeast 214 = .ok (.iadd, 1) := by decide +kernel
theorem dX8_makeLeast_215 : decode cX8_makeLeast 215 = .ok (.iload 7, 2) := by decide +kernel
theorem dX8_makeLeast_217 : decode cX8_makeLeast 217 = .ok (.iastore, 1) := by decide +kernel
theorem dX8_makeLeast_218 : decode cX8_makeLeast 218 = .ok (.iinc 4 2, 3) := by decide +kernel
theorem dX8_makeLeast_221 : decode cX8_makeLeast 221 = .ok (.iinc 5 1, 3) := by decide +kernel
theorem dX8_makeLeast_224 : decode cX8_makeLeast 224 = .ok (.goto (-183), 3) := by decide +kernel
theorem dX8_makeLeast_227 : decode cX8_makeLeast 227 = .ok (.iconst 0, 1) := by decide +kernel
theorem dX8_makeLeast_228 : decode cX8_makeLeast 228 = .ok (.istore_n 2, 1) := by decide +kernel
theorem dX8_makeLeast_229 : decode cX8_makeLeast 229 = .ok (.iconst 0, 1) := by decide +kernel
theorem dX8_makeLeast_230 : decode cX8_makeLeast 230 = .ok (.istore 5, 2) := by decide +kernel
theorem dX8_makeLeast_232 : decode cX8_makeLeast 232 = .ok (.iload 5, 2) := by decide +kernel
theorem dX8_makeLeast_234 : decode cX8_makeLeast 234 = .ok (.iload 4, 2) := by decide +kernel
theorem dX8_makeLeast_236 : decode cX8_makeLeast 236 = .ok (.if_icmp .ge 84, 3) := by decide +kernel
theorem dX8_makeLeast_239 : decode cX8_makeLeast 239 = .ok (.aload_n 0, 1) := by decide +kernel
theorem dX8_makeLeast_240 : decode cX8_makeLeast 240 = .ok (.aload_n 0, 1) := by decide +kernel
theorem dX8_makeLeast_241 : decode cX8_makeLeast 241 = .ok (.getfield 44, 3) := by decide +kernel
theorem dX8_makeLeast_244 : decode cX8_makeLeast 244 = .ok (.iload 5, 2) := by decide +kernel
theorem dX8_makeLeast_246 : decode cX8_makeLeast 246 = .ok (.laload, 1) := by decide +kernel
theorem dX8_makeLeast_247 : decode cX8_makeLeast 247 = .ok (.iload_n 3, 1) := by decide +kernel
theorem dX8_makeLeast_248 : decode cX8_makeLeast 248 = .ok (.iconst 1, 1) := by decide +kernel
theorem dX8_makeLeast_249 : decode cX8_makeLeast 249 = .ok (.iadd, 1) := by decide +kernel
theorem dX8_makeLeast_250 : decode cX8_makeLeast 250 = .ok (.invokevirtual 168, 3) := by decide +kernel
theorem dX8_makeLeast_253 : decode cX8_makeLeast 253 = .ok (.ifCond .eq 32, 3) := by decide +kernel
theorem dX8_makeLeast_256 : decode cX8_makeLeast 256 = .ok (.aload_n 0, 1) := by decide +kernel
theorem dX8_makeLeast_257 : decode cX8_makeLeast 257 = .ok (.getfield 26, 3) := by decide +kernel
theorem dX8_makeLeast_260 : decode cX8_makeLeast 260 = .ok (.aload_n 0, 1) := by decide +kernel
theorem dX8_makeLeast_261 : decode cX8_makeLeast 261 = .ok (.aload_n 0, 1) := by decide +kernel
theorem dX8_makeLeast_262 : decode cX8_makeLeast 262 = .ok (.getfield 44, 3) := by decide +kernel
theorem dX8_makeLeast_265 : decode cX8_makeLeast 265 = .ok (.iload 5, 2) := by decide +kernel
theorem dX8_makeLeast_267 : decode cX8_makeLeast 267 = .ok (.laload, 1) := by decide +kernel
theorem dX8_makeLeast_268 : decode cX8_makeLeast 268 = .ok (.invokevirtual 164, 3) := by decide +kernel
theorem dX8_makeLeast_271 : decode cX8_makeLeast 271 = .ok (.iaload, 1) := by decide +kernel
theorem dX8_makeLeast_272 : decode cX8_makeLeast 272 = .ok (.aload_n 0, 1) := by decide +kernel
theorem dX8_makeLeast_273 : decode cX8_makeLeast 273 = .ok (.getfield 47, 3) := by decide +kernel
theorem dX8_makeLeast_276 : decode cX8_makeLeast 276 = .ok (.iload 5, 2) := by decide +kernel
theorem dX8_makeLeast_278 : decode cX8_makeLeast 278 = .ok (.iaload, 1) := by decide +kernel
theorem dX8_makeLeast_279 : decode cX8_makeLeast 279 = .ok (.if_icmp .ne 6, 3) := by decide +kernel
theorem dX8_makeLeast_282 : decode cX8_makeLeast 282 = .ok (.goto 32, 3) := by decide +kernel
theorem dX8_makeLeast_285 : decode cX8_makeLeast 285 = .ok (.aload_n 0, 1) := by decide +kernel
theorem dX8_makeLeast_286 : decode cX8_makeLeast 286 = .ok (.getfield 38, 3) := by decide +kernel
theorem dX8_makeLeast_289 : decode cX8_makeLeast 289 = .ok (.iload_n 2, 1) := by decide +kernel
theorem dX8_makeLeast_290 : decode cX8_makeLeast 290 = .ok (.aload_n 0, 1) := by decide +kernel
theorem dX8_makeLeast_291 : decode cX8_makeLeast 291 = .ok (.getfield 44, 3) := by decide +kernel
theorem dX8_makeLeast_294 : decode cX8_makeLeast 294 = .ok (.iload 5, 2) := by decide +kernel
theorem dX8_makeLeast_296 : decode cX8_makeLeast 296 = .ok (.laload, 1) := by decide +kernel
theorem dX8_makeLeast_297 : decode cX8_makeLeast 297 = .ok (.lastore, 1) := by decide +kernel
theorem dX8_makeLeast_298 : decode cX8_makeLeast 298 = .ok (.aload_n 0, 1) := by decide +kernel
theorem dX8_makeLeast_299 : decode cX8_makeLeast 299 = .ok (.getfield 41, 3) := by decide +kernel
theorem dX8_makeLeast_302 : decode cX8_makeLeast 302 = .ok (.iload_n 2, 1) := by decide +kernel
theorem dX8_makeLeast_303 : decode cX8_makeLeast 303 = .ok (.aload_n 0, 1) := by decide +kernel
theorem dX8_makeLeast_304 : decode cX8_makeLeast 304 = .ok (.getfield 47, 3) := by decide +kernel
theorem dX8_makeLeast_307 : decode cX8_makeLeast 307 = .ok (.iload 5, 2) := by decide +kernel
theorem dX8_makeLeast_309 : decode cX8_makeLeast 309 = .ok (.iaload, 1) := by decide +kernel
theorem dX8_makeLeast_310 : decode cX8_makeLeast 310 = .ok (.iastore, 1) := by decide +kernel
theorem dX8_makeLeast_311 : decode cX8_makeLeast 311 = .ok (.iinc 2 1, 3) := by decide +kernel
theorem dX8_makeLeast_314 : decode cX8_makeLeast 314 = .ok (.iinc 5 1, 3) := by decide +kernel
theorem dX8_makeLeast_317 : decode cX8_makeLeast 317 = .ok (.goto (-85), 3) := by decide +kernel
theorem dX8_makeLeast_320 : decode cX8_makeLeast 320 = .ok (.iinc 3 1, 3) := by decide +kernel
theorem dX8_makeLeast_323 : decode cX8_makeLeast 323 = .ok (.goto (-298), 3) := by decide +kernel
theorem dX8_makeLeast_326 : decode cX8_makeLeast 326 = .ok (.aload_n 0, 1) := by decide +kernel
theorem dX8_makeLeast_327 : decode cX8_makeLeast 327 = .ok (.iload_n 1, 1) := by decide +kernel
theorem dX8_makeLeast_328 : decode cX8_makeLeast 328 = .ok (.putfield 186, 3) := by decide +kernel
theorem dX8_makeLeast_331 : decode cX8_makeLeast 331 = .ok (.iload_n 1, 1) := by decide +kernel
theorem dX8_makeLeast_332 : decode cX8_makeLeast 332 = .ok (.ireturn, 1) := by decide +kernel
set_option maxRecDepth 20000 in
theorem ggX8_becomes_X8_comes : GoodIn wsX8_becomes wsX8_comes := goodIn_r _ [10, 1, 11, 12, 13, 14, 15, 16, 9, 17, 18, 19, 20, 21, 22, 23, 24, 25, 26, 27, 28, 29, 30, 31, 32, 33, 34, 35, 36, 37, 38, 39, 40, 41, 42, 43, 44, 45, 46, 47, 48, 49, 50, 51] (by decide +kernel) (by decide +kernel)
set_option maxRecDepth 20000 in
theorem gX8_becomes_X8_comes : GoodIn wsX8_becomes (wsV RX8 121 RX8 yX8_comes wsX8_comes) := goodIn_app (goodIn_of _ (by decide +kernel)) ggX8_becomes_X8_comes
theorem dX8_becomes_0 : decode cX8_becomes 0 = .ok (.aload_n 0, 1) := by decide +kernel
theorem dX8_becomes_1 : decode cX8_becomes 1 = .ok (.getfield 7, 3) := by decide +kernel
theorem dX8_becomes_4 : decode cX8_becomes 4 = .ok (.iload_n 1, 1) := by decide +kernel
theorem dX8_becomes_5 : decode cX8_becomes 5 = .ok (.iconst 0, 1) := by decide +kernel
theorem dX8_becomes_6 : decode cX8_becomes 6 = .ok (.iastore, 1) := by decide +kernel
theorem dX8_becomes_7 : decode cX8_becomes 7 = .ok (.iconst 0, 1) := by decide +kernel
theorem dX8_becomes_8 : decode cX8_becomes 8 = .ok (.istore_n 2, 1) := by decide +kernel
theorem dX8_becomes_9 : decode cX8_becomes 9 = .ok (.iload_n 2, 1) := by decide +kernel
theorem dX8_becomes_10 : decode cX8_becomes 10 = .ok (.aload_n 0, 1) := by decide +kernel
theorem dX8_becomes_11 : decode cX8_becomes 11 = .ok (.getfield 186, 3) := by decide +kernel
theorem dX8_becomes_14 : decode cX8_becomes 14 = .ok (.if_icmp .ge 32, 3) := by decide +kernel
theorem dX8_becomes_17 : decode cX8_becomes 17 = .ok (.aload_n 0, 1) := by decide +kernel
theorem dX8_becomes_18 : decode cX8_becomes 18 = .ok (.iload_n 1, 1) := by decide +kernel
theorem dX8_becomes_19 : decode cX8_becomes 19 = .ok (.aload_n 0, 1) := by decide +kernel
theorem dX8_becomes_20 : decode cX8_becomes 20 = .ok (.getfield 50, 3) := by decide +kernel
theorem dX8_becomes_23 : decode cX8_becomes 23 = .ok (.iload_n 2, 1) := by decide +kernel
theorem dX8_becomes_24 : decode cX8_becomes 24 = .ok (.laload, 1) := by decide +kernel
theorem dX8_becomes_25 : decode cX8_becomes 25 = .ok (.aload_n 0, 1) := by decide +kernel
theorem dX8_becomes_26 : decode cX8_becomes 26 = .ok (.getfield 53, 3) := by decide +kernel
theorem dX8_becomes_29 : decode cX8_becomes 29 = .ok (.iload_n 2, 1) := by decide +kernel
theorem dX8_becomes_30 : decode cX8_becomes 30 = .ok (.iaload, 1) := by decide +kernel
theorem dX8_becomes_31 : decode cX8_becomes 31 = .ok (.aload_n 0, 1) := by decide +kernel
theorem dX8_becomes_32 : decode cX8_becomes 32 = .ok (.getfield 56, 3) := by decide +kernel
theorem dX8_becomes_35 : decode cX8_becomes 35 = .ok (.iload_n 2, 1) := by decide +kernel
theorem dX8_becomes_36 : decode cX8_becomes 36 = .ok (.iaload, 1) := by decide +kernel
theorem dX8_becomes_37 : decode cX8_becomes 37 = .ok (.invokevirtual 121, 3) := by decide +kernel
theorem dX8_becomes_40 : decode cX8_becomes 40 = .ok (.iinc 2 1, 3) := by decide +kernel
theorem dX8_becomes_43 : decode cX8_becomes 43 = .ok (.goto (-34), 3) := by decide +kernel
theorem dX8_becomes_46 : decode cX8_becomes 46 = .ok (.aload_n 0, 1) := by decide +kernel
theorem dX8_becomes_47 : decode cX8_becomes 47 = .ok (.getfield 7, 3) := by decide +kernel
theorem dX8_becomes_50 : decode cX8_becomes 50 = .ok (.iload_n 1, 1) := by decide +kernel
theorem dX8_becomes_51 : decode cX8_becomes 51 = .ok (.iaload, 1) := by decide +kernel
theorem dX8_becomes_52 : decode cX8_becomes 52 = .ok (.ireturn, 1) := by decide +kernel
set_option maxRecDepth 20000 in
theorem ggX8_least_X8_isBook : GoodIn wsX8_least wsX8_isBook := goodIn_r _ [4, 5, 6, 3, 7] (by decide +kernel) (by decide +kernel)
set_option maxRecDepth 20000 in
theorem gX8_least_X8_isBook : GoodIn wsX8_least (va_wsS RX8 109 yX8_isBook wsX8_isBook) := goodIn_app (goodIn_of _ (by decide +kernel)) ggX8_least_X8_isBook
set_option maxRecDepth 20000 in
theorem ggX8_least_X8_makeSpans : GoodIn wsX8_least wsX8_makeSpans := goodIn_r _ [11, 12, 13, 14, 15, 16, 17, 3, 18, 19, 20, 21, 22, 23, 24, 25, 26, 27, 28, 29, 30, 31, 32, 33, 34, 35, 36, 37, 38, 39, 40, 41, 42, 43, 44, 45, 100, 101, 102, 103, 104, 105, 106, 107, 108, 109, 110, 111, 112, 113, 114, 115, 116, 117, 118, 119, 120, 121, 122, 123, 124, 125, 126, 127, 128, 129, 130, 131, 132, 133] (by decide +kernel) (by decide +kernel)
set_option maxRecDepth 20000 in
theorem gX8_least_X8_makeSpans : GoodIn wsX8_least (wsV RX8 154 RX8 yX8_makeSpans wsX8_makeSpans) := goodIn_app (goodIn_of _ (by decide +kernel)) ggX8_least_X8_makeSpans
set_option maxRecDepth 20000 in
theorem ggX8_least_X8_makeLeast : GoodIn wsX8_least wsX8_makeLeast := goodIn_r _ [49, 50, 51, 52, 53, 54, 55, 56, 14, 57, 58, 59, 60, 3, 61, 62, 12, 13, 63, 64, 27, 28, 29, 65, 66, 67, 68, 69, 70, 71, 72, 73, 74, 75, 76, 77, 78, 79, 80, 81, 82, 83, 84, 19, 85, 86, 87, 100, 101, 102, 103, 104, 105, 106, 107, 108, 109, 110, 111, 112, 113, 114, 115, 116, 117, 118, 119, 120, 121, 122, 123, 124, 125, 126, 127, 128, 129, 130, 131, 132, 133] (by decide +kernel) (by decide +kernel)
set_option maxRecDepth 20000 in
theorem gX8_least_X8_makeLeast : GoodIn wsX8_least (wsV RX8 189 RX8 yX8_makeLeast wsX8_makeLeast) := goodIn_app (goodIn_of _ (by decide +kernel)) ggX8_least_X8_makeLeast
set_option maxRecDepth 20000 in
theorem ggX8_least_X8_becomes : GoodIn wsX8_least wsX8_becomes := goodIn_r _ [91, 24, 57, 52, 53, 54, 92, 93, 94, 3, 95, 25, 26, 38, 96, 97, 98, 99, 100, 101, 102, 103, 104, 105, 106, 107, 108, 109, 110, 111, 112, 113, 114, 115, 116, 117, 118, 119, 120, 121, 122, 123, 124, 125, 126, 127, 128, 129, 130, 131, 132, 133] (by decide +kernel) (by decide +kernel)
set_option maxRecDepth 20000 in
theorem gX8_least_X8_becomes : GoodIn wsX8_least (wsV RX8 193 RX8 yX8_becomes wsX8_becomes) := goodIn_app (goodIn_of _ (by decide +kernel)) ggX8_least_X8_becomes
theorem dX8_least_0 : decode cX8_least 0 = .ok (.iload_n 1, 1) := by decide +kernel
theorem dX8_least_1 : decode cX8_least 1 = .ok (.invokestatic 109, 3) := by decide +kernel
theorem dX8_least_4 : decode cX8_least 4 = .ok (.ifCond .eq 10, 3) := by decide +kernel
theorem dX8_least_7 : decode cX8_least 7 = .ok (.iload_n 2, 1) := by decide +kernel
theorem dX8_least_8 : decode cX8_least 8 = .ok (.invokestatic 109, 3) := by decide +kernel
theorem dX8_least_11 : decode cX8_least 11 = .ok (.ifCond .ne 5, 3) := by decide +kernel
theorem dX8_least_14 : decode cX8_least 14 = .ok (.iconst (-1), 1) := by decide +kernel
theorem dX8_least_15 : decode cX8_least 15 = .ok (.ireturn, 1) := by decide +kernel
theorem dX8_least_16 : decode cX8_least 16 = .ok (.aload_n 0, 1) := by decide +kernel
theorem dX8_least_17 : decode cX8_least 17 = .ok (.iconst 3, 1) := by decide +kernel
theorem dX8_least_18 : decode cX8_least 18 = .ok (.iload_n 1, 1) := by decide +kernel
theorem dX8_least_19 : decode cX8_least 19 = .ok (.iload_n 1, 1) := by decide +kernel
theorem dX8_least_20 : decode cX8_least 20 = .ok (.invokevirtual 154, 3) := by decide +kernel
theorem dX8_least_23 : decode cX8_least 23 = .ok (.aload_n 0, 1) := by decide +kernel
