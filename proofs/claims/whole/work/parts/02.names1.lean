theorem dX0_init_0 : decode cX0_init 0 = .ok (.aload_n 0, 1) := by decide +kernel
theorem dX0_init_1 : decode cX0_init 1 = .ok (.invokespecial 3, 3) := by decide +kernel
theorem dX0_init_4 : decode cX0_init 4 = .ok (.aload_n 0, 1) := by decide +kernel
theorem dX0_init_5 : decode cX0_init 5 = .ok (.bipush 62, 2) := by decide +kernel
theorem dX0_init_7 : decode cX0_init 7 = .ok (.newarray .long, 2) := by decide +kernel
theorem dX0_init_9 : decode cX0_init 9 = .ok (.putfield 11, 3) := by decide +kernel
theorem dX0_init_12 : decode cX0_init 12 = .ok (.aload_n 0, 1) := by decide +kernel
theorem dX0_init_13 : decode cX0_init 13 = .ok (.bipush 62, 2) := by decide +kernel
theorem dX0_init_15 : decode cX0_init 15 = .ok (.newarray .int, 2) := by decide +kernel
theorem dX0_init_17 : decode cX0_init 17 = .ok (.putfield 15, 3) := by decide +kernel
theorem dX0_init_20 : decode cX0_init 20 = .ok (.return_, 1) := by decide +kernel
set_option maxRecDepth 20000 in
theorem ggX0_make_X0_fewestBits : GoodIn wsX0_make wsX0_fewestBits := goodIn_r _ [7, 8, 9, 6, 10, 11] (by decide +kernel) (by decide +kernel)
set_option maxRecDepth 20000 in
theorem gX0_make_X0_fewestBits : GoodIn wsX0_make (va_wsS RX0 23 yX0_fewestBits wsX0_fewestBits) := goodIn_app (goodIn_of _ (by decide +kernel)) ggX0_make_X0_fewestBits
set_option maxRecDepth 20000 in
theorem ggX0_make_X0_addressesOf : GoodIn wsX0_make wsX0_addressesOf := goodIn_r _ [10, 11] (by decide +kernel) (by decide +kernel)
set_option maxRecDepth 20000 in
theorem gX0_make_X0_addressesOf : GoodIn wsX0_make (va_wsS RX0 27 yX0_addressesOf wsX0_addressesOf) := goodIn_app (goodIn_of _ (by decide +kernel)) ggX0_make_X0_addressesOf
theorem dX0_make_0 : decode cX0_make 0 = .ok (.aload_n 0, 1) := by decide +kernel
theorem dX0_make_1 : decode cX0_make 1 = .ok (.iconst 0, 1) := by decide +kernel
theorem dX0_make_2 : decode cX0_make 2 = .ok (.putfield 19, 3) := by decide +kernel
theorem dX0_make_5 : decode cX0_make 5 = .ok (.lload_n 1, 1) := by decide +kernel
theorem dX0_make_6 : decode cX0_make 6 = .ok (.lstore 5, 2) := by decide +kernel
theorem dX0_make_8 : decode cX0_make 8 = .ok (.lload 5, 2) := by decide +kernel
theorem dX0_make_10 : decode cX0_make 10 = .ok (.lload_n 3, 1) := by decide +kernel
theorem dX0_make_11 : decode cX0_make 11 = .ok (.lcmp, 1) := by decide +kernel
theorem dX0_make_12 : decode cX0_make 12 = .ok (.ifCond .gt 65, 3) := by decide +kernel
theorem dX0_make_15 : decode cX0_make 15 = .ok (.aload_n 0, 1) := by decide +kernel
theorem dX0_make_16 : decode cX0_make 16 = .ok (.getfield 19, 3) := by decide +kernel
theorem dX0_make_19 : decode cX0_make 19 = .ok (.bipush 62, 2) := by decide +kernel
theorem dX0_make_21 : decode cX0_make 21 = .ok (.if_icmp .ge 56, 3) := by decide +kernel
theorem dX0_make_24 : decode cX0_make 24 = .ok (.lload 5, 2) := by decide +kernel
theorem dX0_make_26 : decode cX0_make 26 = .ok (.lload_n 3, 1) := by decide +kernel
theorem dX0_make_27 : decode cX0_make 27 = .ok (.invokestatic 23, 3) := by decide +kernel
theorem dX0_make_30 : decode cX0_make 30 = .ok (.istore 7, 2) := by decide +kernel
theorem dX0_make_32 : decode cX0_make 32 = .ok (.aload_n 0, 1) := by decide +kernel
theorem dX0_make_33 : decode cX0_make 33 = .ok (.getfield 11, 3) := by decide +kernel
theorem dX0_make_36 : decode cX0_make 36 = .ok (.aload_n 0, 1) := by decide +kernel
theorem dX0_make_37 : decode cX0_make 37 = .ok (.getfield 19, 3) := by decide +kernel
theorem dX0_make_40 : decode cX0_make 40 = .ok (.lload 5, 2) := by decide +kernel
theorem dX0_make_42 : decode cX0_make 42 = .ok (.lastore, 1) := by decide +kernel
theorem dX0_make_43 : decode cX0_make 43 = .ok (.aload_n 0, 1) := by decide +kernel
theorem dX0_make_44 : decode cX0_make 44 = .ok (.getfield 15, 3) := by decide +kernel
theorem dX0_make_47 : decode cX0_make 47 = .ok (.aload_n 0, 1) := by decide +kernel
theorem dX0_make_48 : decode cX0_make 48 = .ok (.getfield 19, 3) := by decide +kernel
theorem dX0_make_51 : decode cX0_make 51 = .ok (.iload 7, 2) := by decide +kernel
theorem dX0_make_53 : decode cX0_make 53 = .ok (.iastore, 1) := by decide +kernel
theorem dX0_make_54 : decode cX0_make 54 = .ok (.aload_n 0, 1) := by decide +kernel
theorem dX0_make_55 : decode cX0_make 55 = .ok (.dup, 1) := by decide +kernel
theorem dX0_make_56 : decode cX0_make 56 = .ok (.getfield 19, 3) := by decide +kernel
theorem dX0_make_59 : decode cX0_make 59 = .ok (.iconst 1, 1) := by decide +kernel
theorem dX0_make_60 : decode cX0_make 60 = .ok (.iadd, 1) := by decide +kernel
theorem dX0_make_61 : decode cX0_make 61 = .ok (.putfield 19, 3) := by decide +kernel
theorem dX0_make_64 : decode cX0_make 64 = .ok (.lload 5, 2) := by decide +kernel
theorem dX0_make_66 : decode cX0_make 66 = .ok (.iload 7, 2) := by decide +kernel
theorem dX0_make_68 : decode cX0_make 68 = .ok (.invokestatic 27, 3) := by decide +kernel
theorem dX0_make_71 : decode cX0_make 71 = .ok (.ladd, 1) := by decide +kernel
theorem dX0_make_72 : decode cX0_make 72 = .ok (.lstore 5, 2) := by decide +kernel
theorem dX0_make_74 : decode cX0_make 74 = .ok (.goto (-66), 3) := by decide +kernel
theorem dX0_make_77 : decode cX0_make 77 = .ok (.return_, 1) := by decide +kernel
set_option maxRecDepth 20000 in
theorem ggX0_fewestBits_X0_addressesOf : GoodIn wsX0_fewestBits wsX0_addressesOf := goodIn_r _ [4, 5] (by decide +kernel) (by decide +kernel)
set_option maxRecDepth 20000 in
theorem gX0_fewestBits_X0_addressesOf : GoodIn wsX0_fewestBits (va_wsS RX0 27 yX0_addressesOf wsX0_addressesOf) := goodIn_app (goodIn_of _ (by decide +kernel)) ggX0_fewestBits_X0_addressesOf
theorem dX0_fewestBits_0 : decode cX0_fewestBits 0 = .ok (.iconst 0, 1) := by decide +kernel
theorem dX0_fewestBits_1 : decode cX0_fewestBits 1 = .ok (.istore 4, 2) := by decide +kernel
theorem dX0_fewestBits_3 : decode cX0_fewestBits 3 = .ok (.iload 4, 2) := by decide +kernel
theorem dX0_fewestBits_5 : decode cX0_fewestBits 5 = .ok (.bipush 32, 2) := by decide +kernel
theorem dX0_fewestBits_7 : decode cX0_fewestBits 7 = .ok (.if_icmp .ge 41, 3) := by decide +kernel
theorem dX0_fewestBits_10 : decode cX0_fewestBits 10 = .ok (.iload 4, 2) := by decide +kernel
theorem dX0_fewestBits_12 : decode cX0_fewestBits 12 = .ok (.invokestatic 27, 3) := by decide +kernel
theorem dX0_fewestBits_15 : decode cX0_fewestBits 15 = .ok (.lstore 5, 2) := by decide +kernel
theorem dX0_fewestBits_17 : decode cX0_fewestBits 17 = .ok (.lload_n 0, 1) := by decide +kernel
theorem dX0_fewestBits_18 : decode cX0_fewestBits 18 = .ok (.lload 5, 2) := by decide +kernel
theorem dX0_fewestBits_20 : decode cX0_fewestBits 20 = .ok (.lconst 1, 1) := by decide +kernel
theorem dX0_fewestBits_21 : decode cX0_fewestBits 21 = .ok (.lsub, 1) := by decide +kernel
theorem dX0_fewestBits_22 : decode cX0_fewestBits 22 = .ok (.land, 1) := by decide +kernel
theorem dX0_fewestBits_23 : decode cX0_fewestBits 23 = .ok (.lconst 0, 1) := by decide +kernel
theorem dX0_fewestBits_24 : decode cX0_fewestBits 24 = .ok (.lcmp, 1) := by decide +kernel
theorem dX0_fewestBits_25 : decode cX0_fewestBits 25 = .ok (.ifCond .ne 17, 3) := by decide +kernel
theorem dX0_fewestBits_28 : decode cX0_fewestBits 28 = .ok (.lload_n 0, 1) := by decide +kernel
theorem dX0_fewestBits_29 : decode cX0_fewestBits 29 = .ok (.lload 5, 2) := by decide +kernel
theorem dX0_fewestBits_31 : decode cX0_fewestBits 31 = .ok (.ladd, 1) := by decide +kernel
theorem dX0_fewestBits_32 : decode cX0_fewestBits 32 = .ok (.lconst 1, 1) := by decide +kernel
theorem dX0_fewestBits_33 : decode cX0_fewestBits 33 = .ok (.lsub, 1) := by decide +kernel
theorem dX0_fewestBits_34 : decode cX0_fewestBits 34 = .ok (.lload_n 2, 1) := by decide +kernel
theorem dX0_fewestBits_35 : decode cX0_fewestBits 35 = .ok (.lcmp, 1) := by decide +kernel
theorem dX0_fewestBits_36 : decode cX0_fewestBits 36 = .ok (.ifCond .gt 6, 3) := by decide +kernel
theorem dX0_fewestBits_39 : decode cX0_fewestBits 39 = .ok (.iload 4, 2) := by decide +kernel
theorem dX0_fewestBits_41 : decode cX0_fewestBits 41 = .ok (.ireturn, 1) := by decide +kernel
theorem dX0_fewestBits_42 : decode cX0_fewestBits 42 = .ok (.iinc 4 1, 3) := by decide +kernel
theorem dX0_fewestBits_45 : decode cX0_fewestBits 45 = .ok (.goto (-42), 3) := by decide +kernel
theorem dX0_fewestBits_48 : decode cX0_fewestBits 48 = .ok (.bipush 32, 2) := by decide +kernel
theorem dX0_fewestBits_50 : decode cX0_fewestBits 50 = .ok (.ireturn, 1) := by decide +kernel
theorem dX0_addressesOf_0 : decode cX0_addressesOf 0 = .ok (.ldc2_w 31, 3) := by decide +kernel
theorem dX0_addressesOf_3 : decode cX0_addressesOf 3 = .ok (.iload_n 0, 1) := by decide +kernel
theorem dX0_addressesOf_4 : decode cX0_addressesOf 4 = .ok (.lshr, 1) := by decide +kernel
theorem dX0_addressesOf_5 : decode cX0_addressesOf 5 = .ok (.lreturn, 1) := by decide +kernel
theorem dX0_tell_0 : decode cX0_tell 0 = .ok (.iload_n 1, 1) := by decide +kernel
theorem dX0_tell_1 : decode cX0_tell 1 = .ok (.ifCond .lt 11, 3) := by decide +kernel
theorem dX0_tell_4 : decode cX0_tell 4 = .ok (.iload_n 1, 1) := by decide +kernel
theorem dX0_tell_5 : decode cX0_tell 5 = .ok (.aload_n 0, 1) := by decide +kernel
theorem dX0_tell_6 : decode cX0_tell 6 = .ok (.getfield 19, 3) := by decide +kernel
theorem dX0_tell_9 : decode cX0_tell 9 = .ok (.if_icmp .lt 7, 3) := by decide +kernel
theorem dX0_tell_12 : decode cX0_tell 12 = .ok (.ldc2_w 33, 3) := by decide +kernel
theorem dX0_tell_15 : decode cX0_tell 15 = .ok (.lreturn, 1) := by decide +kernel
theorem dX0_tell_16 : decode cX0_tell 16 = .ok (.iload_n 2, 1) := by decide +kernel
theorem dX0_tell_17 : decode cX0_tell 17 = .ok (.lookupswitch 42 #[(0, 27), (1, 34)], 27) := by decide +kernel
theorem dX0_tell_44 : decode cX0_tell 44 = .ok (.aload_n 0, 1) := by decide +kernel
theorem dX0_tell_45 : decode cX0_tell 45 = .ok (.getfield 11, 3) := by decide +kernel
theorem dX0_tell_48 : decode cX0_tell 48 = .ok (.iload_n 1, 1) := by decide +kernel
theorem dX0_tell_49 : decode cX0_tell 49 = .ok (.laload, 1) := by decide +kernel
theorem dX0_tell_50 : decode cX0_tell 50 = .ok (.lreturn, 1) := by decide +kernel
theorem dX0_tell_51 : decode cX0_tell 51 = .ok (.aload_n 0, 1) := by decide +kernel
theorem dX0_tell_52 : decode cX0_tell 52 = .ok (.getfield 15, 3) := by decide +kernel
theorem dX0_tell_55 : decode cX0_tell 55 = .ok (.iload_n 1, 1) := by decide +kernel
theorem dX0_tell_56 : decode cX0_tell 56 = .ok (.iaload, 1) := by decide +kernel
theorem dX0_tell_57 : decode cX0_tell 57 = .ok (.i2l, 1) := by decide +kernel
theorem dX0_tell_58 : decode cX0_tell 58 = .ok (.lreturn, 1) := by decide +kernel
theorem dX0_tell_59 : decode cX0_tell 59 = .ok (.ldc2_w 33, 3) := by decide +kernel
theorem dX0_tell_62 : decode cX0_tell 62 = .ok (.lreturn, 1) := by decide +kernel
theorem dX1_init_0 : decode cX1_init 0 = .ok (.aload_n 0, 1) := by decide +kernel
theorem dX1_init_1 : decode cX1_init 1 = .ok (.invokespecial 5, 3) := by decide +kernel
theorem dX1_init_4 : decode cX1_init 4 = .ok (.return_, 1) := by decide +kernel
set_option maxRecDepth 20000 in
theorem ggX1_measure_X3_last : GoodIn wsX1_measure wsX3_last := goodIn_r _ [12, 13, 14, 15, 18, 19, 20, 21, 22, 23] (by decide +kernel) (by decide +kernel)
set_option maxRecDepth 20000 in
theorem gX1_measure_X3_last : GoodIn wsX1_measure (wsV RX1 26 RX3 yX3_last wsX3_last) := goodIn_app (goodIn_of _ (by decide +kernel)) ggX1_measure_X3_last
theorem dX1_measure_0 : decode cX1_measure 0 = .ok (.aload_n 0, 1) := by decide +kernel
theorem dX1_measure_1 : decode cX1_measure 1 = .ok (.ldc2_w 11, 3) := by decide +kernel
theorem dX1_measure_4 : decode cX1_measure 4 = .ok (.putfield 13, 3) := by decide +kernel
theorem dX1_measure_7 : decode cX1_measure 7 = .ok (.aload_n 0, 1) := by decide +kernel
theorem dX1_measure_8 : decode cX1_measure 8 = .ok (.lconst 0, 1) := by decide +kernel
theorem dX1_measure_9 : decode cX1_measure 9 = .ok (.putfield 19, 3) := by decide +kernel
theorem dX1_measure_12 : decode cX1_measure 12 = .ok (.lconst 0, 1) := by decide +kernel
theorem dX1_measure_13 : decode cX1_measure 13 = .ok (.lstore_n 3, 1) := by decide +kernel
theorem dX1_measure_14 : decode cX1_measure 14 = .ok (.iconst 0, 1) := by decide +kernel
theorem dX1_measure_15 : decode cX1_measure 15 = .ok (.istore 5, 2) := by decide +kernel
theorem dX1_measure_17 : decode cX1_measure 17 = .ok (.iconst 0, 1) := by decide +kernel
theorem dX1_measure_18 : decode cX1_measure 18 = .ok (.istore 6, 2) := by decide +kernel
theorem dX1_measure_20 : decode cX1_measure 20 = .ok (.iconst 0, 1) := by decide +kernel
theorem dX1_measure_21 : decode cX1_measure 21 = .ok (.istore 7, 2) := by decide +kernel
theorem dX1_measure_23 : decode cX1_measure 23 = .ok (.iload 7, 2) := by decide +kernel
theorem dX1_measure_25 : decode cX1_measure 25 = .ok (.sipush 258, 3) := by decide +kernel
theorem dX1_measure_28 : decode cX1_measure 28 = .ok (.if_icmp .ge 170, 3) := by decide +kernel
theorem dX1_measure_31 : decode cX1_measure 31 = .ok (.iload 5, 2) := by decide +kernel
theorem dX1_measure_33 : decode cX1_measure 33 = .ok (.aload_n 1, 1) := by decide +kernel
theorem dX1_measure_34 : decode cX1_measure 34 = .ok (.getfield 22, 3) := by decide +kernel
theorem dX1_measure_37 : decode cX1_measure 37 = .ok (.if_icmp .ge 161, 3) := by decide +kernel
theorem dX1_measure_40 : decode cX1_measure 40 = .ok (.iload 6, 2) := by decide +kernel
theorem dX1_measure_42 : decode cX1_measure 42 = .ok (.aload_n 2, 1) := by decide +kernel
theorem dX1_measure_43 : decode cX1_measure 43 = .ok (.getfield 22, 3) := by decide +kernel
theorem dX1_measure_46 : decode cX1_measure 46 = .ok (.if_icmp .ge 152, 3) := by decide +kernel
theorem dX1_measure_49 : decode cX1_measure 49 = .ok (.aload_n 1, 1) := by decide +kernel
theorem dX1_measure_50 : decode cX1_measure 50 = .ok (.iload 5, 2) := by decide +kernel
theorem dX1_measure_52 : decode cX1_measure 52 = .ok (.invokevirtual 26, 3) := by decide +kernel
theorem dX1_measure_55 : decode cX1_measure 55 = .ok (.aload_n 2, 1) := by decide +kernel
theorem dX1_measure_56 : decode cX1_measure 56 = .ok (.iload 6, 2) := by decide +kernel
theorem dX1_measure_58 : decode cX1_measure 58 = .ok (.invokevirtual 26, 3) := by decide +kernel
theorem dX1_measure_61 : decode cX1_measure 61 = .ok (.invokestatic 30, 3) := by decide +kernel
theorem dX1_measure_64 : decode cX1_measure 64 = .ok (.lstore 8, 2) := by decide +kernel
theorem dX1_measure_66 : decode cX1_measure 66 = .ok (.aload_n 1, 1) := by decide +kernel
theorem dX1_measure_67 : decode cX1_measure 67 = .ok (.getfield 36, 3) := by decide +kernel
theorem dX1_measure_70 : decode cX1_measure 70 = .ok (.iload 5, 2) := by decide +kernel
theorem dX1_measure_72 : decode cX1_measure 72 = .ok (.iaload, 1) := by decide +kernel
theorem dX1_measure_73 : decode cX1_measure 73 = .ok (.aload_n 2, 1) := by decide +kernel
theorem dX1_measure_74 : decode cX1_measure 74 = .ok (.getfield 36, 3) := by decide +kernel
theorem dX1_measure_77 : decode cX1_measure 77 = .ok (.iload 6, 2) := by decide +kernel
theorem dX1_measure_79 : decode cX1_measure 79 = .ok (.iaload, 1) := by decide +kernel
theorem dX1_measure_80 : decode cX1_measure 80 = .ok (.if_icmp .eq 39, 3) := by decide +kernel
theorem dX1_measure_83 : decode cX1_measure 83 = .ok (.aload_n 0, 1) := by decide +kernel
theorem dX1_measure_84 : decode cX1_measure 84 = .ok (.aload_n 0, 1) := by decide +kernel
theorem dX1_measure_85 : decode cX1_measure 85 = .ok (.getfield 19, 3) := by decide +kernel
theorem dX1_measure_88 : decode cX1_measure 88 = .ok (.lconst 0, 1) := by decide +kernel
theorem dX1_measure_89 : decode cX1_measure 89 = .ok (.lcmp, 1) := by decide +kernel
theorem dX1_measure_90 : decode cX1_measure 90 = .ok (.ifCond .ne 7, 3) := by decide +kernel
theorem dX1_measure_93 : decode cX1_measure 93 = .ok (.lload_n 3, 1) := by decide +kernel
theorem dX1_measure_94 : decode cX1_measure 94 = .ok (.goto 7, 3) := by decide +kernel
theorem dX1_measure_97 : decode cX1_measure 97 = .ok (.aload_n 0, 1) := by decide +kernel
theorem dX1_measure_98 : decode cX1_measure 98 = .ok (.getfield 13, 3) := by decide +kernel
theorem dX1_measure_101 : decode cX1_measure 101 = .ok (.putfield 13, 3) := by decide +kernel
theorem dX1_measure_104 : decode cX1_measure 104 = .ok (.aload_n 0, 1) := by decide +kernel
theorem dX1_measure_105 : decode cX1_measure 105 = .ok (.dup, 1) := by decide +kernel
theorem dX1_measure_106 : decode cX1_measure 106 = .ok (.getfield 19, 3) := by decide +kernel
theorem dX1_measure_109 : decode cX1_measure 109 = .ok (.lload 8, 2) := by decide +kernel
theorem dX1_measure_111 : decode cX1_measure 111 = .ok (.lload_n 3, 1) := by decide +kernel
theorem dX1_measure_112 : decode cX1_measure 112 = .ok (.lsub, 1) := by decide +kernel
theorem dX1_measure_113 : decode cX1_measure 113 = .ok (.lconst 1, 1) := by decide +kernel
theorem dX1_measure_114 : decode cX1_measure 114 = .ok (.ladd, 1) := by decide +kernel
theorem dX1_measure_115 : decode cX1_measure 115 = .ok (.ladd, 1) := by decide +kernel
theorem dX1_measure_116 : decode cX1_measure 116 = .ok (.putfield 19, 3) := by decide +kernel
theorem dX1_measure_119 : decode cX1_measure 119 = .ok (.lload 8, 2) := by decide +kernel
theorem dX1_measure_121 : decode cX1_measure 121 = .ok (.lconst 1, 1) := by decide +kernel
theorem dX1_measure_122 : decode cX1_measure 122 = .ok (.ladd, 1) := by decide +kernel
theorem dX1_measure_123 : decode cX1_measure 123 = .ok (.lstore_n 3, 1) := by decide +kernel
theorem dX1_measure_124 : decode cX1_measure 124 = .ok (.aload_n 1, 1) := by decide +kernel
theorem dX1_measure_125 : decode cX1_measure 125 = .ok (.iload 5, 2) := by decide +kernel
theorem dX1_measure_127 : decode cX1_measure 127 = .ok (.invokevirtual 26, 3) := by decide +kernel
theorem dX1_measure_130 : decode cX1_measure 130 = .ok (.lload 8, 2) := by decide +kernel
theorem dX1_measure_132 : decode cX1_measure 132 = .ok (.lcmp, 1) := by decide +kernel
theorem dX1_measure_133 : decode cX1_measure 133 = .ok (.ifCond .ne 7, 3) := by decide +kernel
theorem dX1_measure_136 : decode cX1_measure 136 = .ok (.iconst 1, 1) := by decide +kernel
theorem dX1_measure_137 : decode cX1_measure 137 = .ok (.goto 4, 3) := by decide +kernel
theorem dX1_measure_140 : decode cX1_measure 140 = .ok (.iconst 0, 1) := by decide +kernel
theorem dX1_measure_141 : decode cX1_measure 141 = .ok (.istore 10, 2) := by decide +kernel
theorem dX1_measure_143 : decode cX1_measure 143 = .ok (.aload_n 2, 1) := by decide +kernel
theorem dX1_measure_144 : decode cX1_measure 144 = .ok (.iload 6, 2) := by decide +kernel
theorem dX1_measure_146 : decode cX1_measure 146 = .ok (.invokevirtual 26, 3) := by decide +kernel
theorem dX1_measure_149 : decode cX1_measure 149 = .ok (.lload 8, 2) := by decide +kernel
theorem dX1_measure_151 : decode cX1_measure 151 = .ok (.lcmp, 1) := by decide +kernel
theorem dX1_measure_152 : decode cX1_measure 152 = .ok (.ifCond .ne 7, 3) := by decide +kernel
theorem dX1_measure_155 : decode cX1_measure 155 = .ok (.iconst 1, 1) := by decide +kernel
theorem dX1_measure_156 : decode cX1_measure 156 = .ok (.goto 4, 3) := by decide +kernel
theorem dX1_measure_159 : decode cX1_measure 159 = .ok (.iconst 0, 1) := by decide +kernel
theorem dX1_measure_160 : decode cX1_measure 160 = .ok (.istore 11, 2) := by decide +kernel
theorem dX1_measure_162 : decode cX1_measure 162 = .ok (.iload 5, 2) := by decide +kernel
theorem dX1_measure_164 : decode cX1_measure 164 = .ok (.iload 10, 2) := by decide +kernel
theorem dX1_measure_166 : decode cX1_measure 166 = .ok (.ifCond .eq 7, 3) := by decide +kernel
theorem dX1_measure_169 : decode cX1_measure 169 = .ok (.iconst 1, 1) := by decide +kernel
theorem dX1_measure_170 : decode cX1_measure 170 = .ok (.goto 4, 3) := by decide +kernel
theorem dX1_measure_173 : decode cX1_measure 173 = .ok (.iconst 0, 1) := by decide +kernel
theorem dX1_measure_174 : decode cX1_measure 174 = .ok (.iadd, 1) := by decide +kernel
theorem dX1_measure_175 : decode cX1_measure 175 = .ok (.istore 5, 2) := by decide +kernel
theorem dX1_measure_177 : decode cX1_measure 177 = .ok (.iload 6, 2) := by decide +kernel
theorem dX1_measure_179 : decode cX1_measure 179 = .ok (.iload 11, 2) := by decide +kernel
theorem dX1_measure_181 : decode cX1_measure 181 = .ok (.ifCond .eq 7, 3) := by decide +kernel
theorem dX1_measure_184 : decode cX1_measure 184 = .ok (.iconst 1, 1) := by decide +kernel
theorem dX1_measure_185 : decode cX1_measure 185 = .ok (.goto 4, 3) := by decide +kernel
theorem dX1_measure_188 : decode cX1_measure 188 = .ok (.iconst 0, 1) := by decide +kernel
theorem dX1_measure_189 : decode cX1_measure 189 = .ok (.iadd, 1) := by decide +kernel
theorem dX1_measure_190 : decode cX1_measure 190 = .ok (.istore 6, 2) := by decide +kernel
theorem dX1_measure_192 : decode cX1_measure 192 = .ok (.iinc 7 1, 3) := by decide +kernel
theorem dX1_measure_195 : decode cX1_measure 195 = .ok (.goto (-172), 3) := by decide +kernel
theorem dX1_measure_198 : decode cX1_measure 198 = .ok (.return_, 1) := by decide +kernel
theorem dX2_init_0 : decode cX2_init 0 = .ok (.aload_n 0, 1) := by decide +kernel
theorem dX2_init_1 : decode cX2_init 1 = .ok (.invokespecial 3, 3) := by decide +kernel
theorem dX2_init_4 : decode cX2_init 4 = .ok (.aload_n 0, 1) := by decide +kernel
theorem dX2_init_5 : decode cX2_init 5 = .ok (.iload_n 1, 1) := by decide +kernel
theorem dX2_init_6 : decode cX2_init 6 = .ok (.iconst 0, 1) := by decide +kernel
theorem dX2_init_7 : decode cX2_init 7 = .ok (.invokestatic 9, 3) := by decide +kernel
theorem dX2_init_10 : decode cX2_init 10 = .ok (.putfield 15, 3) := by decide +kernel
theorem dX2_init_13 : decode cX2_init 13 = .ok (.aload_n 0, 1) := by decide +kernel
theorem dX2_init_14 : decode cX2_init 14 = .ok (.aload_n 0, 1) := by decide +kernel
theorem dX2_init_15 : decode cX2_init 15 = .ok (.getfield 15, 3) := by decide +kernel
theorem dX2_init_18 : decode cX2_init 18 = .ok (.newarray .int, 2) := by decide +kernel
theorem dX2_init_20 : decode cX2_init 20 = .ok (.putfield 21, 3) := by decide +kernel
theorem dX2_init_23 : decode cX2_init 23 = .ok (.aload_n 0, 1) := by decide +kernel
theorem dX2_init_24 : decode cX2_init 24 = .ok (.aload_n 0, 1) := by decide +kernel
theorem dX2_init_25 : decode cX2_init 25 = .ok (.getfield 15, 3) := by decide +kernel
theorem dX2_init_28 : decode cX2_init 28 = .ok (.newarray .int, 2) := by decide +kernel
theorem dX2_init_30 : decode cX2_init 30 = .ok (.putfield 25, 3) := by decide +kernel
theorem dX2_init_33 : decode cX2_init 33 = .ok (.aload_n 0, 1) := by decide +kernel
theorem dX2_init_34 : decode cX2_init 34 = .ok (.aload_n 0, 1) := by decide +kernel
theorem dX2_init_35 : decode cX2_init 35 = .ok (.getfield 15, 3) := by decide +kernel
theorem dX2_init_38 : decode cX2_init 38 = .ok (.newarray .int, 2) := by decide +kernel
theorem dX2_init_40 : decode cX2_init 40 = .ok (.putfield 28, 3) := by decide +kernel
theorem dX2_init_43 : decode cX2_init 43 = .ok (.return_, 1) := by decide +kernel
set_option maxRecDepth 20000 in
theorem ggX2_first_X7_wide : GoodIn wsX2_first wsX7_wide := goodIn_r _ [4, 5] (by decide +kernel) (by decide +kernel)
set_option maxRecDepth 20000 in
theorem gX2_first_X7_wide_n31 : GoodIn wsX2_first (wsX7_wide) := ggX2_first_X7_wide
theorem dX2_first_0 : decode cX2_first 0 = .ok (.aload_n 0, 1) := by decide +kernel
theorem dX2_first_1 : decode cX2_first 1 = .ok (.getfield 21, 3) := by decide +kernel
theorem dX2_first_4 : decode cX2_first 4 = .ok (.iload_n 1, 1) := by decide +kernel
theorem dX2_first_5 : decode cX2_first 5 = .ok (.iaload, 1) := by decide +kernel
theorem dX2_first_6 : decode cX2_first 6 = .ok (.invokestatic 31, 3) := by decide +kernel
theorem dX2_first_9 : decode cX2_first 9 = .ok (.lreturn, 1) := by decide +kernel
set_option maxRecDepth 20000 in
theorem ggX2_last_X7_mask : GoodIn wsX2_last wsX7_mask := goodIn_r _ [5, 6, 7, 8, 9] (by decide +kernel) (by decide +kernel)
set_option maxRecDepth 20000 in
theorem gX2_last_X7_mask_n35 : GoodIn wsX2_last (wsX7_mask) := ggX2_last_X7_mask
set_option maxRecDepth 20000 in
theorem ggX2_last_X7_wide : GoodIn wsX2_last wsX7_wide := goodIn_r _ [11, 12] (by decide +kernel) (by decide +kernel)
set_option maxRecDepth 20000 in
theorem gX2_last_X7_wide_n31 : GoodIn wsX2_last (wsX7_wide) := ggX2_last_X7_wide
theorem dX2_last_0 : decode cX2_last 0 = .ok (.aload_n 0, 1) := by decide +kernel
theorem dX2_last_1 : decode cX2_last 1 = .ok (.getfield 21, 3) := by decide +kernel
theorem dX2_last_4 : decode cX2_last 4 = .ok (.iload_n 1, 1) := by decide +kernel
theorem dX2_last_5 : decode cX2_last 5 = .ok (.iaload, 1) := by decide +kernel
theorem dX2_last_6 : decode cX2_last 6 = .ok (.aload_n 0, 1) := by decide +kernel
theorem dX2_last_7 : decode cX2_last 7 = .ok (.getfield 25, 3) := by decide +kernel
theorem dX2_last_10 : decode cX2_last 10 = .ok (.iload_n 1, 1) := by decide +kernel
theorem dX2_last_11 : decode cX2_last 11 = .ok (.iaload, 1) := by decide +kernel
theorem dX2_last_12 : decode cX2_last 12 = .ok (.invokestatic 35, 3) := by decide +kernel
theorem dX2_last_15 : decode cX2_last 15 = .ok (.iconst (-1), 1) := by decide +kernel
theorem dX2_last_16 : decode cX2_last 16 = .ok (.ixor, 1) := by decide +kernel
theorem dX2_last_17 : decode cX2_last 17 = .ok (.ior, 1) := by decide +kernel
theorem dX2_last_18 : decode cX2_last 18 = .ok (.invokestatic 31, 3) := by decide +kernel
theorem dX2_last_21 : decode cX2_last 21 = .ok (.lreturn, 1) := by decide +kernel
theorem dX2_isAt_0 : decode cX2_isAt 0 = .ok (.iload_n 1, 1) := by decide +kernel
theorem dX2_isAt_1 : decode cX2_isAt 1 = .ok (.ifCond .lt 35, 3) := by decide +kernel
theorem dX2_isAt_4 : decode cX2_isAt 4 = .ok (.iload_n 1, 1) := by decide +kernel
theorem dX2_isAt_5 : decode cX2_isAt 5 = .ok (.aload_n 0, 1) := by decide +kernel
theorem dX2_isAt_6 : decode cX2_isAt 6 = .ok (.getfield 39, 3) := by decide +kernel
theorem dX2_isAt_9 : decode cX2_isAt 9 = .ok (.if_icmp .ge 27, 3) := by decide +kernel
theorem dX2_isAt_12 : decode cX2_isAt 12 = .ok (.aload_n 0, 1) := by decide +kernel
theorem dX2_isAt_13 : decode cX2_isAt 13 = .ok (.getfield 21, 3) := by decide +kernel
theorem dX2_isAt_16 : decode cX2_isAt 16 = .ok (.iload_n 1, 1) := by decide +kernel
theorem dX2_isAt_17 : decode cX2_isAt 17 = .ok (.iaload, 1) := by decide +kernel
theorem dX2_isAt_18 : decode cX2_isAt 18 = .ok (.iload_n 2, 1) := by decide +kernel
theorem dX2_isAt_19 : decode cX2_isAt 19 = .ok (.if_icmp .ne 17, 3) := by decide +kernel
theorem dX2_isAt_22 : decode cX2_isAt 22 = .ok (.aload_n 0, 1) := by decide +kernel
theorem dX2_isAt_23 : decode cX2_isAt 23 = .ok (.getfield 25, 3) := by decide +kernel
theorem dX2_isAt_26 : decode cX2_isAt 26 = .ok (.iload_n 1, 1) := by decide +kernel
theorem dX2_isAt_27 : decode cX2_isAt 27 = .ok (.iaload, 1) := by decide +kernel
theorem dX2_isAt_28 : decode cX2_isAt 28 = .ok (.iload_n 3, 1) := by decide +kernel
theorem dX2_isAt_29 : decode cX2_isAt 29 = .ok (.if_icmp .ne 7, 3) := by decide +kernel
theorem dX2_isAt_32 : decode cX2_isAt 32 = .ok (.iconst 1, 1) := by decide +kernel
theorem dX2_isAt_33 : decode cX2_isAt 33 = .ok (.goto 4, 3) := by decide +kernel
theorem dX2_isAt_36 : decode cX2_isAt 36 = .ok (.iconst 0, 1) := by decide +kernel
theorem dX2_isAt_37 : decode cX2_isAt 37 = .ok (.ireturn, 1) := by decide +kernel
set_option maxRecDepth 20000 in
theorem ggX2_hasBeginning_X2_placeOf : GoodIn wsX2_hasBeginning wsX2_placeOf := goodIn_r _ [5, 6, 7, 8, 9, 4, 10, 11, 12, 13, 14, 15, 16, 21, 22, 23, 24, 25] (by decide +kernel) (by decide +kernel)
set_option maxRecDepth 20000 in
theorem gX2_hasBeginning_X2_placeOf : GoodIn wsX2_hasBeginning (wsV RX2 42 RX2 yX2_placeOf wsX2_placeOf) := goodIn_app (goodIn_of _ (by decide +kernel)) ggX2_hasBeginning_X2_placeOf
set_option maxRecDepth 20000 in
theorem ggX2_hasBeginning_X2_isAt : GoodIn wsX2_hasBeginning wsX2_isAt := goodIn_r _ [20, 6, 11, 12, 21, 22, 23, 24, 25] (by decide +kernel) (by decide +kernel)
set_option maxRecDepth 20000 in
theorem gX2_hasBeginning_X2_isAt : GoodIn wsX2_hasBeginning (wsV RX2 45 RX2 yX2_isAt wsX2_isAt) := goodIn_app (goodIn_of _ (by decide +kernel)) ggX2_hasBeginning_X2_isAt
theorem dX2_hasBeginning_0 : decode cX2_hasBeginning 0 = .ok (.aload_n 0, 1) := by decide +kernel
theorem dX2_hasBeginning_1 : decode cX2_hasBeginning 1 = .ok (.aload_n 0, 1) := by decide +kernel
theorem dX2_hasBeginning_2 : decode cX2_hasBeginning 2 = .ok (.iload_n 1, 1) := by decide +kernel
theorem dX2_hasBeginning_3 : decode cX2_hasBeginning 3 = .ok (.iload_n 2, 1) := by decide +kernel
theorem dX2_hasBeginning_4 : decode cX2_hasBeginning 4 = .ok (.invokevirtual 42, 3) := by decide +kernel
theorem dX2_hasBeginning_7 : decode cX2_hasBeginning 7 = .ok (.iload_n 1, 1) := by decide +kernel
theorem dX2_hasBeginning_8 : decode cX2_hasBeginning 8 = .ok (.iload_n 2, 1) := by decide +kernel
theorem dX2_hasBeginning_9 : decode cX2_hasBeginning 9 = .ok (.invokevirtual 45, 3) := by decide +kernel
theorem dX2_hasBeginning_12 : decode cX2_hasBeginning 12 = .ok (.ireturn, 1) := by decide +kernel
set_option maxRecDepth 20000 in
theorem ggX2_hasLine_X2_placeOf : GoodIn wsX2_hasLine wsX2_placeOf := goodIn_r _ [6, 7, 8, 9, 10, 5, 11, 12, 13, 14, 15, 16, 17, 22, 23, 24, 25, 26] (by decide +kernel) (by decide +kernel)
set_option maxRecDepth 20000 in
theorem gX2_hasLine_X2_placeOf : GoodIn wsX2_hasLine (wsV RX2 42 RX2 yX2_placeOf wsX2_placeOf) := goodIn_app (goodIn_of _ (by decide +kernel)) ggX2_hasLine_X2_placeOf
set_option maxRecDepth 20000 in
theorem ggX2_hasLine_X2_isAt : GoodIn wsX2_hasLine wsX2_isAt := goodIn_r _ [21, 7, 12, 13, 22, 23, 24, 25, 26] (by decide +kernel) (by decide +kernel)
set_option maxRecDepth 20000 in
theorem gX2_hasLine_X2_isAt : GoodIn wsX2_hasLine (wsV RX2 45 RX2 yX2_isAt wsX2_isAt) := goodIn_app (goodIn_of _ (by decide +kernel)) ggX2_hasLine_X2_isAt
theorem dX2_hasLine_0 : decode cX2_hasLine 0 = .ok (.aload_n 0, 1) := by decide +kernel
theorem dX2_hasLine_1 : decode cX2_hasLine 1 = .ok (.iload_n 1, 1) := by decide +kernel
theorem dX2_hasLine_2 : decode cX2_hasLine 2 = .ok (.iload_n 2, 1) := by decide +kernel
theorem dX2_hasLine_3 : decode cX2_hasLine 3 = .ok (.invokevirtual 42, 3) := by decide +kernel
theorem dX2_hasLine_6 : decode cX2_hasLine 6 = .ok (.istore 4, 2) := by decide +kernel
theorem dX2_hasLine_8 : decode cX2_hasLine 8 = .ok (.aload_n 0, 1) := by decide +kernel
theorem dX2_hasLine_9 : decode cX2_hasLine 9 = .ok (.iload 4, 2) := by decide +kernel
theorem dX2_hasLine_11 : decode cX2_hasLine 11 = .ok (.iload_n 1, 1) := by decide +kernel
theorem dX2_hasLine_12 : decode cX2_hasLine 12 = .ok (.iload_n 2, 1) := by decide +kernel
theorem dX2_hasLine_13 : decode cX2_hasLine 13 = .ok (.invokevirtual 45, 3) := by decide +kernel
theorem dX2_hasLine_16 : decode cX2_hasLine 16 = .ok (.ifCond .eq 18, 3) := by decide +kernel
theorem dX2_hasLine_19 : decode cX2_hasLine 19 = .ok (.aload_n 0, 1) := by decide +kernel
theorem dX2_hasLine_20 : decode cX2_hasLine 20 = .ok (.getfield 28, 3) := by decide +kernel
theorem dX2_hasLine_23 : decode cX2_hasLine 23 = .ok (.iload 4, 2) := by decide +kernel
theorem dX2_hasLine_25 : decode cX2_hasLine 25 = .ok (.iaload, 1) := by decide +kernel
theorem dX2_hasLine_26 : decode cX2_hasLine 26 = .ok (.iload_n 3, 1) := by decide +kernel
theorem dX2_hasLine_27 : decode cX2_hasLine 27 = .ok (.if_icmp .ne 7, 3) := by decide +kernel
theorem dX2_hasLine_30 : decode cX2_hasLine 30 = .ok (.iconst 1, 1) := by decide +kernel
theorem dX2_hasLine_31 : decode cX2_hasLine 31 = .ok (.goto 4, 3) := by decide +kernel
theorem dX2_hasLine_34 : decode cX2_hasLine 34 = .ok (.iconst 0, 1) := by decide +kernel
theorem dX2_hasLine_35 : decode cX2_hasLine 35 = .ok (.ireturn, 1) := by decide +kernel
set_option maxRecDepth 20000 in
theorem ggX2_placeOf_X2_isAhead : GoodIn wsX2_placeOf wsX2_isAhead := goodIn_r _ [6, 7, 8, 9, 10, 11, 12, 13, 14, 15, 16, 17] (by decide +kernel) (by decide +kernel)
set_option maxRecDepth 20000 in
theorem gX2_placeOf_X2_isAhead : GoodIn wsX2_placeOf (wsV RX2 49 RX2 yX2_isAhead wsX2_isAhead) := goodIn_app (goodIn_of _ (by decide +kernel)) ggX2_placeOf_X2_isAhead
theorem dX2_placeOf_0 : decode cX2_placeOf 0 = .ok (.iconst 0, 1) := by decide +kernel
theorem dX2_placeOf_1 : decode cX2_placeOf 1 = .ok (.istore_n 3, 1) := by decide +kernel
theorem dX2_placeOf_2 : decode cX2_placeOf 2 = .ok (.iload_n 3, 1) := by decide +kernel
theorem dX2_placeOf_3 : decode cX2_placeOf 3 = .ok (.aload_n 0, 1) := by decide +kernel
theorem dX2_placeOf_4 : decode cX2_placeOf 4 = .ok (.getfield 39, 3) := by decide +kernel
theorem dX2_placeOf_7 : decode cX2_placeOf 7 = .ok (.if_icmp .ge 21, 3) := by decide +kernel
theorem dX2_placeOf_10 : decode cX2_placeOf 10 = .ok (.aload_n 0, 1) := by decide +kernel
theorem dX2_placeOf_11 : decode cX2_placeOf 11 = .ok (.iload_n 3, 1) := by decide +kernel
theorem dX2_placeOf_12 : decode cX2_placeOf 12 = .ok (.iload_n 1, 1) := by decide +kernel
theorem dX2_placeOf_13 : decode cX2_placeOf 13 = .ok (.iload_n 2, 1) := by decide +kernel
theorem dX2_placeOf_14 : decode cX2_placeOf 14 = .ok (.invokevirtual 49, 3) := by decide +kernel
theorem dX2_placeOf_17 : decode cX2_placeOf 17 = .ok (.ifCond .ne 5, 3) := by decide +kernel
theorem dX2_placeOf_20 : decode cX2_placeOf 20 = .ok (.iload_n 3, 1) := by decide +kernel
theorem dX2_placeOf_21 : decode cX2_placeOf 21 = .ok (.ireturn, 1) := by decide +kernel
theorem dX2_placeOf_22 : decode cX2_placeOf 22 = .ok (.iinc 3 1, 3) := by decide +kernel
theorem dX2_placeOf_25 : decode cX2_placeOf 25 = .ok (.goto (-23), 3) := by decide +kernel
theorem dX2_placeOf_28 : decode cX2_placeOf 28 = .ok (.aload_n 0, 1) := by decide +kernel
theorem dX2_placeOf_29 : decode cX2_placeOf 29 = .ok (.getfield 39, 3) := by decide +kernel
theorem dX2_placeOf_32 : decode cX2_placeOf 32 = .ok (.ireturn, 1) := by decide +kernel
set_option maxRecDepth 20000 in
theorem ggX2_isAhead_X7_wide : GoodIn wsX2_isAhead wsX7_wide := goodIn_r _ [5, 6] (by decide +kernel) (by decide +kernel)
set_option maxRecDepth 20000 in
theorem gX2_isAhead_X7_wide_n31 : GoodIn wsX2_isAhead (wsX7_wide) := ggX2_isAhead_X7_wide
theorem dX2_isAhead_0 : decode cX2_isAhead 0 = .ok (.aload_n 0, 1) := by decide +kernel
theorem dX2_isAhead_1 : decode cX2_isAhead 1 = .ok (.getfield 21, 3) := by decide +kernel
theorem dX2_isAhead_4 : decode cX2_isAhead 4 = .ok (.iload_n 1, 1) := by decide +kernel
theorem dX2_isAhead_5 : decode cX2_isAhead 5 = .ok (.iaload, 1) := by decide +kernel
theorem dX2_isAhead_6 : decode cX2_isAhead 6 = .ok (.iload_n 2, 1) := by decide +kernel
theorem dX2_isAhead_7 : decode cX2_isAhead 7 = .ok (.if_icmp .ne 19, 3) := by decide +kernel
theorem dX2_isAhead_10 : decode cX2_isAhead 10 = .ok (.aload_n 0, 1) := by decide +kernel
theorem dX2_isAhead_11 : decode cX2_isAhead 11 = .ok (.getfield 25, 3) := by decide +kernel
theorem dX2_isAhead_14 : decode cX2_isAhead 14 = .ok (.iload_n 1, 1) := by decide +kernel
theorem dX2_isAhead_15 : decode cX2_isAhead 15 = .ok (.iaload, 1) := by decide +kernel
theorem dX2_isAhead_16 : decode cX2_isAhead 16 = .ok (.iload_n 3, 1) := by decide +kernel
theorem dX2_isAhead_17 : decode cX2_isAhead 17 = .ok (.if_icmp .ge 7, 3) := by decide +kernel
theorem dX2_isAhead_20 : decode cX2_isAhead 20 = .ok (.iconst 1, 1) := by decide +kernel
theorem dX2_isAhead_21 : decode cX2_isAhead 21 = .ok (.goto 4, 3) := by decide +kernel
theorem dX2_isAhead_24 : decode cX2_isAhead 24 = .ok (.iconst 0, 1) := by decide +kernel
theorem dX2_isAhead_25 : decode cX2_isAhead 25 = .ok (.ireturn, 1) := by decide +kernel
theorem dX2_isAhead_26 : decode cX2_isAhead 26 = .ok (.aload_n 0, 1) := by decide +kernel
theorem dX2_isAhead_27 : decode cX2_isAhead 27 = .ok (.getfield 21, 3) := by decide +kernel
theorem dX2_isAhead_30 : decode cX2_isAhead 30 = .ok (.iload_n 1, 1) := by decide +kernel
theorem dX2_isAhead_31 : decode cX2_isAhead 31 = .ok (.iaload, 1) := by decide +kernel
theorem dX2_isAhead_32 : decode cX2_isAhead 32 = .ok (.invokestatic 31, 3) := by decide +kernel
theorem dX2_isAhead_35 : decode cX2_isAhead 35 = .ok (.iload_n 2, 1) := by decide +kernel
theorem dX2_isAhead_36 : decode cX2_isAhead 36 = .ok (.invokestatic 31, 3) := by decide +kernel
theorem dX2_isAhead_39 : decode cX2_isAhead 39 = .ok (.lcmp, 1) := by decide +kernel
theorem dX2_isAhead_40 : decode cX2_isAhead 40 = .ok (.ifCond .ge 7, 3) := by decide +kernel
theorem dX2_isAhead_43 : decode cX2_isAhead 43 = .ok (.iconst 1, 1) := by decide +kernel
theorem dX2_isAhead_44 : decode cX2_isAhead 44 = .ok (.goto 4, 3) := by decide +kernel
theorem dX2_isAhead_47 : decode cX2_isAhead 47 = .ok (.iconst 0, 1) := by decide +kernel
theorem dX2_isAhead_48 : decode cX2_isAhead 48 = .ok (.ireturn, 1) := by decide +kernel
set_option maxRecDepth 20000 in
theorem ggX2_endOf_X7_begins : GoodIn wsX2_endOf wsX7_begins := goodIn_r _ [9, 10, 11, 8, 12, 13, 14, 3, 15] (by decide +kernel) (by decide +kernel)
set_option maxRecDepth 20000 in
theorem gX2_endOf_X7_begins_n52 : GoodIn wsX2_endOf (wsX7_begins) := ggX2_endOf_X7_begins
theorem dX2_endOf_0 : decode cX2_endOf 0 = .ok (.iload_n 1, 1) := by decide +kernel
theorem dX2_endOf_1 : decode cX2_endOf 1 = .ok (.iconst 0, 1) := by decide +kernel
theorem dX2_endOf_2 : decode cX2_endOf 2 = .ok (.invokestatic 9, 3) := by decide +kernel
theorem dX2_endOf_5 : decode cX2_endOf 5 = .ok (.istore 4, 2) := by decide +kernel
theorem dX2_endOf_7 : decode cX2_endOf 7 = .ok (.iload 4, 2) := by decide +kernel
theorem dX2_endOf_9 : decode cX2_endOf 9 = .ok (.aload_n 0, 1) := by decide +kernel
theorem dX2_endOf_10 : decode cX2_endOf 10 = .ok (.getfield 39, 3) := by decide +kernel
theorem dX2_endOf_13 : decode cX2_endOf 13 = .ok (.if_icmp .ge 27, 3) := by decide +kernel
theorem dX2_endOf_16 : decode cX2_endOf 16 = .ok (.aload_n 0, 1) := by decide +kernel
theorem dX2_endOf_17 : decode cX2_endOf 17 = .ok (.getfield 21, 3) := by decide +kernel
theorem dX2_endOf_20 : decode cX2_endOf 20 = .ok (.iload 4, 2) := by decide +kernel
theorem dX2_endOf_22 : decode cX2_endOf 22 = .ok (.iaload, 1) := by decide +kernel
theorem dX2_endOf_23 : decode cX2_endOf 23 = .ok (.iload_n 2, 1) := by decide +kernel
theorem dX2_endOf_24 : decode cX2_endOf 24 = .ok (.iload_n 3, 1) := by decide +kernel
theorem dX2_endOf_25 : decode cX2_endOf 25 = .ok (.invokestatic 52, 3) := by decide +kernel
theorem dX2_endOf_28 : decode cX2_endOf 28 = .ok (.ifCond .ne 6, 3) := by decide +kernel
theorem dX2_endOf_31 : decode cX2_endOf 31 = .ok (.iload 4, 2) := by decide +kernel
theorem dX2_endOf_33 : decode cX2_endOf 33 = .ok (.ireturn, 1) := by decide +kernel
theorem dX2_endOf_34 : decode cX2_endOf 34 = .ok (.iinc 4 1, 3) := by decide +kernel
theorem dX2_endOf_37 : decode cX2_endOf 37 = .ok (.goto (-30), 3) := by decide +kernel
theorem dX2_endOf_40 : decode cX2_endOf 40 = .ok (.aload_n 0, 1) := by decide +kernel
theorem dX2_endOf_41 : decode cX2_endOf 41 = .ok (.getfield 39, 3) := by decide +kernel
theorem dX2_endOf_44 : decode cX2_endOf 44 = .ok (.ireturn, 1) := by decide +kernel
set_option maxRecDepth 20000 in
theorem ggX2_lastHolder_X7_begins : GoodIn wsX2_lastHolder wsX7_begins := goodIn_r _ [10, 11, 12, 9, 13, 14, 3, 4, 5] (by decide +kernel) (by decide +kernel)
set_option maxRecDepth 20000 in
theorem gX2_lastHolder_X7_begins_n52 : GoodIn wsX2_lastHolder (wsX7_begins) := ggX2_lastHolder_X7_begins
theorem dX2_lastHolder_0 : decode cX2_lastHolder 0 = .ok (.iload_n 1, 1) := by decide +kernel
theorem dX2_lastHolder_1 : decode cX2_lastHolder 1 = .ok (.aload_n 0, 1) := by decide +kernel
theorem dX2_lastHolder_2 : decode cX2_lastHolder 2 = .ok (.getfield 39, 3) := by decide +kernel
theorem dX2_lastHolder_5 : decode cX2_lastHolder 5 = .ok (.invokestatic 55, 3) := by decide +kernel
theorem dX2_lastHolder_8 : decode cX2_lastHolder 8 = .ok (.iconst 1, 1) := by decide +kernel
theorem dX2_lastHolder_9 : decode cX2_lastHolder 9 = .ok (.isub, 1) := by decide +kernel
theorem dX2_lastHolder_10 : decode cX2_lastHolder 10 = .ok (.istore_n 3, 1) := by decide +kernel
theorem dX2_lastHolder_11 : decode cX2_lastHolder 11 = .ok (.iload_n 3, 1) := by decide +kernel
theorem dX2_lastHolder_12 : decode cX2_lastHolder 12 = .ok (.ifCond .lt 30, 3) := by decide +kernel
theorem dX2_lastHolder_15 : decode cX2_lastHolder 15 = .ok (.iload_n 2, 1) := by decide +kernel
theorem dX2_lastHolder_16 : decode cX2_lastHolder 16 = .ok (.aload_n 0, 1) := by decide +kernel
theorem dX2_lastHolder_17 : decode cX2_lastHolder 17 = .ok (.getfield 21, 3) := by decide +kernel
theorem dX2_lastHolder_20 : decode cX2_lastHolder 20 = .ok (.iload_n 3, 1) := by decide +kernel
theorem dX2_lastHolder_21 : decode cX2_lastHolder 21 = .ok (.iaload, 1) := by decide +kernel
theorem dX2_lastHolder_22 : decode cX2_lastHolder 22 = .ok (.aload_n 0, 1) := by decide +kernel
theorem dX2_lastHolder_23 : decode cX2_lastHolder 23 = .ok (.getfield 25, 3) := by decide +kernel
theorem dX2_lastHolder_26 : decode cX2_lastHolder 26 = .ok (.iload_n 3, 1) := by decide +kernel
theorem dX2_lastHolder_27 : decode cX2_lastHolder 27 = .ok (.iaload, 1) := by decide +kernel
theorem dX2_lastHolder_28 : decode cX2_lastHolder 28 = .ok (.invokestatic 52, 3) := by decide +kernel
theorem dX2_lastHolder_31 : decode cX2_lastHolder 31 = .ok (.ifCond .eq 5, 3) := by decide +kernel
theorem dX2_lastHolder_34 : decode cX2_lastHolder 34 = .ok (.iload_n 3, 1) := by decide +kernel
theorem dX2_lastHolder_35 : decode cX2_lastHolder 35 = .ok (.ireturn, 1) := by decide +kernel
theorem dX2_lastHolder_36 : decode cX2_lastHolder 36 = .ok (.iinc 3 (-1), 3) := by decide +kernel
theorem dX2_lastHolder_39 : decode cX2_lastHolder 39 = .ok (.goto (-28), 3) := by decide +kernel
theorem dX2_lastHolder_42 : decode cX2_lastHolder 42 = .ok (.iconst (-1), 1) := by decide +kernel
theorem dX2_lastHolder_43 : decode cX2_lastHolder 43 = .ok (.ireturn, 1) := by decide +kernel
set_option maxRecDepth 20000 in
theorem ggX2_goalAmong_X2_lastHolder : GoodIn wsX2_goalAmong wsX2_lastHolder := goodIn_r _ [6, 7, 8, 9, 10, 11, 12, 13, 14, 15, 16, 17, 18, 19, 20, 21, 22, 23, 24, 25] (by decide +kernel) (by decide +kernel)
set_option maxRecDepth 20000 in
theorem gX2_goalAmong_X2_lastHolder : GoodIn wsX2_goalAmong (wsV RX2 58 RX2 yX2_lastHolder wsX2_lastHolder) := goodIn_app (goodIn_of _ (by decide +kernel)) ggX2_goalAmong_X2_lastHolder
theorem dX2_goalAmong_0 : decode cX2_goalAmong 0 = .ok (.aload_n 0, 1) := by decide +kernel
theorem dX2_goalAmong_1 : decode cX2_goalAmong 1 = .ok (.iload_n 1, 1) := by decide +kernel
theorem dX2_goalAmong_2 : decode cX2_goalAmong 2 = .ok (.iload_n 2, 1) := by decide +kernel
theorem dX2_goalAmong_3 : decode cX2_goalAmong 3 = .ok (.invokevirtual 58, 3) := by decide +kernel
theorem dX2_goalAmong_6 : decode cX2_goalAmong 6 = .ok (.istore_n 3, 1) := by decide +kernel
theorem dX2_goalAmong_7 : decode cX2_goalAmong 7 = .ok (.iload_n 3, 1) := by decide +kernel
theorem dX2_goalAmong_8 : decode cX2_goalAmong 8 = .ok (.iconst (-1), 1) := by decide +kernel
theorem dX2_goalAmong_9 : decode cX2_goalAmong 9 = .ok (.if_icmp .ne 8, 3) := by decide +kernel
theorem dX2_goalAmong_12 : decode cX2_goalAmong 12 = .ok (.bipush 16, 2) := by decide +kernel
theorem dX2_goalAmong_14 : decode cX2_goalAmong 14 = .ok (.goto 9, 3) := by decide +kernel
theorem dX2_goalAmong_17 : decode cX2_goalAmong 17 = .ok (.aload_n 0, 1) := by decide +kernel
theorem dX2_goalAmong_18 : decode cX2_goalAmong 18 = .ok (.getfield 28, 3) := by decide +kernel
theorem dX2_goalAmong_21 : decode cX2_goalAmong 21 = .ok (.iload_n 3, 1) := by decide +kernel
theorem dX2_goalAmong_22 : decode cX2_goalAmong 22 = .ok (.iaload, 1) := by decide +kernel
theorem dX2_goalAmong_23 : decode cX2_goalAmong 23 = .ok (.ireturn, 1) := by decide +kernel
theorem dX2_clear_0 : decode cX2_clear 0 = .ok (.aload_n 0, 1) := by decide +kernel
theorem dX2_clear_1 : decode cX2_clear 1 = .ok (.iconst 0, 1) := by decide +kernel
theorem dX2_clear_2 : decode cX2_clear 2 = .ok (.putfield 39, 3) := by decide +kernel
theorem dX2_clear_5 : decode cX2_clear 5 = .ok (.return_, 1) := by decide +kernel
theorem dX2_append_0 : decode cX2_append 0 = .ok (.aload_n 0, 1) := by decide +kernel
theorem dX2_append_1 : decode cX2_append 1 = .ok (.getfield 39, 3) := by decide +kernel
theorem dX2_append_4 : decode cX2_append 4 = .ok (.aload_n 0, 1) := by decide +kernel
theorem dX2_append_5 : decode cX2_append 5 = .ok (.getfield 15, 3) := by decide +kernel
theorem dX2_append_8 : decode cX2_append 8 = .ok (.if_icmp .ge 43, 3) := by decide +kernel
theorem dX2_append_11 : decode cX2_append 11 = .ok (.aload_n 0, 1) := by decide +kernel
theorem dX2_append_12 : decode cX2_append 12 = .ok (.getfield 21, 3) := by decide +kernel
theorem dX2_append_15 : decode cX2_append 15 = .ok (.aload_n 0, 1) := by decide +kernel
theorem dX2_append_16 : decode cX2_append 16 = .ok (.getfield 39, 3) := by decide +kernel
theorem dX2_append_19 : decode cX2_append 19 = .ok (.iload_n 1, 1) := by decide +kernel
theorem dX2_append_20 : decode cX2_append 20 = .ok (.iastore, 1) := by decide +kernel
theorem dX2_append_21 : decode cX2_append 21 = .ok (.aload_n 0, 1) := by decide +kernel
theorem dX2_append_22 : decode cX2_append 22 = .ok (.getfield 25, 3) := by decide +kernel
theorem dX2_append_25 : decode cX2_append 25 = .ok (.aload_n 0, 1) := by decide +kernel
theorem dX2_append_26 : decode cX2_append 26 = .ok (.getfield 39, 3) := by decide +kernel
theorem dX2_append_29 : decode cX2_append 29 = .ok (.iload_n 2, 1) := by decide +kernel
theorem dX2_append_30 : decode cX2_append 30 = .ok (.iastore, 1) := by decide +kernel
theorem dX2_append_31 : decode cX2_append 31 = .ok (.aload_n 0, 1) := by decide +kernel
theorem dX2_append_32 : decode cX2_append 32 = .ok (.getfield 28, 3) := by decide +kernel
theorem dX2_append_35 : decode cX2_append 35 = .ok (.aload_n 0, 1) := by decide +kernel
theorem dX2_append_36 : decode cX2_append 36 = .ok (.getfield 39, 3) := by decide +kernel
theorem dX2_append_39 : decode cX2_append 39 = .ok (.iload_n 3, 1) := by decide +kernel
theorem dX2_append_40 : decode cX2_append 40 = .ok (.iastore, 1) := by decide +kernel
theorem dX2_append_41 : decode cX2_append 41 = .ok (.aload_n 0, 1) := by decide +kernel
theorem dX2_append_42 : decode cX2_append 42 = .ok (.dup, 1) := by decide +kernel
theorem dX2_append_43 : decode cX2_append 43 = .ok (.getfield 39, 3) := by decide +kernel
theorem dX2_append_46 : decode cX2_append 46 = .ok (.iconst 1, 1) := by decide +kernel
theorem dX2_append_47 : decode cX2_append 47 = .ok (.iadd, 1) := by decide +kernel
theorem dX2_append_48 : decode cX2_append 48 = .ok (.putfield 39, 3) := by decide +kernel
theorem dX2_append_51 : decode cX2_append 51 = .ok (.return_, 1) := by decide +kernel
set_option maxRecDepth 20000 in
theorem ggX2_insert_X2_write : GoodIn wsX2_insert wsX2_write := goodIn_r _ [10, 3, 4, 5, 11, 12, 13, 14, 15] (by decide +kernel) (by decide +kernel)
set_option maxRecDepth 20000 in
theorem gX2_insert_X2_write : GoodIn wsX2_insert (wsV RX2 61 RX2 yX2_write wsX2_write) := goodIn_app (goodIn_of _ (by decide +kernel)) ggX2_insert_X2_write
theorem dX2_insert_0 : decode cX2_insert 0 = .ok (.aload_n 0, 1) := by decide +kernel
theorem dX2_insert_1 : decode cX2_insert 1 = .ok (.getfield 39, 3) := by decide +kernel
theorem dX2_insert_4 : decode cX2_insert 4 = .ok (.aload_n 0, 1) := by decide +kernel
theorem dX2_insert_5 : decode cX2_insert 5 = .ok (.getfield 15, 3) := by decide +kernel
theorem dX2_insert_8 : decode cX2_insert 8 = .ok (.if_icmp .ge 15, 3) := by decide +kernel
theorem dX2_insert_11 : decode cX2_insert 11 = .ok (.iload_n 1, 1) := by decide +kernel
theorem dX2_insert_12 : decode cX2_insert 12 = .ok (.ifCond .lt 11, 3) := by decide +kernel
theorem dX2_insert_15 : decode cX2_insert 15 = .ok (.iload_n 1, 1) := by decide +kernel
theorem dX2_insert_16 : decode cX2_insert 16 = .ok (.aload_n 0, 1) := by decide +kernel
theorem dX2_insert_17 : decode cX2_insert 17 = .ok (.getfield 39, 3) := by decide +kernel
theorem dX2_insert_20 : decode cX2_insert 20 = .ok (.if_icmp .le 5, 3) := by decide +kernel
theorem dX2_insert_23 : decode cX2_insert 23 = .ok (.iconst 0, 1) := by decide +kernel
theorem dX2_insert_24 : decode cX2_insert 24 = .ok (.ireturn, 1) := by decide +kernel
theorem dX2_insert_25 : decode cX2_insert 25 = .ok (.aload_n 0, 1) := by decide +kernel
theorem dX2_insert_26 : decode cX2_insert 26 = .ok (.getfield 39, 3) := by decide +kernel
theorem dX2_insert_29 : decode cX2_insert 29 = .ok (.istore 5, 2) := by decide +kernel
theorem dX2_insert_31 : decode cX2_insert 31 = .ok (.iload 5, 2) := by decide +kernel
theorem dX2_insert_33 : decode cX2_insert 33 = .ok (.iload_n 1, 1) := by decide +kernel
theorem dX2_insert_34 : decode cX2_insert 34 = .ok (.if_icmp .le 42, 3) := by decide +kernel
theorem dX2_insert_37 : decode cX2_insert 37 = .ok (.aload_n 0, 1) := by decide +kernel
theorem dX2_insert_38 : decode cX2_insert 38 = .ok (.iload 5, 2) := by decide +kernel
theorem dX2_insert_40 : decode cX2_insert 40 = .ok (.aload_n 0, 1) := by decide +kernel
theorem dX2_insert_41 : decode cX2_insert 41 = .ok (.getfield 21, 3) := by decide +kernel
theorem dX2_insert_44 : decode cX2_insert 44 = .ok (.iload 5, 2) := by decide +kernel
theorem dX2_insert_46 : decode cX2_insert 46 = .ok (.iconst 1, 1) := by decide +kernel
theorem dX2_insert_47 : decode cX2_insert 47 = .ok (.isub, 1) := by decide +kernel
theorem dX2_insert_48 : decode cX2_insert 48 = .ok (.iaload, 1) := by decide +kernel
theorem dX2_insert_49 : decode cX2_insert 49 = .ok (.aload_n 0, 1) := by decide +kernel
theorem dX2_insert_50 : decode cX2_insert 50 = .ok (.getfield 25, 3) := by decide +kernel
theorem dX2_insert_53 : decode cX2_insert 53 = .ok (.iload 5, 2) := by decide +kernel
theorem dX2_insert_55 : decode cX2_insert 55 = .ok (.iconst 1, 1) := by decide +kernel
theorem dX2_insert_56 : decode cX2_insert 56 = .ok (.isub, 1) := by decide +kernel
theorem dX2_insert_57 : decode cX2_insert 57 = .ok (.iaload, 1) := by decide +kernel
theorem dX2_insert_58 : decode cX2_insert 58 = .ok (.aload_n 0, 1) := by decide +kernel
theorem dX2_insert_59 : decode cX2_insert 59 = .ok (.getfield 28, 3) := by decide +kernel
theorem dX2_insert_62 : decode cX2_insert 62 = .ok (.iload 5, 2) := by decide +kernel
theorem dX2_insert_64 : decode cX2_insert 64 = .ok (.iconst 1, 1) := by decide +kernel
theorem dX2_insert_65 : decode cX2_insert 65 = .ok (.isub, 1) := by decide +kernel
theorem dX2_insert_66 : decode cX2_insert 66 = .ok (.iaload, 1) := by decide +kernel
theorem dX2_insert_67 : decode cX2_insert 67 = .ok (.invokevirtual 61, 3) := by decide +kernel
theorem dX2_insert_70 : decode cX2_insert 70 = .ok (.iinc 5 (-1), 3) := by decide +kernel
theorem dX2_insert_73 : decode cX2_insert 73 = .ok (.goto (-42), 3) := by decide +kernel
theorem dX2_insert_76 : decode cX2_insert 76 = .ok (.aload_n 0, 1) := by decide +kernel
theorem dX2_insert_77 : decode cX2_insert 77 = .ok (.iload_n 1, 1) := by decide +kernel
theorem dX2_insert_78 : decode cX2_insert 78 = .ok (.iload_n 2, 1) := by decide +kernel
theorem dX2_insert_79 : decode cX2_insert 79 = .ok (.iload_n 3, 1) := by decide +kernel
theorem dX2_insert_80 : decode cX2_insert 80 = .ok (.iload 4, 2) := by decide +kernel
theorem dX2_insert_82 : decode cX2_insert 82 = .ok (.invokevirtual 61, 3) := by decide +kernel
theorem dX2_insert_85 : decode cX2_insert 85 = .ok (.aload_n 0, 1) := by decide +kernel
theorem dX2_insert_86 : decode cX2_insert 86 = .ok (.dup, 1) := by decide +kernel
theorem dX2_insert_87 : decode cX2_insert 87 = .ok (.getfield 39, 3) := by decide +kernel
theorem dX2_insert_90 : decode cX2_insert 90 = .ok (.iconst 1, 1) := by decide +kernel
theorem dX2_insert_91 : decode cX2_insert 91 = .ok (.iadd, 1) := by decide +kernel
theorem dX2_insert_92 : decode cX2_insert 92 = .ok (.putfield 39, 3) := by decide +kernel
theorem dX2_insert_95 : decode cX2_insert 95 = .ok (.iconst 1, 1) := by decide +kernel
theorem dX2_insert_96 : decode cX2_insert 96 = .ok (.ireturn, 1) := by decide +kernel
set_option maxRecDepth 20000 in
theorem ggX2_removeAt_X2_write : GoodIn wsX2_removeAt wsX2_write := goodIn_r _ [9, 2, 3, 4, 10, 11, 12, 13, 14] (by decide +kernel) (by decide +kernel)
set_option maxRecDepth 20000 in
theorem gX2_removeAt_X2_write : GoodIn wsX2_removeAt (wsV RX2 61 RX2 yX2_write wsX2_write) := goodIn_app (goodIn_of _ (by decide +kernel)) ggX2_removeAt_X2_write
theorem dX2_removeAt_0 : decode cX2_removeAt 0 = .ok (.iload_n 1, 1) := by decide +kernel
theorem dX2_removeAt_1 : decode cX2_removeAt 1 = .ok (.ifCond .lt 11, 3) := by decide +kernel
theorem dX2_removeAt_4 : decode cX2_removeAt 4 = .ok (.iload_n 1, 1) := by decide +kernel
theorem dX2_removeAt_5 : decode cX2_removeAt 5 = .ok (.aload_n 0, 1) := by decide +kernel
theorem dX2_removeAt_6 : decode cX2_removeAt 6 = .ok (.getfield 39, 3) := by decide +kernel
theorem dX2_removeAt_9 : decode cX2_removeAt 9 = .ok (.if_icmp .lt 4, 3) := by decide +kernel
theorem dX2_removeAt_12 : decode cX2_removeAt 12 = .ok (.return_, 1) := by decide +kernel
theorem dX2_removeAt_13 : decode cX2_removeAt 13 = .ok (.aload_n 0, 1) := by decide +kernel
theorem dX2_removeAt_14 : decode cX2_removeAt 14 = .ok (.dup, 1) := by decide +kernel
theorem dX2_removeAt_15 : decode cX2_removeAt 15 = .ok (.getfield 39, 3) := by decide +kernel
theorem dX2_removeAt_18 : decode cX2_removeAt 18 = .ok (.iconst 1, 1) := by decide +kernel
theorem dX2_removeAt_19 : decode cX2_removeAt 19 = .ok (.isub, 1) := by decide +kernel
theorem dX2_removeAt_20 : decode cX2_removeAt 20 = .ok (.putfield 39, 3) := by decide +kernel
theorem dX2_removeAt_23 : decode cX2_removeAt 23 = .ok (.iload_n 1, 1) := by decide +kernel
theorem dX2_removeAt_24 : decode cX2_removeAt 24 = .ok (.istore_n 2, 1) := by decide +kernel
theorem dX2_removeAt_25 : decode cX2_removeAt 25 = .ok (.iload_n 2, 1) := by decide +kernel
theorem dX2_removeAt_26 : decode cX2_removeAt 26 = .ok (.aload_n 0, 1) := by decide +kernel
theorem dX2_removeAt_27 : decode cX2_removeAt 27 = .ok (.getfield 39, 3) := by decide +kernel
theorem dX2_removeAt_30 : decode cX2_removeAt 30 = .ok (.if_icmp .ge 38, 3) := by decide +kernel
theorem dX2_removeAt_33 : decode cX2_removeAt 33 = .ok (.aload_n 0, 1) := by decide +kernel
theorem dX2_removeAt_34 : decode cX2_removeAt 34 = .ok (.iload_n 2, 1) := by decide +kernel
theorem dX2_removeAt_35 : decode cX2_removeAt 35 = .ok (.aload_n 0, 1) := by decide +kernel
theorem dX2_removeAt_36 : decode cX2_removeAt 36 = .ok (.getfield 21, 3) := by decide +kernel
theorem dX2_removeAt_39 : decode cX2_removeAt 39 = .ok (.iload_n 2, 1) := by decide +kernel
theorem dX2_removeAt_40 : decode cX2_removeAt 40 = .ok (.iconst 1, 1) := by decide +kernel
theorem dX2_removeAt_41 : decode cX2_removeAt 41 = .ok (.iadd, 1) := by decide +kernel
theorem dX2_removeAt_42 : decode cX2_removeAt 42 = .ok (.iaload, 1) := by decide +kernel
theorem dX2_removeAt_43 : decode cX2_removeAt 43 = .ok (.aload_n 0, 1) := by decide +kernel
theorem dX2_removeAt_44 : decode cX2_removeAt 44 = .ok (.getfield 25, 3) := by decide +kernel
theorem dX2_removeAt_47 : decode cX2_removeAt 47 = .ok (.iload_n 2, 1) := by decide +kernel
theorem dX2_removeAt_48 : decode cX2_removeAt 48 = .ok (.iconst 1, 1) := by decide +kernel
theorem dX2_removeAt_49 : decode cX2_removeAt 49 = .ok (.iadd, 1) := by decide +kernel
theorem dX2_removeAt_50 : decode cX2_removeAt 50 = .ok (.iaload, 1) := by decide +kernel
theorem dX2_removeAt_51 : decode cX2_removeAt 51 = .ok (.aload_n 0, 1) := by decide +kernel
theorem dX2_removeAt_52 : decode cX2_removeAt 52 = .ok (.getfield 28, 3) := by decide +kernel
theorem dX2_removeAt_55 : decode cX2_removeAt 55 = .ok (.iload_n 2, 1) := by decide +kernel
theorem dX2_removeAt_56 : decode cX2_removeAt 56 = .ok (.iconst 1, 1) := by decide +kernel
theorem dX2_removeAt_57 : decode cX2_removeAt 57 = .ok (.iadd, 1) := by decide +kernel
theorem dX2_removeAt_58 : decode cX2_removeAt 58 = .ok (.iaload, 1) := by decide +kernel
theorem dX2_removeAt_59 : decode cX2_removeAt 59 = .ok (.invokevirtual 61, 3) := by decide +kernel
theorem dX2_removeAt_62 : decode cX2_removeAt 62 = .ok (.iinc 2 1, 3) := by decide +kernel
theorem dX2_removeAt_65 : decode cX2_removeAt 65 = .ok (.goto (-40), 3) := by decide +kernel
theorem dX2_removeAt_68 : decode cX2_removeAt 68 = .ok (.return_, 1) := by decide +kernel
set_option maxRecDepth 20000 in
theorem ggX2_become_X2_write : GoodIn wsX2_become wsX2_write := goodIn_r _ [14, 7, 8, 9, 15, 16, 17, 18, 19] (by decide +kernel) (by decide +kernel)
set_option maxRecDepth 20000 in
theorem gX2_become_X2_write : GoodIn wsX2_become (wsV RX2 61 RX2 yX2_write wsX2_write) := goodIn_app (goodIn_of _ (by decide +kernel)) ggX2_become_X2_write
theorem dX2_become_0 : decode cX2_become 0 = .ok (.aload_n 1, 1) := by decide +kernel
theorem dX2_become_1 : decode cX2_become 1 = .ok (.getfield 39, 3) := by decide +kernel
theorem dX2_become_4 : decode cX2_become 4 = .ok (.aload_n 0, 1) := by decide +kernel
theorem dX2_become_5 : decode cX2_become 5 = .ok (.getfield 15, 3) := by decide +kernel
theorem dX2_become_8 : decode cX2_become 8 = .ok (.invokestatic 55, 3) := by decide +kernel
theorem dX2_become_11 : decode cX2_become 11 = .ok (.istore_n 2, 1) := by decide +kernel
theorem dX2_become_12 : decode cX2_become 12 = .ok (.iconst 0, 1) := by decide +kernel
theorem dX2_become_13 : decode cX2_become 13 = .ok (.istore_n 3, 1) := by decide +kernel
theorem dX2_become_14 : decode cX2_become 14 = .ok (.iload_n 3, 1) := by decide +kernel
theorem dX2_become_15 : decode cX2_become 15 = .ok (.iload_n 2, 1) := by decide +kernel
theorem dX2_become_16 : decode cX2_become 16 = .ok (.if_icmp .ge 32, 3) := by decide +kernel
theorem dX2_become_19 : decode cX2_become 19 = .ok (.aload_n 0, 1) := by decide +kernel
theorem dX2_become_20 : decode cX2_become 20 = .ok (.iload_n 3, 1) := by decide +kernel
theorem dX2_become_21 : decode cX2_become 21 = .ok (.aload_n 1, 1) := by decide +kernel
theorem dX2_become_22 : decode cX2_become 22 = .ok (.getfield 21, 3) := by decide +kernel
theorem dX2_become_25 : decode cX2_become 25 = .ok (.iload_n 3, 1) := by decide +kernel
theorem dX2_become_26 : decode cX2_become 26 = .ok (.iaload, 1) := by decide +kernel
theorem dX2_become_27 : decode cX2_become 27 = .ok (.aload_n 1, 1) := by decide +kernel
theorem dX2_become_28 : decode cX2_become 28 = .ok (.getfield 25, 3) := by decide +kernel
theorem dX2_become_31 : decode cX2_become 31 = .ok (.iload_n 3, 1) := by decide +kernel
theorem dX2_become_32 : decode cX2_become 32 = .ok (.iaload, 1) := by decide +kernel
theorem dX2_become_33 : decode cX2_become 33 = .ok (.aload_n 1, 1) := by decide +kernel
theorem dX2_become_34 : decode cX2_become 34 = .ok (.getfield 28, 3) := by decide +kernel
theorem dX2_become_37 : decode cX2_become 37 = .ok (.iload_n 3, 1) := by decide +kernel
theorem dX2_become_38 : decode cX2_become 38 = .ok (.iaload, 1) := by decide +kernel
theorem dX2_become_39 : decode cX2_become 39 = .ok (.invokevirtual 61, 3) := by decide +kernel
theorem dX2_become_42 : decode cX2_become 42 = .ok (.iinc 3 1, 3) := by decide +kernel
theorem dX2_become_45 : decode cX2_become 45 = .ok (.goto (-31), 3) := by decide +kernel
theorem dX2_become_48 : decode cX2_become 48 = .ok (.aload_n 0, 1) := by decide +kernel
theorem dX2_become_49 : decode cX2_become 49 = .ok (.iload_n 2, 1) := by decide +kernel
theorem dX2_become_50 : decode cX2_become 50 = .ok (.putfield 39, 3) := by decide +kernel
theorem dX2_become_53 : decode cX2_become 53 = .ok (.return_, 1) := by decide +kernel
theorem dX2_write_0 : decode cX2_write 0 = .ok (.aload_n 0, 1) := by decide +kernel
theorem dX2_write_1 : decode cX2_write 1 = .ok (.getfield 21, 3) := by decide +kernel
theorem dX2_write_4 : decode cX2_write 4 = .ok (.iload_n 1, 1) := by decide +kernel
theorem dX2_write_5 : decode cX2_write 5 = .ok (.iload_n 2, 1) := by decide +kernel
theorem dX2_write_6 : decode cX2_write 6 = .ok (.iastore, 1) := by decide +kernel
theorem dX2_write_7 : decode cX2_write 7 = .ok (.aload_n 0, 1) := by decide +kernel
theorem dX2_write_8 : decode cX2_write 8 = .ok (.getfield 25, 3) := by decide +kernel
theorem dX2_write_11 : decode cX2_write 11 = .ok (.iload_n 1, 1) := by decide +kernel
theorem dX2_write_12 : decode cX2_write 12 = .ok (.iload_n 3, 1) := by decide +kernel
theorem dX2_write_13 : decode cX2_write 13 = .ok (.iastore, 1) := by decide +kernel
theorem dX2_write_14 : decode cX2_write 14 = .ok (.aload_n 0, 1) := by decide +kernel
theorem dX2_write_15 : decode cX2_write 15 = .ok (.getfield 28, 3) := by decide +kernel
theorem dX2_write_18 : decode cX2_write 18 = .ok (.iload_n 1, 1) := by decide +kernel
theorem dX2_write_19 : decode cX2_write 19 = .ok (.iload 4, 2) := by decide +kernel
theorem dX2_write_21 : decode cX2_write 21 = .ok (.iastore, 1) := by decide +kernel
theorem dX2_write_22 : decode cX2_write 22 = .ok (.return_, 1) := by decide +kernel
set_option maxRecDepth 20000 in
theorem ggX2_merge_X2_clear : GoodIn wsX2_merge wsX2_clear := goodIn_r _ [8, 1, 48, 49, 50, 51, 52] (by decide +kernel) (by decide +kernel)
set_option maxRecDepth 20000 in
theorem gX2_merge_X2_clear : GoodIn wsX2_merge (wsV RX2 65 RX2 yX2_clear wsX2_clear) := goodIn_app (goodIn_of _ (by decide +kernel)) ggX2_merge_X2_clear
set_option maxRecDepth 20000 in
theorem ggX2_merge_X2_isAhead : GoodIn wsX2_merge wsX2_isAhead := goodIn_r _ [12, 2, 3, 13, 14, 15, 16, 48, 49, 50, 51, 52] (by decide +kernel) (by decide +kernel)
set_option maxRecDepth 20000 in
theorem gX2_merge_X2_isAhead : GoodIn wsX2_merge (wsV RX2 49 RX2 yX2_isAhead wsX2_isAhead) := goodIn_app (goodIn_of _ (by decide +kernel)) ggX2_merge_X2_isAhead
set_option maxRecDepth 20000 in
theorem ggX2_merge_X2_isAt : GoodIn wsX2_merge wsX2_isAt := goodIn_r _ [20, 1, 2, 3, 48, 49, 50, 51, 52] (by decide +kernel) (by decide +kernel)
set_option maxRecDepth 20000 in
theorem gX2_merge_X2_isAt : GoodIn wsX2_merge (wsV RX2 45 RX2 yX2_isAt wsX2_isAt) := goodIn_app (goodIn_of _ (by decide +kernel)) ggX2_merge_X2_isAt
set_option maxRecDepth 20000 in
theorem ggX2_merge_X2_goalAmong : GoodIn wsX2_merge wsX2_goalAmong := goodIn_r _ [24, 25, 26, 27, 28, 7, 29, 1, 30, 31, 32, 33, 2, 3, 34, 14, 35, 36, 37, 38, 39, 48, 49, 50, 51, 52] (by decide +kernel) (by decide +kernel)
set_option maxRecDepth 20000 in
theorem gX2_merge_X2_goalAmong : GoodIn wsX2_merge (wsV RX2 68 RX2 yX2_goalAmong wsX2_goalAmong) := goodIn_app (goodIn_of _ (by decide +kernel)) ggX2_merge_X2_goalAmong
set_option maxRecDepth 20000 in
theorem ggX2_merge_X2_mixed : GoodIn wsX2_merge wsX2_mixed := goodIn_r _ [42] (by decide +kernel) (by decide +kernel)
set_option maxRecDepth 20000 in
theorem gX2_merge_X2_mixed : GoodIn wsX2_merge (va_wsS RX2 71 yX2_mixed wsX2_mixed) := goodIn_app (goodIn_of _ (by decide +kernel)) ggX2_merge_X2_mixed
set_option maxRecDepth 20000 in
theorem ggX2_merge_X2_append : GoodIn wsX2_merge wsX2_append := goodIn_r _ [46, 1, 47, 2, 3, 25, 48, 49, 50, 51, 52] (by decide +kernel) (by decide +kernel)
set_option maxRecDepth 20000 in
theorem gX2_merge_X2_append : GoodIn wsX2_merge (wsV RX2 75 RX2 yX2_append wsX2_append) := goodIn_app (goodIn_of _ (by decide +kernel)) ggX2_merge_X2_append
theorem dX2_merge_0 : decode cX2_merge 0 = .ok (.aload_n 0, 1) := by decide +kernel
theorem dX2_merge_1 : decode cX2_merge 1 = .ok (.invokevirtual 65, 3) := by decide +kernel
theorem dX2_merge_4 : decode cX2_merge 4 = .ok (.iconst 0, 1) := by decide +kernel
theorem dX2_merge_5 : decode cX2_merge 5 = .ok (.istore 4, 2) := by decide +kernel
theorem dX2_merge_7 : decode cX2_merge 7 = .ok (.iconst 0, 1) := by decide +kernel
theorem dX2_merge_8 : decode cX2_merge 8 = .ok (.istore 5, 2) := by decide +kernel
theorem dX2_merge_10 : decode cX2_merge 10 = .ok (.iconst 0, 1) := by decide +kernel
theorem dX2_merge_11 : decode cX2_merge 11 = .ok (.istore 6, 2) := by decide +kernel
theorem dX2_merge_13 : decode cX2_merge 13 = .ok (.iload 6, 2) := by decide +kernel
theorem dX2_merge_15 : decode cX2_merge 15 = .ok (.sipush 128, 3) := by decide +kernel
theorem dX2_merge_18 : decode cX2_merge 18 = .ok (.if_icmp .ge 183, 3) := by decide +kernel
theorem dX2_merge_21 : decode cX2_merge 21 = .ok (.iload 4, 2) := by decide +kernel
theorem dX2_merge_23 : decode cX2_merge 23 = .ok (.aload_n 1, 1) := by decide +kernel
theorem dX2_merge_24 : decode cX2_merge 24 = .ok (.getfield 39, 3) := by decide +kernel
theorem dX2_merge_27 : decode cX2_merge 27 = .ok (.if_icmp .lt 12, 3) := by decide +kernel
theorem dX2_merge_30 : decode cX2_merge 30 = .ok (.iload 5, 2) := by decide +kernel
theorem dX2_merge_32 : decode cX2_merge 32 = .ok (.aload_n 2, 1) := by decide +kernel
theorem dX2_merge_33 : decode cX2_merge 33 = .ok (.getfield 39, 3) := by decide +kernel
theorem dX2_merge_36 : decode cX2_merge 36 = .ok (.if_icmp .ge 165, 3) := by decide +kernel
theorem dX2_merge_39 : decode cX2_merge 39 = .ok (.iload 5, 2) := by decide +kernel
theorem dX2_merge_41 : decode cX2_merge 41 = .ok (.aload_n 2, 1) := by decide +kernel
theorem dX2_merge_42 : decode cX2_merge 42 = .ok (.getfield 39, 3) := by decide +kernel
theorem dX2_merge_45 : decode cX2_merge 45 = .ok (.if_icmp .ge 35, 3) := by decide +kernel
theorem dX2_merge_48 : decode cX2_merge 48 = .ok (.iload 4, 2) := by decide +kernel
theorem dX2_merge_50 : decode cX2_merge 50 = .ok (.aload_n 1, 1) := by decide +kernel
theorem dX2_merge_51 : decode cX2_merge 51 = .ok (.getfield 39, 3) := by decide +kernel
theorem dX2_merge_54 : decode cX2_merge 54 = .ok (.if_icmp .ge 30, 3) := by decide +kernel
theorem dX2_merge_57 : decode cX2_merge 57 = .ok (.aload_n 2, 1) := by decide +kernel
theorem dX2_merge_58 : decode cX2_merge 58 = .ok (.iload 5, 2) := by decide +kernel
theorem dX2_merge_60 : decode cX2_merge 60 = .ok (.aload_n 1, 1) := by decide +kernel
theorem dX2_merge_61 : decode cX2_merge 61 = .ok (.getfield 21, 3) := by decide +kernel
theorem dX2_merge_64 : decode cX2_merge 64 = .ok (.iload 4, 2) := by decide +kernel
theorem dX2_merge_66 : decode cX2_merge 66 = .ok (.iaload, 1) := by decide +kernel
theorem dX2_merge_67 : decode cX2_merge 67 = .ok (.aload_n 1, 1) := by decide +kernel
theorem dX2_merge_68 : decode cX2_merge 68 = .ok (.getfield 25, 3) := by decide +kernel
theorem dX2_merge_71 : decode cX2_merge 71 = .ok (.iload 4, 2) := by decide +kernel
theorem dX2_merge_73 : decode cX2_merge 73 = .ok (.iaload, 1) := by decide +kernel
theorem dX2_merge_74 : decode cX2_merge 74 = .ok (.invokevirtual 49, 3) := by decide +kernel
theorem dX2_merge_77 : decode cX2_merge 77 = .ok (.ifCond .ne 7, 3) := by decide +kernel
theorem dX2_merge_80 : decode cX2_merge 80 = .ok (.iconst 1, 1) := by decide +kernel
theorem dX2_merge_81 : decode cX2_merge 81 = .ok (.goto 4, 3) := by decide +kernel
theorem dX2_merge_84 : decode cX2_merge 84 = .ok (.iconst 0, 1) := by decide +kernel
theorem dX2_merge_85 : decode cX2_merge 85 = .ok (.istore 7, 2) := by decide +kernel
theorem dX2_merge_87 : decode cX2_merge 87 = .ok (.iload 7, 2) := by decide +kernel
theorem dX2_merge_89 : decode cX2_merge 89 = .ok (.ifCond .eq 13, 3) := by decide +kernel
theorem dX2_merge_92 : decode cX2_merge 92 = .ok (.aload_n 1, 1) := by decide +kernel
theorem dX2_merge_93 : decode cX2_merge 93 = .ok (.getfield 21, 3) := by decide +kernel
theorem dX2_merge_96 : decode cX2_merge 96 = .ok (.iload 4, 2) := by decide +kernel
theorem dX2_merge_98 : decode cX2_merge 98 = .ok (.iaload, 1) := by decide +kernel
theorem dX2_merge_99 : decode cX2_merge 99 = .ok (.goto 10, 3) := by decide +kernel
theorem dX2_merge_102 : decode cX2_merge 102 = .ok (.aload_n 2, 1) := by decide +kernel
theorem dX2_merge_103 : decode cX2_merge 103 = .ok (.getfield 21, 3) := by decide +kernel
theorem dX2_merge_106 : decode cX2_merge 106 = .ok (.iload 5, 2) := by decide +kernel
theorem dX2_merge_108 : decode cX2_merge 108 = .ok (.iaload, 1) := by decide +kernel
theorem dX2_merge_109 : decode cX2_merge 109 = .ok (.istore 8, 2) := by decide +kernel
theorem dX2_merge_111 : decode cX2_merge 111 = .ok (.iload 7, 2) := by decide +kernel
theorem dX2_merge_113 : decode cX2_merge 113 = .ok (.ifCond .eq 13, 3) := by decide +kernel
theorem dX2_merge_116 : decode cX2_merge 116 = .ok (.aload_n 1, 1) := by decide +kernel
theorem dX2_merge_117 : decode cX2_merge 117 = .ok (.getfield 25, 3) := by decide +kernel
theorem dX2_merge_120 : decode cX2_merge 120 = .ok (.iload 4, 2) := by decide +kernel
theorem dX2_merge_122 : decode cX2_merge 122 = .ok (.iaload, 1) := by decide +kernel
theorem dX2_merge_123 : decode cX2_merge 123 = .ok (.goto 10, 3) := by decide +kernel
theorem dX2_merge_126 : decode cX2_merge 126 = .ok (.aload_n 2, 1) := by decide +kernel
theorem dX2_merge_127 : decode cX2_merge 127 = .ok (.getfield 25, 3) := by decide +kernel
theorem dX2_merge_130 : decode cX2_merge 130 = .ok (.iload 5, 2) := by decide +kernel
theorem dX2_merge_132 : decode cX2_merge 132 = .ok (.iaload, 1) := by decide +kernel
theorem dX2_merge_133 : decode cX2_merge 133 = .ok (.istore 9, 2) := by decide +kernel
theorem dX2_merge_135 : decode cX2_merge 135 = .ok (.aload_n 1, 1) := by decide +kernel
theorem dX2_merge_136 : decode cX2_merge 136 = .ok (.iload 4, 2) := by decide +kernel
theorem dX2_merge_138 : decode cX2_merge 138 = .ok (.iload 8, 2) := by decide +kernel
theorem dX2_merge_140 : decode cX2_merge 140 = .ok (.iload 9, 2) := by decide +kernel
theorem dX2_merge_142 : decode cX2_merge 142 = .ok (.invokevirtual 45, 3) := by decide +kernel
theorem dX2_merge_145 : decode cX2_merge 145 = .ok (.ifCond .eq 6, 3) := by decide +kernel
theorem dX2_merge_148 : decode cX2_merge 148 = .ok (.iinc 4 1, 3) := by decide +kernel
theorem dX2_merge_151 : decode cX2_merge 151 = .ok (.aload_n 2, 1) := by decide +kernel
theorem dX2_merge_152 : decode cX2_merge 152 = .ok (.iload 5, 2) := by decide +kernel
theorem dX2_merge_154 : decode cX2_merge 154 = .ok (.iload 8, 2) := by decide +kernel
theorem dX2_merge_156 : decode cX2_merge 156 = .ok (.iload 9, 2) := by decide +kernel
theorem dX2_merge_158 : decode cX2_merge 158 = .ok (.invokevirtual 45, 3) := by decide +kernel
theorem dX2_merge_161 : decode cX2_merge 161 = .ok (.ifCond .eq 6, 3) := by decide +kernel
theorem dX2_merge_164 : decode cX2_merge 164 = .ok (.iinc 5 1, 3) := by decide +kernel
theorem dX2_merge_167 : decode cX2_merge 167 = .ok (.aload_n 0, 1) := by decide +kernel
theorem dX2_merge_168 : decode cX2_merge 168 = .ok (.iload 8, 2) := by decide +kernel
theorem dX2_merge_170 : decode cX2_merge 170 = .ok (.iload 9, 2) := by decide +kernel
theorem dX2_merge_172 : decode cX2_merge 172 = .ok (.iload_n 3, 1) := by decide +kernel
theorem dX2_merge_173 : decode cX2_merge 173 = .ok (.aload_n 1, 1) := by decide +kernel
theorem dX2_merge_174 : decode cX2_merge 174 = .ok (.iload 4, 2) := by decide +kernel
theorem dX2_merge_176 : decode cX2_merge 176 = .ok (.iload 8, 2) := by decide +kernel
theorem dX2_merge_178 : decode cX2_merge 178 = .ok (.invokevirtual 68, 3) := by decide +kernel
theorem dX2_merge_181 : decode cX2_merge 181 = .ok (.aload_n 2, 1) := by decide +kernel
theorem dX2_merge_182 : decode cX2_merge 182 = .ok (.iload 5, 2) := by decide +kernel
theorem dX2_merge_184 : decode cX2_merge 184 = .ok (.iload 8, 2) := by decide +kernel
theorem dX2_merge_186 : decode cX2_merge 186 = .ok (.invokevirtual 68, 3) := by decide +kernel
theorem dX2_merge_189 : decode cX2_merge 189 = .ok (.invokestatic 71, 3) := by decide +kernel
theorem dX2_merge_192 : decode cX2_merge 192 = .ok (.invokevirtual 75, 3) := by decide +kernel
theorem dX2_merge_195 : decode cX2_merge 195 = .ok (.iinc 6 1, 3) := by decide +kernel
theorem dX2_merge_198 : decode cX2_merge 198 = .ok (.goto (-185), 3) := by decide +kernel
theorem dX2_merge_201 : decode cX2_merge 201 = .ok (.return_, 1) := by decide +kernel
theorem dX2_mixed_0 : decode cX2_mixed 0 = .ok (.iload_n 0, 1) := by decide +kernel
theorem dX2_mixed_1 : decode cX2_mixed 1 = .ok (.ifCond .ne 15, 3) := by decide +kernel
theorem dX2_mixed_4 : decode cX2_mixed 4 = .ok (.iload_n 1, 1) := by decide +kernel
theorem dX2_mixed_5 : decode cX2_mixed 5 = .ok (.bipush 16, 2) := by decide +kernel
theorem dX2_mixed_7 : decode cX2_mixed 7 = .ok (.if_icmp .eq 7, 3) := by decide +kernel
theorem dX2_mixed_10 : decode cX2_mixed 10 = .ok (.iload_n 1, 1) := by decide +kernel
theorem dX2_mixed_11 : decode cX2_mixed 11 = .ok (.goto 4, 3) := by decide +kernel
theorem dX2_mixed_14 : decode cX2_mixed 14 = .ok (.iload_n 2, 1) := by decide +kernel
theorem dX2_mixed_15 : decode cX2_mixed 15 = .ok (.ireturn, 1) := by decide +kernel
theorem dX2_mixed_16 : decode cX2_mixed 16 = .ok (.iload_n 0, 1) := by decide +kernel
theorem dX2_mixed_17 : decode cX2_mixed 17 = .ok (.iconst 1, 1) := by decide +kernel
theorem dX2_mixed_18 : decode cX2_mixed 18 = .ok (.if_icmp .ne 15, 3) := by decide +kernel
theorem dX2_mixed_21 : decode cX2_mixed 21 = .ok (.iload_n 1, 1) := by decide +kernel
theorem dX2_mixed_22 : decode cX2_mixed 22 = .ok (.iload_n 2, 1) := by decide +kernel
theorem dX2_mixed_23 : decode cX2_mixed 23 = .ok (.if_icmp .ne 7, 3) := by decide +kernel
theorem dX2_mixed_26 : decode cX2_mixed 26 = .ok (.iload_n 1, 1) := by decide +kernel
theorem dX2_mixed_27 : decode cX2_mixed 27 = .ok (.goto 5, 3) := by decide +kernel
theorem dX2_mixed_30 : decode cX2_mixed 30 = .ok (.bipush 16, 2) := by decide +kernel
theorem dX2_mixed_32 : decode cX2_mixed 32 = .ok (.ireturn, 1) := by decide +kernel
theorem dX2_mixed_33 : decode cX2_mixed 33 = .ok (.iload_n 2, 1) := by decide +kernel
theorem dX2_mixed_34 : decode cX2_mixed 34 = .ok (.bipush 16, 2) := by decide +kernel
theorem dX2_mixed_36 : decode cX2_mixed 36 = .ok (.if_icmp .ne 7, 3) := by decide +kernel
theorem dX2_mixed_39 : decode cX2_mixed 39 = .ok (.iload_n 1, 1) := by decide +kernel
theorem dX2_mixed_40 : decode cX2_mixed 40 = .ok (.goto 5, 3) := by decide +kernel
theorem dX2_mixed_43 : decode cX2_mixed 43 = .ok (.bipush 16, 2) := by decide +kernel
theorem dX2_mixed_45 : decode cX2_mixed 45 = .ok (.ireturn, 1) := by decide +kernel
set_option maxRecDepth 20000 in
theorem ggX2_commonBits_X7_bitAt : GoodIn wsX2_commonBits wsX7_bitAt := goodIn_r _ [5, 6] (by decide +kernel) (by decide +kernel)
set_option maxRecDepth 20000 in
theorem gX2_commonBits_X7_bitAt_n79 : GoodIn wsX2_commonBits (wsX7_bitAt) := ggX2_commonBits_X7_bitAt
theorem dX2_commonBits_0 : decode cX2_commonBits 0 = .ok (.aload_n 0, 1) := by decide +kernel
theorem dX2_commonBits_1 : decode cX2_commonBits 1 = .ok (.getfield 21, 3) := by decide +kernel
theorem dX2_commonBits_4 : decode cX2_commonBits 4 = .ok (.iload_n 1, 1) := by decide +kernel
theorem dX2_commonBits_5 : decode cX2_commonBits 5 = .ok (.iaload, 1) := by decide +kernel
theorem dX2_commonBits_6 : decode cX2_commonBits 6 = .ok (.aload_n 0, 1) := by decide +kernel
theorem dX2_commonBits_7 : decode cX2_commonBits 7 = .ok (.getfield 21, 3) := by decide +kernel
theorem dX2_commonBits_10 : decode cX2_commonBits 10 = .ok (.iload_n 2, 1) := by decide +kernel
theorem dX2_commonBits_11 : decode cX2_commonBits 11 = .ok (.iaload, 1) := by decide +kernel
theorem dX2_commonBits_12 : decode cX2_commonBits 12 = .ok (.ixor, 1) := by decide +kernel
theorem dX2_commonBits_13 : decode cX2_commonBits 13 = .ok (.istore_n 3, 1) := by decide +kernel
theorem dX2_commonBits_14 : decode cX2_commonBits 14 = .ok (.iconst 0, 1) := by decide +kernel
theorem dX2_commonBits_15 : decode cX2_commonBits 15 = .ok (.istore 4, 2) := by decide +kernel
theorem dX2_commonBits_17 : decode cX2_commonBits 17 = .ok (.iload 4, 2) := by decide +kernel
theorem dX2_commonBits_19 : decode cX2_commonBits 19 = .ok (.aload_n 0, 1) := by decide +kernel
theorem dX2_commonBits_20 : decode cX2_commonBits 20 = .ok (.getfield 25, 3) := by decide +kernel
theorem dX2_commonBits_23 : decode cX2_commonBits 23 = .ok (.iload_n 1, 1) := by decide +kernel
theorem dX2_commonBits_24 : decode cX2_commonBits 24 = .ok (.iaload, 1) := by decide +kernel
theorem dX2_commonBits_25 : decode cX2_commonBits 25 = .ok (.if_icmp .ge 19, 3) := by decide +kernel
theorem dX2_commonBits_28 : decode cX2_commonBits 28 = .ok (.iload_n 3, 1) := by decide +kernel
theorem dX2_commonBits_29 : decode cX2_commonBits 29 = .ok (.iload 4, 2) := by decide +kernel
theorem dX2_commonBits_31 : decode cX2_commonBits 31 = .ok (.invokestatic 79, 3) := by decide +kernel
theorem dX2_commonBits_34 : decode cX2_commonBits 34 = .ok (.iand, 1) := by decide +kernel
theorem dX2_commonBits_35 : decode cX2_commonBits 35 = .ok (.ifCond .ne 9, 3) := by decide +kernel
theorem dX2_commonBits_38 : decode cX2_commonBits 38 = .ok (.iinc 4 1, 3) := by decide +kernel
theorem dX2_commonBits_41 : decode cX2_commonBits 41 = .ok (.goto (-24), 3) := by decide +kernel
theorem dX2_commonBits_44 : decode cX2_commonBits 44 = .ok (.iload 4, 2) := by decide +kernel
theorem dX2_commonBits_46 : decode cX2_commonBits 46 = .ok (.ireturn, 1) := by decide +kernel
set_option maxRecDepth 20000 in
theorem ggX2_firstHigh_X7_bitAt : GoodIn wsX2_firstHigh wsX7_bitAt := goodIn_r _ [4, 5] (by decide +kernel) (by decide +kernel)
set_option maxRecDepth 20000 in
theorem gX2_firstHigh_X7_bitAt_n79 : GoodIn wsX2_firstHigh (wsX7_bitAt) := ggX2_firstHigh_X7_bitAt
theorem dX2_firstHigh_0 : decode cX2_firstHigh 0 = .ok (.iload_n 1, 1) := by decide +kernel
theorem dX2_firstHigh_1 : decode cX2_firstHigh 1 = .ok (.istore 4, 2) := by decide +kernel
theorem dX2_firstHigh_3 : decode cX2_firstHigh 3 = .ok (.iload 4, 2) := by decide +kernel
theorem dX2_firstHigh_5 : decode cX2_firstHigh 5 = .ok (.iload_n 2, 1) := by decide +kernel
theorem dX2_firstHigh_6 : decode cX2_firstHigh 6 = .ok (.if_icmp .ge 27, 3) := by decide +kernel
theorem dX2_firstHigh_9 : decode cX2_firstHigh 9 = .ok (.aload_n 0, 1) := by decide +kernel
theorem dX2_firstHigh_10 : decode cX2_firstHigh 10 = .ok (.getfield 21, 3) := by decide +kernel
theorem dX2_firstHigh_13 : decode cX2_firstHigh 13 = .ok (.iload 4, 2) := by decide +kernel
theorem dX2_firstHigh_15 : decode cX2_firstHigh 15 = .ok (.iaload, 1) := by decide +kernel
theorem dX2_firstHigh_16 : decode cX2_firstHigh 16 = .ok (.iload_n 3, 1) := by decide +kernel
theorem dX2_firstHigh_17 : decode cX2_firstHigh 17 = .ok (.invokestatic 79, 3) := by decide +kernel
theorem dX2_firstHigh_20 : decode cX2_firstHigh 20 = .ok (.iand, 1) := by decide +kernel
theorem dX2_firstHigh_21 : decode cX2_firstHigh 21 = .ok (.ifCond .eq 6, 3) := by decide +kernel
theorem dX2_firstHigh_24 : decode cX2_firstHigh 24 = .ok (.iload 4, 2) := by decide +kernel
theorem dX2_firstHigh_26 : decode cX2_firstHigh 26 = .ok (.ireturn, 1) := by decide +kernel
theorem dX2_firstHigh_27 : decode cX2_firstHigh 27 = .ok (.iinc 4 1, 3) := by decide +kernel
theorem dX2_firstHigh_30 : decode cX2_firstHigh 30 = .ok (.goto (-27), 3) := by decide +kernel
theorem dX2_firstHigh_33 : decode cX2_firstHigh 33 = .ok (.iload_n 2, 1) := by decide +kernel
theorem dX2_firstHigh_34 : decode cX2_firstHigh 34 = .ok (.ireturn, 1) := by decide +kernel
theorem dX3_init_0 : decode cX3_init 0 = .ok (.aload_n 0, 1) := by decide +kernel
theorem dX3_init_1 : decode cX3_init 1 = .ok (.invokespecial 3, 3) := by decide +kernel
theorem dX3_init_4 : decode cX3_init 4 = .ok (.aload_n 0, 1) := by decide +kernel
theorem dX3_init_5 : decode cX3_init 5 = .ok (.sipush 129, 3) := by decide +kernel
theorem dX3_init_8 : decode cX3_init 8 = .ok (.newarray .long, 2) := by decide +kernel
theorem dX3_init_10 : decode cX3_init 10 = .ok (.putfield 11, 3) := by decide +kernel
theorem dX3_init_13 : decode cX3_init 13 = .ok (.aload_n 0, 1) := by decide +kernel
theorem dX3_init_14 : decode cX3_init 14 = .ok (.sipush 129, 3) := by decide +kernel
theorem dX3_init_17 : decode cX3_init 17 = .ok (.newarray .int, 2) := by decide +kernel
theorem dX3_init_19 : decode cX3_init 19 = .ok (.putfield 15, 3) := by decide +kernel
theorem dX3_init_22 : decode cX3_init 22 = .ok (.aload_n 0, 1) := by decide +kernel
theorem dX3_init_23 : decode cX3_init 23 = .ok (.bipush 33, 2) := by decide +kernel
theorem dX3_init_25 : decode cX3_init 25 = .ok (.newarray .int, 2) := by decide +kernel
theorem dX3_init_27 : decode cX3_init 27 = .ok (.putfield 19, 3) := by decide +kernel
theorem dX3_init_30 : decode cX3_init 30 = .ok (.return_, 1) := by decide +kernel
set_option maxRecDepth 20000 in
theorem ggX3_measure_X2_first : GoodIn wsX3_measure wsX2_first := goodIn_r _ [11, 12, 13, 14, 15, 16, 46, 47, 48, 49, 50] (by decide +kernel) (by decide +kernel)
set_option maxRecDepth 20000 in
theorem gX3_measure_X2_first : GoodIn wsX3_measure (wsV RX3 36 RX2 yX2_first wsX2_first) := goodIn_app (goodIn_of _ (by decide +kernel)) ggX3_measure_X2_first
set_option maxRecDepth 20000 in
theorem ggX3_measure_X3_reachStart : GoodIn wsX3_measure wsX3_reachStart := goodIn_r _ [21, 3, 5, 22, 23, 24, 25, 10, 26, 12, 27, 28, 14, 29, 30, 31, 32, 33, 13, 15, 16, 34, 35, 36, 20, 37, 2, 1, 38, 39, 40, 41, 42, 43, 44, 45, 46, 47, 48, 49, 50] (by decide +kernel) (by decide +kernel)
set_option maxRecDepth 20000 in
theorem gX3_measure_X3_reachStart : GoodIn wsX3_measure (wsV RX3 39 RX3 yX3_reachStart wsX3_reachStart) := goodIn_app (goodIn_of _ (by decide +kernel)) ggX3_measure_X3_reachStart
theorem dX3_measure_0 : decode cX3_measure 0 = .ok (.aload_n 0, 1) := by decide +kernel
theorem dX3_measure_1 : decode cX3_measure 1 = .ok (.iconst 0, 1) := by decide +kernel
theorem dX3_measure_2 : decode cX3_measure 2 = .ok (.putfield 22, 3) := by decide +kernel
theorem dX3_measure_5 : decode cX3_measure 5 = .ok (.aload_n 0, 1) := by decide +kernel
theorem dX3_measure_6 : decode cX3_measure 6 = .ok (.lconst 0, 1) := by decide +kernel
theorem dX3_measure_7 : decode cX3_measure 7 = .ok (.putfield 26, 3) := by decide +kernel
theorem dX3_measure_10 : decode cX3_measure 10 = .ok (.aload_n 0, 1) := by decide +kernel
theorem dX3_measure_11 : decode cX3_measure 11 = .ok (.iconst 0, 1) := by decide +kernel
theorem dX3_measure_12 : decode cX3_measure 12 = .ok (.putfield 30, 3) := by decide +kernel
theorem dX3_measure_15 : decode cX3_measure 15 = .ok (.iconst 0, 1) := by decide +kernel
theorem dX3_measure_16 : decode cX3_measure 16 = .ok (.istore_n 2, 1) := by decide +kernel
theorem dX3_measure_17 : decode cX3_measure 17 = .ok (.iload_n 2, 1) := by decide +kernel
theorem dX3_measure_18 : decode cX3_measure 18 = .ok (.aload_n 1, 1) := by decide +kernel
theorem dX3_measure_19 : decode cX3_measure 19 = .ok (.getfield 33, 3) := by decide +kernel
theorem dX3_measure_22 : decode cX3_measure 22 = .ok (.if_icmp .ge 48, 3) := by decide +kernel
theorem dX3_measure_25 : decode cX3_measure 25 = .ok (.aload_n 0, 1) := by decide +kernel
theorem dX3_measure_26 : decode cX3_measure 26 = .ok (.aload_n 1, 1) := by decide +kernel
theorem dX3_measure_27 : decode cX3_measure 27 = .ok (.aload_n 1, 1) := by decide +kernel
theorem dX3_measure_28 : decode cX3_measure 28 = .ok (.iload_n 2, 1) := by decide +kernel
theorem dX3_measure_29 : decode cX3_measure 29 = .ok (.invokevirtual 36, 3) := by decide +kernel
theorem dX3_measure_32 : decode cX3_measure 32 = .ok (.invokevirtual 39, 3) := by decide +kernel
theorem dX3_measure_35 : decode cX3_measure 35 = .ok (.aload_n 0, 1) := by decide +kernel
theorem dX3_measure_36 : decode cX3_measure 36 = .ok (.getfield 30, 3) := by decide +kernel
theorem dX3_measure_39 : decode cX3_measure 39 = .ok (.bipush 33, 2) := by decide +kernel
theorem dX3_measure_41 : decode cX3_measure 41 = .ok (.if_icmp .ge 23, 3) := by decide +kernel
theorem dX3_measure_44 : decode cX3_measure 44 = .ok (.aload_n 0, 1) := by decide +kernel
theorem dX3_measure_45 : decode cX3_measure 45 = .ok (.getfield 19, 3) := by decide +kernel
theorem dX3_measure_48 : decode cX3_measure 48 = .ok (.aload_n 0, 1) := by decide +kernel
theorem dX3_measure_49 : decode cX3_measure 49 = .ok (.getfield 30, 3) := by decide +kernel
theorem dX3_measure_52 : decode cX3_measure 52 = .ok (.iload_n 2, 1) := by decide +kernel
theorem dX3_measure_53 : decode cX3_measure 53 = .ok (.iastore, 1) := by decide +kernel
theorem dX3_measure_54 : decode cX3_measure 54 = .ok (.aload_n 0, 1) := by decide +kernel
theorem dX3_measure_55 : decode cX3_measure 55 = .ok (.dup, 1) := by decide +kernel
theorem dX3_measure_56 : decode cX3_measure 56 = .ok (.getfield 30, 3) := by decide +kernel
theorem dX3_measure_59 : decode cX3_measure 59 = .ok (.iconst 1, 1) := by decide +kernel
theorem dX3_measure_60 : decode cX3_measure 60 = .ok (.iadd, 1) := by decide +kernel
theorem dX3_measure_61 : decode cX3_measure 61 = .ok (.putfield 30, 3) := by decide +kernel
theorem dX3_measure_64 : decode cX3_measure 64 = .ok (.iinc 2 1, 3) := by decide +kernel
theorem dX3_measure_67 : decode cX3_measure 67 = .ok (.goto (-50), 3) := by decide +kernel
theorem dX3_measure_70 : decode cX3_measure 70 = .ok (.aload_n 0, 1) := by decide +kernel
theorem dX3_measure_71 : decode cX3_measure 71 = .ok (.aload_n 1, 1) := by decide +kernel
theorem dX3_measure_72 : decode cX3_measure 72 = .ok (.ldc2_w 43, 3) := by decide +kernel
theorem dX3_measure_75 : decode cX3_measure 75 = .ok (.invokevirtual 39, 3) := by decide +kernel
theorem dX3_measure_78 : decode cX3_measure 78 = .ok (.return_, 1) := by decide +kernel
set_option maxRecDepth 20000 in
theorem ggX3_reachStart_X2_last : GoodIn wsX3_reachStart wsX2_last := goodIn_r _ [8, 9, 10, 11, 12, 13, 14, 15, 16, 17, 18, 19, 20, 36, 37, 38, 39, 40] (by decide +kernel) (by decide +kernel)
set_option maxRecDepth 20000 in
theorem gX3_reachStart_X2_last : GoodIn wsX3_reachStart (wsV RX3 45 RX2 yX2_last wsX2_last) := goodIn_app (goodIn_of _ (by decide +kernel)) ggX3_reachStart_X2_last
set_option maxRecDepth 20000 in
theorem ggX3_reachStart_X3_reach : GoodIn wsX3_reachStart wsX3_reach := goodIn_r _ [25, 26, 27, 28, 29, 30, 31, 32, 33, 34, 35] (by decide +kernel) (by decide +kernel)
set_option maxRecDepth 20000 in
theorem gX3_reachStart_X3_reach : GoodIn wsX3_reachStart (wsV RX3 49 RX3 yX3_reach wsX3_reach) := goodIn_app (goodIn_of _ (by decide +kernel)) ggX3_reachStart_X3_reach
theorem dX3_reachStart_0 : decode cX3_reachStart 0 = .ok (.aload_n 0, 1) := by decide +kernel
theorem dX3_reachStart_1 : decode cX3_reachStart 1 = .ok (.getfield 30, 3) := by decide +kernel
theorem dX3_reachStart_4 : decode cX3_reachStart 4 = .ok (.ifCond .le 69, 3) := by decide +kernel
theorem dX3_reachStart_7 : decode cX3_reachStart 7 = .ok (.aload_n 1, 1) := by decide +kernel
theorem dX3_reachStart_8 : decode cX3_reachStart 8 = .ok (.aload_n 0, 1) := by decide +kernel
theorem dX3_reachStart_9 : decode cX3_reachStart 9 = .ok (.getfield 19, 3) := by decide +kernel
theorem dX3_reachStart_12 : decode cX3_reachStart 12 = .ok (.aload_n 0, 1) := by decide +kernel
theorem dX3_reachStart_13 : decode cX3_reachStart 13 = .ok (.getfield 30, 3) := by decide +kernel
theorem dX3_reachStart_16 : decode cX3_reachStart 16 = .ok (.iconst 1, 1) := by decide +kernel
theorem dX3_reachStart_17 : decode cX3_reachStart 17 = .ok (.isub, 1) := by decide +kernel
theorem dX3_reachStart_18 : decode cX3_reachStart 18 = .ok (.iaload, 1) := by decide +kernel
theorem dX3_reachStart_19 : decode cX3_reachStart 19 = .ok (.invokevirtual 45, 3) := by decide +kernel
theorem dX3_reachStart_22 : decode cX3_reachStart 22 = .ok (.lload_n 2, 1) := by decide +kernel
theorem dX3_reachStart_23 : decode cX3_reachStart 23 = .ok (.lcmp, 1) := by decide +kernel
theorem dX3_reachStart_24 : decode cX3_reachStart 24 = .ok (.ifCond .ge 49, 3) := by decide +kernel
theorem dX3_reachStart_27 : decode cX3_reachStart 27 = .ok (.aload_n 0, 1) := by decide +kernel
theorem dX3_reachStart_28 : decode cX3_reachStart 28 = .ok (.dup, 1) := by decide +kernel
theorem dX3_reachStart_29 : decode cX3_reachStart 29 = .ok (.getfield 30, 3) := by decide +kernel
theorem dX3_reachStart_32 : decode cX3_reachStart 32 = .ok (.iconst 1, 1) := by decide +kernel
theorem dX3_reachStart_33 : decode cX3_reachStart 33 = .ok (.isub, 1) := by decide +kernel
theorem dX3_reachStart_34 : decode cX3_reachStart 34 = .ok (.putfield 30, 3) := by decide +kernel
theorem dX3_reachStart_37 : decode cX3_reachStart 37 = .ok (.aload_n 0, 1) := by decide +kernel
theorem dX3_reachStart_38 : decode cX3_reachStart 38 = .ok (.aload_n 1, 1) := by decide +kernel
theorem dX3_reachStart_39 : decode cX3_reachStart 39 = .ok (.aload_n 0, 1) := by decide +kernel
theorem dX3_reachStart_40 : decode cX3_reachStart 40 = .ok (.getfield 19, 3) := by decide +kernel
theorem dX3_reachStart_43 : decode cX3_reachStart 43 = .ok (.aload_n 0, 1) := by decide +kernel
theorem dX3_reachStart_44 : decode cX3_reachStart 44 = .ok (.getfield 30, 3) := by decide +kernel
theorem dX3_reachStart_47 : decode cX3_reachStart 47 = .ok (.iaload, 1) := by decide +kernel
theorem dX3_reachStart_48 : decode cX3_reachStart 48 = .ok (.invokevirtual 45, 3) := by decide +kernel
theorem dX3_reachStart_51 : decode cX3_reachStart 51 = .ok (.lconst 1, 1) := by decide +kernel
theorem dX3_reachStart_52 : decode cX3_reachStart 52 = .ok (.ladd, 1) := by decide +kernel
theorem dX3_reachStart_53 : decode cX3_reachStart 53 = .ok (.aload_n 1, 1) := by decide +kernel
theorem dX3_reachStart_54 : decode cX3_reachStart 54 = .ok (.getfield 48, 3) := by decide +kernel
theorem dX3_reachStart_57 : decode cX3_reachStart 57 = .ok (.aload_n 0, 1) := by decide +kernel
theorem dX3_reachStart_58 : decode cX3_reachStart 58 = .ok (.getfield 19, 3) := by decide +kernel
theorem dX3_reachStart_61 : decode cX3_reachStart 61 = .ok (.aload_n 0, 1) := by decide +kernel
theorem dX3_reachStart_62 : decode cX3_reachStart 62 = .ok (.getfield 30, 3) := by decide +kernel
theorem dX3_reachStart_65 : decode cX3_reachStart 65 = .ok (.iaload, 1) := by decide +kernel
