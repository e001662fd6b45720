theorem dX6_init_0 : decode cX6_init 0 = .ok (.aload_n 0, 1) := by decide +kernel
theorem dX6_init_1 : decode cX6_init 1 = .ok (.invokespecial 1, 3) := by decide +kernel
theorem dX6_init_4 : decode cX6_init 4 = .ok (.aload_n 0, 1) := by decide +kernel
theorem dX6_init_5 : decode cX6_init 5 = .ok (.sipush 4128, 3) := by decide +kernel
theorem dX6_init_8 : decode cX6_init 8 = .ok (.newarray .int, 2) := by decide +kernel
theorem dX6_init_10 : decode cX6_init 10 = .ok (.putfield 7, 3) := by decide +kernel
theorem dX6_init_13 : decode cX6_init 13 = .ok (.aload_n 0, 1) := by decide +kernel
theorem dX6_init_14 : decode cX6_init 14 = .ok (.iconst 2, 1) := by decide +kernel
theorem dX6_init_15 : decode cX6_init 15 = .ok (.newarray .boolean, 2) := by decide +kernel
theorem dX6_init_17 : decode cX6_init 17 = .ok (.putfield 13, 3) := by decide +kernel
theorem dX6_init_20 : decode cX6_init 20 = .ok (.aload_n 0, 1) := by decide +kernel
theorem dX6_init_21 : decode cX6_init 21 = .ok (.sipush 1376, 3) := by decide +kernel
theorem dX6_init_24 : decode cX6_init 24 = .ok (.newarray .int, 2) := by decide +kernel
theorem dX6_init_26 : decode cX6_init 26 = .ok (.putfield 17, 3) := by decide +kernel
theorem dX6_init_29 : decode cX6_init 29 = .ok (.aload_n 0, 1) := by decide +kernel
theorem dX6_init_30 : decode cX6_init 30 = .ok (.sipush 600, 3) := by decide +kernel
theorem dX6_init_33 : decode cX6_init 33 = .ok (.newarray .int, 2) := by decide +kernel
theorem dX6_init_35 : decode cX6_init 35 = .ok (.putfield 20, 3) := by decide +kernel
theorem dX6_init_38 : decode cX6_init 38 = .ok (.aload_n 0, 1) := by decide +kernel
theorem dX6_init_39 : decode cX6_init 39 = .ok (.iconst (-1), 1) := by decide +kernel
theorem dX6_init_40 : decode cX6_init 40 = .ok (.putfield 23, 3) := by decide +kernel
theorem dX6_init_43 : decode cX6_init 43 = .ok (.aload_n 0, 1) := by decide +kernel
theorem dX6_init_44 : decode cX6_init 44 = .ok (.sipush 200, 3) := by decide +kernel
theorem dX6_init_47 : decode cX6_init 47 = .ok (.newarray .int, 2) := by decide +kernel
theorem dX6_init_49 : decode cX6_init 49 = .ok (.putfield 27, 3) := by decide +kernel
theorem dX6_init_52 : decode cX6_init 52 = .ok (.aload_n 0, 1) := by decide +kernel
theorem dX6_init_53 : decode cX6_init 53 = .ok (.sipush 200, 3) := by decide +kernel
theorem dX6_init_56 : decode cX6_init 56 = .ok (.newarray .int, 2) := by decide +kernel
theorem dX6_init_58 : decode cX6_init 58 = .ok (.putfield 30, 3) := by decide +kernel
theorem dX6_init_61 : decode cX6_init 61 = .ok (.aload_n 0, 1) := by decide +kernel
theorem dX6_init_62 : decode cX6_init 62 = .ok (.iconst (-1), 1) := by decide +kernel
theorem dX6_init_63 : decode cX6_init 63 = .ok (.putfield 33, 3) := by decide +kernel
theorem dX6_init_66 : decode cX6_init 66 = .ok (.aload_n 0, 1) := by decide +kernel
theorem dX6_init_67 : decode cX6_init 67 = .ok (.iconst (-1), 1) := by decide +kernel
theorem dX6_init_68 : decode cX6_init 68 = .ok (.putfield 36, 3) := by decide +kernel
theorem dX6_init_71 : decode cX6_init 71 = .ok (.aload_n 0, 1) := by decide +kernel
theorem dX6_init_72 : decode cX6_init 72 = .ok (.ldc 39, 2) := by decide +kernel
theorem dX6_init_74 : decode cX6_init 74 = .ok (.newarray .int, 2) := by decide +kernel
theorem dX6_init_76 : decode cX6_init 76 = .ok (.putfield 40, 3) := by decide +kernel
theorem dX6_init_79 : decode cX6_init 79 = .ok (.aload_n 0, 1) := by decide +kernel
theorem dX6_init_80 : decode cX6_init 80 = .ok (.ldc 39, 2) := by decide +kernel
theorem dX6_init_82 : decode cX6_init 82 = .ok (.newarray .int, 2) := by decide +kernel
theorem dX6_init_84 : decode cX6_init 84 = .ok (.putfield 43, 3) := by decide +kernel
theorem dX6_init_87 : decode cX6_init 87 = .ok (.aload_n 0, 1) := by decide +kernel
theorem dX6_init_88 : decode cX6_init 88 = .ok (.bipush 60, 2) := by decide +kernel
theorem dX6_init_90 : decode cX6_init 90 = .ok (.newarray .int, 2) := by decide +kernel
theorem dX6_init_92 : decode cX6_init 92 = .ok (.putfield 46, 3) := by decide +kernel
theorem dX6_init_95 : decode cX6_init 95 = .ok (.aload_n 0, 1) := by decide +kernel
theorem dX6_init_96 : decode cX6_init 96 = .ok (.ldc 39, 2) := by decide +kernel
theorem dX6_init_98 : decode cX6_init 98 = .ok (.newarray .int, 2) := by decide +kernel
theorem dX6_init_100 : decode cX6_init 100 = .ok (.putfield 49, 3) := by decide +kernel
theorem dX6_init_103 : decode cX6_init 103 = .ok (.aload_n 0, 1) := by decide +kernel
theorem dX6_init_104 : decode cX6_init 104 = .ok (.ldc 39, 2) := by decide +kernel
theorem dX6_init_106 : decode cX6_init 106 = .ok (.newarray .int, 2) := by decide +kernel
theorem dX6_init_108 : decode cX6_init 108 = .ok (.putfield 52, 3) := by decide +kernel
theorem dX6_init_111 : decode cX6_init 111 = .ok (.aload_n 0, 1) := by decide +kernel
theorem dX6_init_112 : decode cX6_init 112 = .ok (.ldc 39, 2) := by decide +kernel
theorem dX6_init_114 : decode cX6_init 114 = .ok (.newarray .boolean, 2) := by decide +kernel
theorem dX6_init_116 : decode cX6_init 116 = .ok (.putfield 55, 3) := by decide +kernel
theorem dX6_init_119 : decode cX6_init 119 = .ok (.aload_n 0, 1) := by decide +kernel
theorem dX6_init_120 : decode cX6_init 120 = .ok (.ldc 39, 2) := by decide +kernel
theorem dX6_init_122 : decode cX6_init 122 = .ok (.newarray .boolean, 2) := by decide +kernel
theorem dX6_init_124 : decode cX6_init 124 = .ok (.putfield 58, 3) := by decide +kernel
theorem dX6_init_127 : decode cX6_init 127 = .ok (.aload_n 0, 1) := by decide +kernel
theorem dX6_init_128 : decode cX6_init 128 = .ok (.bipush 24, 2) := by decide +kernel
theorem dX6_init_130 : decode cX6_init 130 = .ok (.newarray .int, 2) := by decide +kernel
theorem dX6_init_132 : decode cX6_init 132 = .ok (.putfield 61, 3) := by decide +kernel
theorem dX6_init_135 : decode cX6_init 135 = .ok (.aload_n 0, 1) := by decide +kernel
theorem dX6_init_136 : decode cX6_init 136 = .ok (.getfield 7, 3) := by decide +kernel
theorem dX6_init_139 : decode cX6_init 139 = .ok (.iconst 1, 1) := by decide +kernel
theorem dX6_init_140 : decode cX6_init 140 = .ok (.iconst 5, 1) := by decide +kernel
theorem dX6_init_141 : decode cX6_init 141 = .ok (.iastore, 1) := by decide +kernel
theorem dX6_init_142 : decode cX6_init 142 = .ok (.aload_n 0, 1) := by decide +kernel
theorem dX6_init_143 : decode cX6_init 143 = .ok (.getfield 7, 3) := by decide +kernel
theorem dX6_init_146 : decode cX6_init 146 = .ok (.iconst 3, 1) := by decide +kernel
theorem dX6_init_147 : decode cX6_init 147 = .ok (.iconst (-1), 1) := by decide +kernel
theorem dX6_init_148 : decode cX6_init 148 = .ok (.iastore, 1) := by decide +kernel
theorem dX6_init_149 : decode cX6_init 149 = .ok (.return_, 1) := by decide +kernel
theorem dX6_in_0 : decode cX6_in 0 = .ok (.lload_n 0, 1) := by decide +kernel
theorem dX6_in_1 : decode cX6_in 1 = .ok (.lload_n 2, 1) := by decide +kernel
theorem dX6_in_2 : decode cX6_in 2 = .ok (.lcmp, 1) := by decide +kernel
theorem dX6_in_3 : decode cX6_in 3 = .ok (.ifCond .lt 14, 3) := by decide +kernel
theorem dX6_in_6 : decode cX6_in 6 = .ok (.lload_n 0, 1) := by decide +kernel
theorem dX6_in_7 : decode cX6_in 7 = .ok (.lload 4, 2) := by decide +kernel
theorem dX6_in_9 : decode cX6_in 9 = .ok (.lcmp, 1) := by decide +kernel
theorem dX6_in_10 : decode cX6_in 10 = .ok (.ifCond .gt 7, 3) := by decide +kernel
theorem dX6_in_13 : decode cX6_in 13 = .ok (.iconst 1, 1) := by decide +kernel
theorem dX6_in_14 : decode cX6_in 14 = .ok (.goto 4, 3) := by decide +kernel
theorem dX6_in_17 : decode cX6_in 17 = .ok (.iconst 0, 1) := by decide +kernel
theorem dX6_in_18 : decode cX6_in 18 = .ok (.ireturn, 1) := by decide +kernel
theorem dX6_one_0 : decode cX6_one 0 = .ok (.iload_n 0, 1) := by decide +kernel
theorem dX6_one_1 : decode cX6_one 1 = .ok (.ifCond .eq 7, 3) := by decide +kernel
theorem dX6_one_4 : decode cX6_one 4 = .ok (.iconst 1, 1) := by decide +kernel
theorem dX6_one_5 : decode cX6_one 5 = .ok (.goto 4, 3) := by decide +kernel
theorem dX6_one_8 : decode cX6_one 8 = .ok (.iconst 0, 1) := by decide +kernel
theorem dX6_one_9 : decode cX6_one 9 = .ok (.ireturn, 1) := by decide +kernel
theorem dX6_has_0 : decode cX6_has 0 = .ok (.iload_n 0, 1) := by decide +kernel
theorem dX6_has_1 : decode cX6_has 1 = .ok (.iload_n 1, 1) := by decide +kernel
theorem dX6_has_2 : decode cX6_has 2 = .ok (.ishr, 1) := by decide +kernel
theorem dX6_has_3 : decode cX6_has 3 = .ok (.iconst 1, 1) := by decide +kernel
theorem dX6_has_4 : decode cX6_has 4 = .ok (.iand, 1) := by decide +kernel
theorem dX6_has_5 : decode cX6_has 5 = .ok (.iconst 1, 1) := by decide +kernel
theorem dX6_has_6 : decode cX6_has 6 = .ok (.if_icmp .ne 7, 3) := by decide +kernel
theorem dX6_has_9 : decode cX6_has 9 = .ok (.iconst 1, 1) := by decide +kernel
theorem dX6_has_10 : decode cX6_has 10 = .ok (.goto 4, 3) := by decide +kernel
theorem dX6_has_13 : decode cX6_has 13 = .ok (.iconst 0, 1) := by decide +kernel
theorem dX6_has_14 : decode cX6_has 14 = .ok (.ireturn, 1) := by decide +kernel
theorem dX6_feed_0 : decode cX6_feed 0 = .ok (.iload_n 1, 1) := by decide +kernel
theorem dX6_feed_1 : decode cX6_feed 1 = .ok (.i2l, 1) := by decide +kernel
theorem dX6_feed_2 : decode cX6_feed 2 = .ok (.lconst 1, 1) := by decide +kernel
theorem dX6_feed_3 : decode cX6_feed 3 = .ok (.ldc2_w 64, 3) := by decide +kernel
theorem dX6_feed_6 : decode cX6_feed 6 = .ok (.invokestatic 66, 3) := by decide +kernel
theorem dX6_feed_9 : decode cX6_feed 9 = .ok (.ifCond .ne 6, 3) := by decide +kernel
theorem dX6_feed_12 : decode cX6_feed 12 = .ok (.ldc 70, 2) := by decide +kernel
theorem dX6_feed_14 : decode cX6_feed 14 = .ok (.ireturn, 1) := by decide +kernel
theorem dX6_feed_15 : decode cX6_feed 15 = .ok (.aload_n 0, 1) := by decide +kernel
theorem dX6_feed_16 : decode cX6_feed 16 = .ok (.getfield 71, 3) := by decide +kernel
theorem dX6_feed_19 : decode cX6_feed 19 = .ok (.iload_n 1, 1) := by decide +kernel
theorem dX6_feed_20 : decode cX6_feed 20 = .ok (.iadd, 1) := by decide +kernel
theorem dX6_feed_21 : decode cX6_feed 21 = .ok (.sipush 600, 3) := by decide +kernel
theorem dX6_feed_24 : decode cX6_feed 24 = .ok (.if_icmp .le 6, 3) := by decide +kernel
theorem dX6_feed_27 : decode cX6_feed 27 = .ok (.ldc 74, 2) := by decide +kernel
theorem dX6_feed_29 : decode cX6_feed 29 = .ok (.ireturn, 1) := by decide +kernel
theorem dX6_feed_30 : decode cX6_feed 30 = .ok (.iload_n 1, 1) := by decide +kernel
theorem dX6_feed_31 : decode cX6_feed 31 = .ok (.iconst 1, 1) := by decide +kernel
theorem dX6_feed_32 : decode cX6_feed 32 = .ok (.isub, 1) := by decide +kernel
theorem dX6_feed_33 : decode cX6_feed 33 = .ok (.istore 4, 2) := by decide +kernel
theorem dX6_feed_35 : decode cX6_feed 35 = .ok (.iload 4, 2) := by decide +kernel
theorem dX6_feed_37 : decode cX6_feed 37 = .ok (.ifCond .lt 40, 3) := by decide +kernel
theorem dX6_feed_40 : decode cX6_feed 40 = .ok (.aload_n 0, 1) := by decide +kernel
theorem dX6_feed_41 : decode cX6_feed 41 = .ok (.getfield 20, 3) := by decide +kernel
theorem dX6_feed_44 : decode cX6_feed 44 = .ok (.aload_n 0, 1) := by decide +kernel
theorem dX6_feed_45 : decode cX6_feed 45 = .ok (.getfield 71, 3) := by decide +kernel
theorem dX6_feed_48 : decode cX6_feed 48 = .ok (.lload_n 2, 1) := by decide +kernel
theorem dX6_feed_49 : decode cX6_feed 49 = .ok (.bipush 8, 2) := by decide +kernel
theorem dX6_feed_51 : decode cX6_feed 51 = .ok (.iload 4, 2) := by decide +kernel
theorem dX6_feed_53 : decode cX6_feed 53 = .ok (.imul, 1) := by decide +kernel
theorem dX6_feed_54 : decode cX6_feed 54 = .ok (.lshr, 1) := by decide +kernel
theorem dX6_feed_55 : decode cX6_feed 55 = .ok (.ldc2_w 75, 3) := by decide +kernel
theorem dX6_feed_58 : decode cX6_feed 58 = .ok (.land, 1) := by decide +kernel
theorem dX6_feed_59 : decode cX6_feed 59 = .ok (.l2i, 1) := by decide +kernel
theorem dX6_feed_60 : decode cX6_feed 60 = .ok (.iastore, 1) := by decide +kernel
theorem dX6_feed_61 : decode cX6_feed 61 = .ok (.aload_n 0, 1) := by decide +kernel
theorem dX6_feed_62 : decode cX6_feed 62 = .ok (.dup, 1) := by decide +kernel
theorem dX6_feed_63 : decode cX6_feed 63 = .ok (.getfield 71, 3) := by decide +kernel
theorem dX6_feed_66 : decode cX6_feed 66 = .ok (.iconst 1, 1) := by decide +kernel
theorem dX6_feed_67 : decode cX6_feed 67 = .ok (.iadd, 1) := by decide +kernel
theorem dX6_feed_68 : decode cX6_feed 68 = .ok (.putfield 71, 3) := by decide +kernel
theorem dX6_feed_71 : decode cX6_feed 71 = .ok (.iinc 4 (-1), 3) := by decide +kernel
theorem dX6_feed_74 : decode cX6_feed 74 = .ok (.goto (-39), 3) := by decide +kernel
theorem dX6_feed_77 : decode cX6_feed 77 = .ok (.aload_n 0, 1) := by decide +kernel
theorem dX6_feed_78 : decode cX6_feed 78 = .ok (.getfield 71, 3) := by decide +kernel
theorem dX6_feed_81 : decode cX6_feed 81 = .ok (.ireturn, 1) := by decide +kernel
theorem dX6_here_0 : decode cX6_here 0 = .ok (.aload_n 0, 1) := by decide +kernel
theorem dX6_here_1 : decode cX6_here 1 = .ok (.getfield 77, 3) := by decide +kernel
theorem dX6_here_4 : decode cX6_here 4 = .ok (.aload_n 0, 1) := by decide +kernel
theorem dX6_here_5 : decode cX6_here 5 = .ok (.getfield 71, 3) := by decide +kernel
theorem dX6_here_8 : decode cX6_here 8 = .ok (.if_icmp .ge 30, 3) := by decide +kernel
theorem dX6_here_11 : decode cX6_here 11 = .ok (.aload_n 0, 1) := by decide +kernel
theorem dX6_here_12 : decode cX6_here 12 = .ok (.getfield 20, 3) := by decide +kernel
theorem dX6_here_15 : decode cX6_here 15 = .ok (.aload_n 0, 1) := by decide +kernel
theorem dX6_here_16 : decode cX6_here 16 = .ok (.getfield 77, 3) := by decide +kernel
theorem dX6_here_19 : decode cX6_here 19 = .ok (.iaload, 1) := by decide +kernel
theorem dX6_here_20 : decode cX6_here 20 = .ok (.bipush 32, 2) := by decide +kernel
theorem dX6_here_22 : decode cX6_here 22 = .ok (.if_icmp .ne 16, 3) := by decide +kernel
theorem dX6_here_25 : decode cX6_here 25 = .ok (.aload_n 0, 1) := by decide +kernel
theorem dX6_here_26 : decode cX6_here 26 = .ok (.dup, 1) := by decide +kernel
theorem dX6_here_27 : decode cX6_here 27 = .ok (.getfield 77, 3) := by decide +kernel
theorem dX6_here_30 : decode cX6_here 30 = .ok (.iconst 1, 1) := by decide +kernel
theorem dX6_here_31 : decode cX6_here 31 = .ok (.iadd, 1) := by decide +kernel
theorem dX6_here_32 : decode cX6_here 32 = .ok (.putfield 77, 3) := by decide +kernel
theorem dX6_here_35 : decode cX6_here 35 = .ok (.goto (-35), 3) := by decide +kernel
theorem dX6_here_38 : decode cX6_here 38 = .ok (.aload_n 0, 1) := by decide +kernel
theorem dX6_here_39 : decode cX6_here 39 = .ok (.getfield 77, 3) := by decide +kernel
theorem dX6_here_42 : decode cX6_here 42 = .ok (.aload_n 0, 1) := by decide +kernel
theorem dX6_here_43 : decode cX6_here 43 = .ok (.getfield 71, 3) := by decide +kernel
theorem dX6_here_46 : decode cX6_here 46 = .ok (.if_icmp .ge 15, 3) := by decide +kernel
theorem dX6_here_49 : decode cX6_here 49 = .ok (.aload_n 0, 1) := by decide +kernel
theorem dX6_here_50 : decode cX6_here 50 = .ok (.getfield 20, 3) := by decide +kernel
theorem dX6_here_53 : decode cX6_here 53 = .ok (.aload_n 0, 1) := by decide +kernel
theorem dX6_here_54 : decode cX6_here 54 = .ok (.getfield 77, 3) := by decide +kernel
theorem dX6_here_57 : decode cX6_here 57 = .ok (.iaload, 1) := by decide +kernel
theorem dX6_here_58 : decode cX6_here 58 = .ok (.goto 4, 3) := by decide +kernel
theorem dX6_here_61 : decode cX6_here 61 = .ok (.iconst (-1), 1) := by decide +kernel
theorem dX6_here_62 : decode cX6_here 62 = .ok (.ireturn, 1) := by decide +kernel
theorem dX6_want_0 : decode cX6_want 0 = .ok (.iload_n 1, 1) := by decide +kernel
theorem dX6_want_1 : decode cX6_want 1 = .ok (.ifCond .ne 20, 3) := by decide +kernel
theorem dX6_want_4 : decode cX6_want 4 = .ok (.aload_n 0, 1) := by decide +kernel
theorem dX6_want_5 : decode cX6_want 5 = .ok (.getfield 80, 3) := by decide +kernel
theorem dX6_want_8 : decode cX6_want 8 = .ok (.ifCond .ne 13, 3) := by decide +kernel
theorem dX6_want_11 : decode cX6_want 11 = .ok (.aload_n 0, 1) := by decide +kernel
theorem dX6_want_12 : decode cX6_want 12 = .ok (.iload_n 2, 1) := by decide +kernel
theorem dX6_want_13 : decode cX6_want 13 = .ok (.putfield 80, 3) := by decide +kernel
theorem dX6_want_16 : decode cX6_want 16 = .ok (.aload_n 0, 1) := by decide +kernel
theorem dX6_want_17 : decode cX6_want 17 = .ok (.iload_n 3, 1) := by decide +kernel
theorem dX6_want_18 : decode cX6_want 18 = .ok (.putfield 23, 3) := by decide +kernel
theorem dX6_want_21 : decode cX6_want 21 = .ok (.aload_n 0, 1) := by decide +kernel
theorem dX6_want_22 : decode cX6_want 22 = .ok (.getfield 80, 3) := by decide +kernel
theorem dX6_want_25 : decode cX6_want 25 = .ok (.ifCond .ne 7, 3) := by decide +kernel
theorem dX6_want_28 : decode cX6_want 28 = .ok (.iconst 1, 1) := by decide +kernel
theorem dX6_want_29 : decode cX6_want 29 = .ok (.goto 4, 3) := by decide +kernel
theorem dX6_want_32 : decode cX6_want 32 = .ok (.iconst 0, 1) := by decide +kernel
theorem dX6_want_33 : decode cX6_want 33 = .ok (.ireturn, 1) := by decide +kernel
theorem dX6_takeWord_0 : decode cX6_takeWord 0 = .ok (.aload_n 0, 1) := by decide +kernel
theorem dX6_takeWord_1 : decode cX6_takeWord 1 = .ok (.invokevirtual 83, 3) := by decide +kernel
theorem dX6_takeWord_4 : decode cX6_takeWord 4 = .ok (.istore_n 1, 1) := by decide +kernel
theorem dX6_takeWord_5 : decode cX6_takeWord 5 = .ok (.aload_n 0, 1) := by decide +kernel
theorem dX6_takeWord_6 : decode cX6_takeWord 6 = .ok (.aload_n 0, 1) := by decide +kernel
theorem dX6_takeWord_7 : decode cX6_takeWord 7 = .ok (.getfield 77, 3) := by decide +kernel
theorem dX6_takeWord_10 : decode cX6_takeWord 10 = .ok (.putfield 87, 3) := by decide +kernel
theorem dX6_takeWord_13 : decode cX6_takeWord 13 = .ok (.aload_n 0, 1) := by decide +kernel
theorem dX6_takeWord_14 : decode cX6_takeWord 14 = .ok (.getfield 77, 3) := by decide +kernel
theorem dX6_takeWord_17 : decode cX6_takeWord 17 = .ok (.aload_n 0, 1) := by decide +kernel
theorem dX6_takeWord_18 : decode cX6_takeWord 18 = .ok (.getfield 71, 3) := by decide +kernel
theorem dX6_takeWord_21 : decode cX6_takeWord 21 = .ok (.if_icmp .ge 38, 3) := by decide +kernel
theorem dX6_takeWord_24 : decode cX6_takeWord 24 = .ok (.aload_n 0, 1) := by decide +kernel
theorem dX6_takeWord_25 : decode cX6_takeWord 25 = .ok (.getfield 20, 3) := by decide +kernel
theorem dX6_takeWord_28 : decode cX6_takeWord 28 = .ok (.aload_n 0, 1) := by decide +kernel
theorem dX6_takeWord_29 : decode cX6_takeWord 29 = .ok (.getfield 77, 3) := by decide +kernel
theorem dX6_takeWord_32 : decode cX6_takeWord 32 = .ok (.iaload, 1) := by decide +kernel
theorem dX6_takeWord_33 : decode cX6_takeWord 33 = .ok (.i2l, 1) := by decide +kernel
theorem dX6_takeWord_34 : decode cX6_takeWord 34 = .ok (.ldc2_w 90, 3) := by decide +kernel
theorem dX6_takeWord_37 : decode cX6_takeWord 37 = .ok (.ldc2_w 92, 3) := by decide +kernel
theorem dX6_takeWord_40 : decode cX6_takeWord 40 = .ok (.invokestatic 66, 3) := by decide +kernel
theorem dX6_takeWord_43 : decode cX6_takeWord 43 = .ok (.ifCond .eq 16, 3) := by decide +kernel
theorem dX6_takeWord_46 : decode cX6_takeWord 46 = .ok (.aload_n 0, 1) := by decide +kernel
theorem dX6_takeWord_47 : decode cX6_takeWord 47 = .ok (.dup, 1) := by decide +kernel
theorem dX6_takeWord_48 : decode cX6_takeWord 48 = .ok (.getfield 77, 3) := by decide +kernel
theorem dX6_takeWord_51 : decode cX6_takeWord 51 = .ok (.iconst 1, 1) := by decide +kernel
theorem dX6_takeWord_52 : decode cX6_takeWord 52 = .ok (.iadd, 1) := by decide +kernel
theorem dX6_takeWord_53 : decode cX6_takeWord 53 = .ok (.putfield 77, 3) := by decide +kernel
theorem dX6_takeWord_56 : decode cX6_takeWord 56 = .ok (.goto (-43), 3) := by decide +kernel
theorem dX6_takeWord_59 : decode cX6_takeWord 59 = .ok (.aload_n 0, 1) := by decide +kernel
theorem dX6_takeWord_60 : decode cX6_takeWord 60 = .ok (.aload_n 0, 1) := by decide +kernel
theorem dX6_takeWord_61 : decode cX6_takeWord 61 = .ok (.getfield 77, 3) := by decide +kernel
theorem dX6_takeWord_64 : decode cX6_takeWord 64 = .ok (.aload_n 0, 1) := by decide +kernel
theorem dX6_takeWord_65 : decode cX6_takeWord 65 = .ok (.getfield 87, 3) := by decide +kernel
theorem dX6_takeWord_68 : decode cX6_takeWord 68 = .ok (.isub, 1) := by decide +kernel
theorem dX6_takeWord_69 : decode cX6_takeWord 69 = .ok (.putfield 94, 3) := by decide +kernel
theorem dX6_takeWord_72 : decode cX6_takeWord 72 = .ok (.return_, 1) := by decide +kernel
theorem dX6_isWord_0 : decode cX6_isWord 0 = .ok (.aload_n 0, 1) := by decide +kernel
theorem dX6_isWord_1 : decode cX6_isWord 1 = .ok (.getfield 94, 3) := by decide +kernel
theorem dX6_isWord_4 : decode cX6_isWord 4 = .ok (.iload_n 1, 1) := by decide +kernel
theorem dX6_isWord_5 : decode cX6_isWord 5 = .ok (.if_icmp .lt 7, 3) := by decide +kernel
theorem dX6_isWord_8 : decode cX6_isWord 8 = .ok (.iconst 1, 1) := by decide +kernel
theorem dX6_isWord_9 : decode cX6_isWord 9 = .ok (.goto 4, 3) := by decide +kernel
theorem dX6_isWord_12 : decode cX6_isWord 12 = .ok (.iconst 0, 1) := by decide +kernel
theorem dX6_isWord_13 : decode cX6_isWord 13 = .ok (.istore 7, 2) := by decide +kernel
theorem dX6_isWord_15 : decode cX6_isWord 15 = .ok (.iconst 0, 1) := by decide +kernel
theorem dX6_isWord_16 : decode cX6_isWord 16 = .ok (.istore 8, 2) := by decide +kernel
theorem dX6_isWord_18 : decode cX6_isWord 18 = .ok (.iload 8, 2) := by decide +kernel
theorem dX6_isWord_20 : decode cX6_isWord 20 = .ok (.iload_n 1, 1) := by decide +kernel
theorem dX6_isWord_21 : decode cX6_isWord 21 = .ok (.if_icmp .ge 79, 3) := by decide +kernel
theorem dX6_isWord_24 : decode cX6_isWord 24 = .ok (.iload 7, 2) := by decide +kernel
theorem dX6_isWord_26 : decode cX6_isWord 26 = .ok (.ifCond .eq 74, 3) := by decide +kernel
theorem dX6_isWord_29 : decode cX6_isWord 29 = .ok (.aload_n 0, 1) := by decide +kernel
theorem dX6_isWord_30 : decode cX6_isWord 30 = .ok (.getfield 20, 3) := by decide +kernel
theorem dX6_isWord_33 : decode cX6_isWord 33 = .ok (.aload_n 0, 1) := by decide +kernel
theorem dX6_isWord_34 : decode cX6_isWord 34 = .ok (.getfield 87, 3) := by decide +kernel
theorem dX6_isWord_37 : decode cX6_isWord 37 = .ok (.iload 8, 2) := by decide +kernel
theorem dX6_isWord_39 : decode cX6_isWord 39 = .ok (.iadd, 1) := by decide +kernel
theorem dX6_isWord_40 : decode cX6_isWord 40 = .ok (.iaload, 1) := by decide +kernel
theorem dX6_isWord_41 : decode cX6_isWord 41 = .ok (.iload 8, 2) := by decide +kernel
theorem dX6_isWord_43 : decode cX6_isWord 43 = .ok (.ifCond .ne 7, 3) := by decide +kernel
theorem dX6_isWord_46 : decode cX6_isWord 46 = .ok (.iload_n 2, 1) := by decide +kernel
theorem dX6_isWord_47 : decode cX6_isWord 47 = .ok (.goto 37, 3) := by decide +kernel
theorem dX6_isWord_50 : decode cX6_isWord 50 = .ok (.iload 8, 2) := by decide +kernel
theorem dX6_isWord_52 : decode cX6_isWord 52 = .ok (.iconst 1, 1) := by decide +kernel
theorem dX6_isWord_53 : decode cX6_isWord 53 = .ok (.if_icmp .ne 7, 3) := by decide +kernel
theorem dX6_isWord_56 : decode cX6_isWord 56 = .ok (.iload_n 3, 1) := by decide +kernel
theorem dX6_isWord_57 : decode cX6_isWord 57 = .ok (.goto 27, 3) := by decide +kernel
theorem dX6_isWord_60 : decode cX6_isWord 60 = .ok (.iload 8, 2) := by decide +kernel
theorem dX6_isWord_62 : decode cX6_isWord 62 = .ok (.iconst 2, 1) := by decide +kernel
theorem dX6_isWord_63 : decode cX6_isWord 63 = .ok (.if_icmp .ne 8, 3) := by decide +kernel
theorem dX6_isWord_66 : decode cX6_isWord 66 = .ok (.iload 4, 2) := by decide +kernel
theorem dX6_isWord_68 : decode cX6_isWord 68 = .ok (.goto 16, 3) := by decide +kernel
theorem dX6_isWord_71 : decode cX6_isWord 71 = .ok (.iload 8, 2) := by decide +kernel
theorem dX6_isWord_73 : decode cX6_isWord 73 = .ok (.iconst 3, 1) := by decide +kernel
theorem dX6_isWord_74 : decode cX6_isWord 74 = .ok (.if_icmp .ne 8, 3) := by decide +kernel
theorem dX6_isWord_77 : decode cX6_isWord 77 = .ok (.iload 5, 2) := by decide +kernel
theorem dX6_isWord_79 : decode cX6_isWord 79 = .ok (.goto 5, 3) := by decide +kernel
theorem dX6_isWord_82 : decode cX6_isWord 82 = .ok (.iload 6, 2) := by decide +kernel
theorem dX6_isWord_84 : decode cX6_isWord 84 = .ok (.if_icmp .ne 7, 3) := by decide +kernel
theorem dX6_isWord_87 : decode cX6_isWord 87 = .ok (.iconst 1, 1) := by decide +kernel
theorem dX6_isWord_88 : decode cX6_isWord 88 = .ok (.goto 4, 3) := by decide +kernel
theorem dX6_isWord_91 : decode cX6_isWord 91 = .ok (.iconst 0, 1) := by decide +kernel
theorem dX6_isWord_92 : decode cX6_isWord 92 = .ok (.istore 7, 2) := by decide +kernel
theorem dX6_isWord_94 : decode cX6_isWord 94 = .ok (.iinc 8 1, 3) := by decide +kernel
theorem dX6_isWord_97 : decode cX6_isWord 97 = .ok (.goto (-79), 3) := by decide +kernel
theorem dX6_isWord_100 : decode cX6_isWord 100 = .ok (.iload 7, 2) := by decide +kernel
theorem dX6_isWord_102 : decode cX6_isWord 102 = .ok (.ifCond .eq 15, 3) := by decide +kernel
theorem dX6_isWord_105 : decode cX6_isWord 105 = .ok (.aload_n 0, 1) := by decide +kernel
theorem dX6_isWord_106 : decode cX6_isWord 106 = .ok (.getfield 94, 3) := by decide +kernel
theorem dX6_isWord_109 : decode cX6_isWord 109 = .ok (.iload_n 1, 1) := by decide +kernel
theorem dX6_isWord_110 : decode cX6_isWord 110 = .ok (.if_icmp .ne 7, 3) := by decide +kernel
theorem dX6_isWord_113 : decode cX6_isWord 113 = .ok (.iconst 1, 1) := by decide +kernel
theorem dX6_isWord_114 : decode cX6_isWord 114 = .ok (.goto 4, 3) := by decide +kernel
theorem dX6_isWord_117 : decode cX6_isWord 117 = .ok (.iconst 0, 1) := by decide +kernel
theorem dX6_isWord_118 : decode cX6_isWord 118 = .ok (.ireturn, 1) := by decide +kernel
theorem dX6_isLong_0 : decode cX6_isLong 0 = .ok (.aload_n 0, 1) := by decide +kernel
theorem dX6_isLong_1 : decode cX6_isLong 1 = .ok (.getfield 94, 3) := by decide +kernel
theorem dX6_isLong_4 : decode cX6_isLong 4 = .ok (.iload_n 1, 1) := by decide +kernel
theorem dX6_isLong_5 : decode cX6_isLong 5 = .ok (.if_icmp .ne 7, 3) := by decide +kernel
theorem dX6_isLong_8 : decode cX6_isLong 8 = .ok (.iconst 1, 1) := by decide +kernel
theorem dX6_isLong_9 : decode cX6_isLong 9 = .ok (.goto 4, 3) := by decide +kernel
theorem dX6_isLong_12 : decode cX6_isLong 12 = .ok (.iconst 0, 1) := by decide +kernel
theorem dX6_isLong_13 : decode cX6_isLong 13 = .ok (.istore 5, 2) := by decide +kernel
theorem dX6_isLong_15 : decode cX6_isLong 15 = .ok (.iload 5, 2) := by decide +kernel
theorem dX6_isLong_17 : decode cX6_isLong 17 = .ok (.ifCond .eq 59, 3) := by decide +kernel
theorem dX6_isLong_20 : decode cX6_isLong 20 = .ok (.aload_n 0, 1) := by decide +kernel
theorem dX6_isLong_21 : decode cX6_isLong 21 = .ok (.getfield 20, 3) := by decide +kernel
theorem dX6_isLong_24 : decode cX6_isLong 24 = .ok (.aload_n 0, 1) := by decide +kernel
theorem dX6_isLong_25 : decode cX6_isLong 25 = .ok (.getfield 87, 3) := by decide +kernel
theorem dX6_isLong_28 : decode cX6_isLong 28 = .ok (.iload_n 1, 1) := by decide +kernel
theorem dX6_isLong_29 : decode cX6_isLong 29 = .ok (.iadd, 1) := by decide +kernel
theorem dX6_isLong_30 : decode cX6_isLong 30 = .ok (.iconst 3, 1) := by decide +kernel
theorem dX6_isLong_31 : decode cX6_isLong 31 = .ok (.isub, 1) := by decide +kernel
theorem dX6_isLong_32 : decode cX6_isLong 32 = .ok (.iaload, 1) := by decide +kernel
theorem dX6_isLong_33 : decode cX6_isLong 33 = .ok (.iload_n 2, 1) := by decide +kernel
theorem dX6_isLong_34 : decode cX6_isLong 34 = .ok (.if_icmp .ne 42, 3) := by decide +kernel
theorem dX6_isLong_37 : decode cX6_isLong 37 = .ok (.aload_n 0, 1) := by decide +kernel
theorem dX6_isLong_38 : decode cX6_isLong 38 = .ok (.getfield 20, 3) := by decide +kernel
theorem dX6_isLong_41 : decode cX6_isLong 41 = .ok (.aload_n 0, 1) := by decide +kernel
theorem dX6_isLong_42 : decode cX6_isLong 42 = .ok (.getfield 87, 3) := by decide +kernel
theorem dX6_isLong_45 : decode cX6_isLong 45 = .ok (.iload_n 1, 1) := by decide +kernel
theorem dX6_isLong_46 : decode cX6_isLong 46 = .ok (.iadd, 1) := by decide +kernel
theorem dX6_isLong_47 : decode cX6_isLong 47 = .ok (.iconst 2, 1) := by decide +kernel
theorem dX6_isLong_48 : decode cX6_isLong 48 = .ok (.isub, 1) := by decide +kernel
theorem dX6_isLong_49 : decode cX6_isLong 49 = .ok (.iaload, 1) := by decide +kernel
theorem dX6_isLong_50 : decode cX6_isLong 50 = .ok (.iload_n 3, 1) := by decide +kernel
theorem dX6_isLong_51 : decode cX6_isLong 51 = .ok (.if_icmp .ne 25, 3) := by decide +kernel
theorem dX6_isLong_54 : decode cX6_isLong 54 = .ok (.aload_n 0, 1) := by decide +kernel
theorem dX6_isLong_55 : decode cX6_isLong 55 = .ok (.getfield 20, 3) := by decide +kernel
theorem dX6_isLong_58 : decode cX6_isLong 58 = .ok (.aload_n 0, 1) := by decide +kernel
theorem dX6_isLong_59 : decode cX6_isLong 59 = .ok (.getfield 87, 3) := by decide +kernel
theorem dX6_isLong_62 : decode cX6_isLong 62 = .ok (.iload_n 1, 1) := by decide +kernel
theorem dX6_isLong_63 : decode cX6_isLong 63 = .ok (.iadd, 1) := by decide +kernel
theorem dX6_isLong_64 : decode cX6_isLong 64 = .ok (.iconst 1, 1) := by decide +kernel
theorem dX6_isLong_65 : decode cX6_isLong 65 = .ok (.isub, 1) := by decide +kernel
theorem dX6_isLong_66 : decode cX6_isLong 66 = .ok (.iaload, 1) := by decide +kernel
theorem dX6_isLong_67 : decode cX6_isLong 67 = .ok (.iload 4, 2) := by decide +kernel
theorem dX6_isLong_69 : decode cX6_isLong 69 = .ok (.if_icmp .ne 7, 3) := by decide +kernel
theorem dX6_isLong_72 : decode cX6_isLong 72 = .ok (.iconst 1, 1) := by decide +kernel
theorem dX6_isLong_73 : decode cX6_isLong 73 = .ok (.goto 4, 3) := by decide +kernel
theorem dX6_isLong_76 : decode cX6_isLong 76 = .ok (.iconst 0, 1) := by decide +kernel
theorem dX6_isLong_77 : decode cX6_isLong 77 = .ok (.ireturn, 1) := by decide +kernel
theorem dX6_isBegun_0 : decode cX6_isBegun 0 = .ok (.aload_n 0, 1) := by decide +kernel
theorem dX6_isBegun_1 : decode cX6_isBegun 1 = .ok (.getfield 94, 3) := by decide +kernel
theorem dX6_isBegun_4 : decode cX6_isBegun 4 = .ok (.iconst 3, 1) := by decide +kernel
theorem dX6_isBegun_5 : decode cX6_isBegun 5 = .ok (.if_icmp .le 66, 3) := by decide +kernel
theorem dX6_isBegun_8 : decode cX6_isBegun 8 = .ok (.aload_n 0, 1) := by decide +kernel
theorem dX6_isBegun_9 : decode cX6_isBegun 9 = .ok (.getfield 20, 3) := by decide +kernel
theorem dX6_isBegun_12 : decode cX6_isBegun 12 = .ok (.aload_n 0, 1) := by decide +kernel
theorem dX6_isBegun_13 : decode cX6_isBegun 13 = .ok (.getfield 87, 3) := by decide +kernel
theorem dX6_isBegun_16 : decode cX6_isBegun 16 = .ok (.iaload, 1) := by decide +kernel
theorem dX6_isBegun_17 : decode cX6_isBegun 17 = .ok (.iload_n 1, 1) := by decide +kernel
theorem dX6_isBegun_18 : decode cX6_isBegun 18 = .ok (.if_icmp .ne 53, 3) := by decide +kernel
theorem dX6_isBegun_21 : decode cX6_isBegun 21 = .ok (.aload_n 0, 1) := by decide +kernel
theorem dX6_isBegun_22 : decode cX6_isBegun 22 = .ok (.getfield 20, 3) := by decide +kernel
theorem dX6_isBegun_25 : decode cX6_isBegun 25 = .ok (.aload_n 0, 1) := by decide +kernel
theorem dX6_isBegun_26 : decode cX6_isBegun 26 = .ok (.getfield 87, 3) := by decide +kernel
theorem dX6_isBegun_29 : decode cX6_isBegun 29 = .ok (.iconst 1, 1) := by decide +kernel
theorem dX6_isBegun_30 : decode cX6_isBegun 30 = .ok (.iadd, 1) := by decide +kernel
theorem dX6_isBegun_31 : decode cX6_isBegun 31 = .ok (.iaload, 1) := by decide +kernel
theorem dX6_isBegun_32 : decode cX6_isBegun 32 = .ok (.iload_n 2, 1) := by decide +kernel
theorem dX6_isBegun_33 : decode cX6_isBegun 33 = .ok (.if_icmp .ne 38, 3) := by decide +kernel
theorem dX6_isBegun_36 : decode cX6_isBegun 36 = .ok (.aload_n 0, 1) := by decide +kernel
theorem dX6_isBegun_37 : decode cX6_isBegun 37 = .ok (.getfield 20, 3) := by decide +kernel
theorem dX6_isBegun_40 : decode cX6_isBegun 40 = .ok (.aload_n 0, 1) := by decide +kernel
theorem dX6_isBegun_41 : decode cX6_isBegun 41 = .ok (.getfield 87, 3) := by decide +kernel
theorem dX6_isBegun_44 : decode cX6_isBegun 44 = .ok (.iconst 2, 1) := by decide +kernel
theorem dX6_isBegun_45 : decode cX6_isBegun 45 = .ok (.iadd, 1) := by decide +kernel
theorem dX6_isBegun_46 : decode cX6_isBegun 46 = .ok (.iaload, 1) := by decide +kernel
theorem dX6_isBegun_47 : decode cX6_isBegun 47 = .ok (.iload_n 3, 1) := by decide +kernel
theorem dX6_isBegun_48 : decode cX6_isBegun 48 = .ok (.if_icmp .ne 23, 3) := by decide +kernel
theorem dX6_isBegun_51 : decode cX6_isBegun 51 = .ok (.aload_n 0, 1) := by decide +kernel
theorem dX6_isBegun_52 : decode cX6_isBegun 52 = .ok (.getfield 20, 3) := by decide +kernel
theorem dX6_isBegun_55 : decode cX6_isBegun 55 = .ok (.aload_n 0, 1) := by decide +kernel
theorem dX6_isBegun_56 : decode cX6_isBegun 56 = .ok (.getfield 87, 3) := by decide +kernel
theorem dX6_isBegun_59 : decode cX6_isBegun 59 = .ok (.iconst 3, 1) := by decide +kernel
theorem dX6_isBegun_60 : decode cX6_isBegun 60 = .ok (.iadd, 1) := by decide +kernel
theorem dX6_isBegun_61 : decode cX6_isBegun 61 = .ok (.iaload, 1) := by decide +kernel
theorem dX6_isBegun_62 : decode cX6_isBegun 62 = .ok (.iload 4, 2) := by decide +kernel
theorem dX6_isBegun_64 : decode cX6_isBegun 64 = .ok (.if_icmp .ne 7, 3) := by decide +kernel
theorem dX6_isBegun_67 : decode cX6_isBegun 67 = .ok (.iconst 1, 1) := by decide +kernel
theorem dX6_isBegun_68 : decode cX6_isBegun 68 = .ok (.goto 4, 3) := by decide +kernel
theorem dX6_isBegun_71 : decode cX6_isBegun 71 = .ok (.iconst 0, 1) := by decide +kernel
theorem dX6_isBegun_72 : decode cX6_isBegun 72 = .ok (.ireturn, 1) := by decide +kernel
theorem dX6_takeNumber_0 : decode cX6_takeNumber 0 = .ok (.aload_n 0, 1) := by decide +kernel
theorem dX6_takeNumber_1 : decode cX6_takeNumber 1 = .ok (.invokevirtual 83, 3) := by decide +kernel
theorem dX6_takeNumber_4 : decode cX6_takeNumber 4 = .ok (.istore_n 3, 1) := by decide +kernel
theorem dX6_takeNumber_5 : decode cX6_takeNumber 5 = .ok (.aload_n 0, 1) := by decide +kernel
theorem dX6_takeNumber_6 : decode cX6_takeNumber 6 = .ok (.aload_n 0, 1) := by decide +kernel
theorem dX6_takeNumber_7 : decode cX6_takeNumber 7 = .ok (.getfield 77, 3) := by decide +kernel
theorem dX6_takeNumber_10 : decode cX6_takeNumber 10 = .ok (.putfield 87, 3) := by decide +kernel
theorem dX6_takeNumber_13 : decode cX6_takeNumber 13 = .ok (.aload_n 0, 1) := by decide +kernel
theorem dX6_takeNumber_14 : decode cX6_takeNumber 14 = .ok (.iload_n 3, 1) := by decide +kernel
theorem dX6_takeNumber_15 : decode cX6_takeNumber 15 = .ok (.i2l, 1) := by decide +kernel
theorem dX6_takeNumber_16 : decode cX6_takeNumber 16 = .ok (.ldc2_w 97, 3) := by decide +kernel
theorem dX6_takeNumber_19 : decode cX6_takeNumber 19 = .ok (.ldc2_w 99, 3) := by decide +kernel
theorem dX6_takeNumber_22 : decode cX6_takeNumber 22 = .ok (.invokestatic 66, 3) := by decide +kernel
theorem dX6_takeNumber_25 : decode cX6_takeNumber 25 = .ok (.iconst 1, 1) := by decide +kernel
theorem dX6_takeNumber_26 : decode cX6_takeNumber 26 = .ok (.aload_n 0, 1) := by decide +kernel
theorem dX6_takeNumber_27 : decode cX6_takeNumber 27 = .ok (.getfield 77, 3) := by decide +kernel
theorem dX6_takeNumber_30 : decode cX6_takeNumber 30 = .ok (.invokevirtual 101, 3) := by decide +kernel
theorem dX6_takeNumber_33 : decode cX6_takeNumber 33 = .ok (.ifCond .ne 5, 3) := by decide +kernel
theorem dX6_takeNumber_36 : decode cX6_takeNumber 36 = .ok (.iconst 0, 1) := by decide +kernel
theorem dX6_takeNumber_37 : decode cX6_takeNumber 37 = .ok (.ireturn, 1) := by decide +kernel
theorem dX6_takeNumber_38 : decode cX6_takeNumber 38 = .ok (.iconst 0, 1) := by decide +kernel
theorem dX6_takeNumber_39 : decode cX6_takeNumber 39 = .ok (.istore 4, 2) := by decide +kernel
theorem dX6_takeNumber_41 : decode cX6_takeNumber 41 = .ok (.aload_n 0, 1) := by decide +kernel
theorem dX6_takeNumber_42 : decode cX6_takeNumber 42 = .ok (.getfield 77, 3) := by decide +kernel
theorem dX6_takeNumber_45 : decode cX6_takeNumber 45 = .ok (.aload_n 0, 1) := by decide +kernel
theorem dX6_takeNumber_46 : decode cX6_takeNumber 46 = .ok (.getfield 71, 3) := by decide +kernel
theorem dX6_takeNumber_49 : decode cX6_takeNumber 49 = .ok (.if_icmp .ge 71, 3) := by decide +kernel
theorem dX6_takeNumber_52 : decode cX6_takeNumber 52 = .ok (.aload_n 0, 1) := by decide +kernel
theorem dX6_takeNumber_53 : decode cX6_takeNumber 53 = .ok (.getfield 20, 3) := by decide +kernel
theorem dX6_takeNumber_56 : decode cX6_takeNumber 56 = .ok (.aload_n 0, 1) := by decide +kernel
theorem dX6_takeNumber_57 : decode cX6_takeNumber 57 = .ok (.getfield 77, 3) := by decide +kernel
theorem dX6_takeNumber_60 : decode cX6_takeNumber 60 = .ok (.iaload, 1) := by decide +kernel
theorem dX6_takeNumber_61 : decode cX6_takeNumber 61 = .ok (.i2l, 1) := by decide +kernel
theorem dX6_takeNumber_62 : decode cX6_takeNumber 62 = .ok (.ldc2_w 97, 3) := by decide +kernel
theorem dX6_takeNumber_65 : decode cX6_takeNumber 65 = .ok (.ldc2_w 99, 3) := by decide +kernel
theorem dX6_takeNumber_68 : decode cX6_takeNumber 68 = .ok (.invokestatic 66, 3) := by decide +kernel
theorem dX6_takeNumber_71 : decode cX6_takeNumber 71 = .ok (.ifCond .eq 49, 3) := by decide +kernel
theorem dX6_takeNumber_74 : decode cX6_takeNumber 74 = .ok (.iload 4, 2) := by decide +kernel
theorem dX6_takeNumber_76 : decode cX6_takeNumber 76 = .ok (.sipush 9999, 3) := by decide +kernel
theorem dX6_takeNumber_79 : decode cX6_takeNumber 79 = .ok (.if_icmp .le 8, 3) := by decide +kernel
theorem dX6_takeNumber_82 : decode cX6_takeNumber 82 = .ok (.iload 4, 2) := by decide +kernel
theorem dX6_takeNumber_84 : decode cX6_takeNumber 84 = .ok (.goto 21, 3) := by decide +kernel
theorem dX6_takeNumber_87 : decode cX6_takeNumber 87 = .ok (.bipush 10, 2) := by decide +kernel
theorem dX6_takeNumber_89 : decode cX6_takeNumber 89 = .ok (.iload 4, 2) := by decide +kernel
theorem dX6_takeNumber_91 : decode cX6_takeNumber 91 = .ok (.imul, 1) := by decide +kernel
theorem dX6_takeNumber_92 : decode cX6_takeNumber 92 = .ok (.aload_n 0, 1) := by decide +kernel
theorem dX6_takeNumber_93 : decode cX6_takeNumber 93 = .ok (.getfield 20, 3) := by decide +kernel
theorem dX6_takeNumber_96 : decode cX6_takeNumber 96 = .ok (.aload_n 0, 1) := by decide +kernel
theorem dX6_takeNumber_97 : decode cX6_takeNumber 97 = .ok (.getfield 77, 3) := by decide +kernel
theorem dX6_takeNumber_100 : decode cX6_takeNumber 100 = .ok (.iaload, 1) := by decide +kernel
theorem dX6_takeNumber_101 : decode cX6_takeNumber 101 = .ok (.iadd, 1) := by decide +kernel
theorem dX6_takeNumber_102 : decode cX6_takeNumber 102 = .ok (.bipush 48, 2) := by decide +kernel
theorem dX6_takeNumber_104 : decode cX6_takeNumber 104 = .ok (.isub, 1) := by decide +kernel
theorem dX6_takeNumber_105 : decode cX6_takeNumber 105 = .ok (.istore 4, 2) := by decide +kernel
theorem dX6_takeNumber_107 : decode cX6_takeNumber 107 = .ok (.aload_n 0, 1) := by decide +kernel
theorem dX6_takeNumber_108 : decode cX6_takeNumber 108 = .ok (.dup, 1) := by decide +kernel
theorem dX6_takeNumber_109 : decode cX6_takeNumber 109 = .ok (.getfield 77, 3) := by decide +kernel
theorem dX6_takeNumber_112 : decode cX6_takeNumber 112 = .ok (.iconst 1, 1) := by decide +kernel
theorem dX6_takeNumber_113 : decode cX6_takeNumber 113 = .ok (.iadd, 1) := by decide +kernel
theorem dX6_takeNumber_114 : decode cX6_takeNumber 114 = .ok (.putfield 77, 3) := by decide +kernel
theorem dX6_takeNumber_117 : decode cX6_takeNumber 117 = .ok (.goto (-76), 3) := by decide +kernel
theorem dX6_takeNumber_120 : decode cX6_takeNumber 120 = .ok (.aload_n 0, 1) := by decide +kernel
theorem dX6_takeNumber_121 : decode cX6_takeNumber 121 = .ok (.aload_n 0, 1) := by decide +kernel
theorem dX6_takeNumber_122 : decode cX6_takeNumber 122 = .ok (.getfield 77, 3) := by decide +kernel
theorem dX6_takeNumber_125 : decode cX6_takeNumber 125 = .ok (.aload_n 0, 1) := by decide +kernel
theorem dX6_takeNumber_126 : decode cX6_takeNumber 126 = .ok (.getfield 87, 3) := by decide +kernel
theorem dX6_takeNumber_129 : decode cX6_takeNumber 129 = .ok (.isub, 1) := by decide +kernel
theorem dX6_takeNumber_130 : decode cX6_takeNumber 130 = .ok (.iconst 3, 1) := by decide +kernel
theorem dX6_takeNumber_131 : decode cX6_takeNumber 131 = .ok (.if_icmp .ge 20, 3) := by decide +kernel
theorem dX6_takeNumber_134 : decode cX6_takeNumber 134 = .ok (.iload 4, 2) := by decide +kernel
theorem dX6_takeNumber_136 : decode cX6_takeNumber 136 = .ok (.i2l, 1) := by decide +kernel
theorem dX6_takeNumber_137 : decode cX6_takeNumber 137 = .ok (.iload_n 1, 1) := by decide +kernel
theorem dX6_takeNumber_138 : decode cX6_takeNumber 138 = .ok (.i2l, 1) := by decide +kernel
theorem dX6_takeNumber_139 : decode cX6_takeNumber 139 = .ok (.iload_n 2, 1) := by decide +kernel
theorem dX6_takeNumber_140 : decode cX6_takeNumber 140 = .ok (.i2l, 1) := by decide +kernel
theorem dX6_takeNumber_141 : decode cX6_takeNumber 141 = .ok (.invokestatic 66, 3) := by decide +kernel
theorem dX6_takeNumber_144 : decode cX6_takeNumber 144 = .ok (.ifCond .eq 7, 3) := by decide +kernel
theorem dX6_takeNumber_147 : decode cX6_takeNumber 147 = .ok (.iconst 1, 1) := by decide +kernel
theorem dX6_takeNumber_148 : decode cX6_takeNumber 148 = .ok (.goto 4, 3) := by decide +kernel
theorem dX6_takeNumber_151 : decode cX6_takeNumber 151 = .ok (.iconst 0, 1) := by decide +kernel
theorem dX6_takeNumber_152 : decode cX6_takeNumber 152 = .ok (.iconst 2, 1) := by decide +kernel
theorem dX6_takeNumber_153 : decode cX6_takeNumber 153 = .ok (.aload_n 0, 1) := by decide +kernel
theorem dX6_takeNumber_154 : decode cX6_takeNumber 154 = .ok (.getfield 87, 3) := by decide +kernel
theorem dX6_takeNumber_157 : decode cX6_takeNumber 157 = .ok (.invokevirtual 101, 3) := by decide +kernel
theorem dX6_takeNumber_160 : decode cX6_takeNumber 160 = .ok (.istore 5, 2) := by decide +kernel
theorem dX6_takeNumber_162 : decode cX6_takeNumber 162 = .ok (.iload 4, 2) := by decide +kernel
theorem dX6_takeNumber_164 : decode cX6_takeNumber 164 = .ok (.ireturn, 1) := by decide +kernel
theorem dX6_takeGoal_0 : decode cX6_takeGoal 0 = .ok (.aload_n 0, 1) := by decide +kernel
theorem dX6_takeGoal_1 : decode cX6_takeGoal 1 = .ok (.iconst 0, 1) := by decide +kernel
theorem dX6_takeGoal_2 : decode cX6_takeGoal 2 = .ok (.bipush 23, 2) := by decide +kernel
theorem dX6_takeGoal_4 : decode cX6_takeGoal 4 = .ok (.invokevirtual 105, 3) := by decide +kernel
theorem dX6_takeGoal_7 : decode cX6_takeGoal 7 = .ok (.istore_n 1, 1) := by decide +kernel
theorem dX6_takeGoal_8 : decode cX6_takeGoal 8 = .ok (.aload_n 0, 1) := by decide +kernel
theorem dX6_takeGoal_9 : decode cX6_takeGoal 9 = .ok (.getfield 80, 3) := by decide +kernel
theorem dX6_takeGoal_12 : decode cX6_takeGoal 12 = .ok (.ifCond .ne 36, 3) := by decide +kernel
theorem dX6_takeGoal_15 : decode cX6_takeGoal 15 = .ok (.aload_n 0, 1) := by decide +kernel
theorem dX6_takeGoal_16 : decode cX6_takeGoal 16 = .ok (.getfield 27, 3) := by decide +kernel
theorem dX6_takeGoal_19 : decode cX6_takeGoal 19 = .ok (.aload_n 0, 1) := by decide +kernel
theorem dX6_takeGoal_20 : decode cX6_takeGoal 20 = .ok (.getfield 109, 3) := by decide +kernel
theorem dX6_takeGoal_23 : decode cX6_takeGoal 23 = .ok (.iload_n 1, 1) := by decide +kernel
theorem dX6_takeGoal_24 : decode cX6_takeGoal 24 = .ok (.iastore, 1) := by decide +kernel
theorem dX6_takeGoal_25 : decode cX6_takeGoal 25 = .ok (.aload_n 0, 1) := by decide +kernel
theorem dX6_takeGoal_26 : decode cX6_takeGoal 26 = .ok (.getfield 30, 3) := by decide +kernel
theorem dX6_takeGoal_29 : decode cX6_takeGoal 29 = .ok (.aload_n 0, 1) := by decide +kernel
theorem dX6_takeGoal_30 : decode cX6_takeGoal 30 = .ok (.getfield 109, 3) := by decide +kernel
theorem dX6_takeGoal_33 : decode cX6_takeGoal 33 = .ok (.aload_n 0, 1) := by decide +kernel
theorem dX6_takeGoal_34 : decode cX6_takeGoal 34 = .ok (.getfield 87, 3) := by decide +kernel
theorem dX6_takeGoal_37 : decode cX6_takeGoal 37 = .ok (.iastore, 1) := by decide +kernel
theorem dX6_takeGoal_38 : decode cX6_takeGoal 38 = .ok (.aload_n 0, 1) := by decide +kernel
theorem dX6_takeGoal_39 : decode cX6_takeGoal 39 = .ok (.dup, 1) := by decide +kernel
theorem dX6_takeGoal_40 : decode cX6_takeGoal 40 = .ok (.getfield 109, 3) := by decide +kernel
theorem dX6_takeGoal_43 : decode cX6_takeGoal 43 = .ok (.iconst 1, 1) := by decide +kernel
theorem dX6_takeGoal_44 : decode cX6_takeGoal 44 = .ok (.iadd, 1) := by decide +kernel
theorem dX6_takeGoal_45 : decode cX6_takeGoal 45 = .ok (.putfield 109, 3) := by decide +kernel
theorem dX6_takeGoal_48 : decode cX6_takeGoal 48 = .ok (.iload_n 1, 1) := by decide +kernel
theorem dX6_takeGoal_49 : decode cX6_takeGoal 49 = .ok (.ireturn, 1) := by decide +kernel
theorem dX6_kindHere_0 : decode cX6_kindHere 0 = .ok (.aload_n 0, 1) := by decide +kernel
theorem dX6_kindHere_1 : decode cX6_kindHere 1 = .ok (.iconst 4, 1) := by decide +kernel
theorem dX6_kindHere_2 : decode cX6_kindHere 2 = .ok (.bipush 116, 2) := by decide +kernel
theorem dX6_kindHere_4 : decode cX6_kindHere 4 = .ok (.bipush 97, 2) := by decide +kernel
theorem dX6_kindHere_6 : decode cX6_kindHere 6 = .ok (.bipush 107, 2) := by decide +kernel
theorem dX6_kindHere_8 : decode cX6_kindHere 8 = .ok (.bipush 101, 2) := by decide +kernel
theorem dX6_kindHere_10 : decode cX6_kindHere 10 = .ok (.iconst 0, 1) := by decide +kernel
theorem dX6_kindHere_11 : decode cX6_kindHere 11 = .ok (.invokevirtual 112, 3) := by decide +kernel
theorem dX6_kindHere_14 : decode cX6_kindHere 14 = .ok (.ifCond .eq 7, 3) := by decide +kernel
theorem dX6_kindHere_17 : decode cX6_kindHere 17 = .ok (.iconst 0, 1) := by decide +kernel
theorem dX6_kindHere_18 : decode cX6_kindHere 18 = .ok (.goto 67, 3) := by decide +kernel
theorem dX6_kindHere_21 : decode cX6_kindHere 21 = .ok (.aload_n 0, 1) := by decide +kernel
theorem dX6_kindHere_22 : decode cX6_kindHere 22 = .ok (.iconst 4, 1) := by decide +kernel
theorem dX6_kindHere_23 : decode cX6_kindHere 23 = .ok (.bipush 100, 2) := by decide +kernel
theorem dX6_kindHere_25 : decode cX6_kindHere 25 = .ok (.bipush 114, 2) := by decide +kernel
theorem dX6_kindHere_27 : decode cX6_kindHere 27 = .ok (.bipush 111, 2) := by decide +kernel
theorem dX6_kindHere_29 : decode cX6_kindHere 29 = .ok (.bipush 112, 2) := by decide +kernel
theorem dX6_kindHere_31 : decode cX6_kindHere 31 = .ok (.iconst 0, 1) := by decide +kernel
theorem dX6_kindHere_32 : decode cX6_kindHere 32 = .ok (.invokevirtual 112, 3) := by decide +kernel
theorem dX6_kindHere_35 : decode cX6_kindHere 35 = .ok (.ifCond .eq 7, 3) := by decide +kernel
theorem dX6_kindHere_38 : decode cX6_kindHere 38 = .ok (.iconst 1, 1) := by decide +kernel
theorem dX6_kindHere_39 : decode cX6_kindHere 39 = .ok (.goto 46, 3) := by decide +kernel
theorem dX6_kindHere_42 : decode cX6_kindHere 42 = .ok (.aload_n 0, 1) := by decide +kernel
theorem dX6_kindHere_43 : decode cX6_kindHere 43 = .ok (.iconst 4, 1) := by decide +kernel
theorem dX6_kindHere_44 : decode cX6_kindHere 44 = .ok (.bipush 104, 2) := by decide +kernel
theorem dX6_kindHere_46 : decode cX6_kindHere 46 = .ok (.bipush 117, 2) := by decide +kernel
theorem dX6_kindHere_48 : decode cX6_kindHere 48 = .ok (.bipush 114, 2) := by decide +kernel
theorem dX6_kindHere_50 : decode cX6_kindHere 50 = .ok (.bipush 116, 2) := by decide +kernel
theorem dX6_kindHere_52 : decode cX6_kindHere 52 = .ok (.iconst 0, 1) := by decide +kernel
theorem dX6_kindHere_53 : decode cX6_kindHere 53 = .ok (.invokevirtual 112, 3) := by decide +kernel
theorem dX6_kindHere_56 : decode cX6_kindHere 56 = .ok (.ifCond .eq 7, 3) := by decide +kernel
theorem dX6_kindHere_59 : decode cX6_kindHere 59 = .ok (.iconst 2, 1) := by decide +kernel
theorem dX6_kindHere_60 : decode cX6_kindHere 60 = .ok (.goto 25, 3) := by decide +kernel
theorem dX6_kindHere_63 : decode cX6_kindHere 63 = .ok (.aload_n 0, 1) := by decide +kernel
theorem dX6_kindHere_64 : decode cX6_kindHere 64 = .ok (.iconst 4, 1) := by decide +kernel
theorem dX6_kindHere_65 : decode cX6_kindHere 65 = .ok (.bipush 104, 2) := by decide +kernel
theorem dX6_kindHere_67 : decode cX6_kindHere 67 = .ok (.bipush 101, 2) := by decide +kernel
theorem dX6_kindHere_69 : decode cX6_kindHere 69 = .ok (.bipush 97, 2) := by decide +kernel
theorem dX6_kindHere_71 : decode cX6_kindHere 71 = .ok (.bipush 108, 2) := by decide +kernel
theorem dX6_kindHere_73 : decode cX6_kindHere 73 = .ok (.iconst 0, 1) := by decide +kernel
theorem dX6_kindHere_74 : decode cX6_kindHere 74 = .ok (.invokevirtual 112, 3) := by decide +kernel
theorem dX6_kindHere_77 : decode cX6_kindHere 77 = .ok (.ifCond .eq 7, 3) := by decide +kernel
theorem dX6_kindHere_80 : decode cX6_kindHere 80 = .ok (.iconst 3, 1) := by decide +kernel
theorem dX6_kindHere_81 : decode cX6_kindHere 81 = .ok (.goto 4, 3) := by decide +kernel
theorem dX6_kindHere_84 : decode cX6_kindHere 84 = .ok (.iconst (-1), 1) := by decide +kernel
theorem dX6_kindHere_85 : decode cX6_kindHere 85 = .ok (.ireturn, 1) := by decide +kernel
theorem dX6_takeEffects_0 : decode cX6_takeEffects 0 = .ok (.aload_n 0, 1) := by decide +kernel
theorem dX6_takeEffects_1 : decode cX6_takeEffects 1 = .ok (.invokevirtual 116, 3) := by decide +kernel
theorem dX6_takeEffects_4 : decode cX6_takeEffects 4 = .ok (.aload_n 0, 1) := by decide +kernel
theorem dX6_takeEffects_5 : decode cX6_takeEffects 5 = .ok (.invokevirtual 119, 3) := by decide +kernel
theorem dX6_takeEffects_8 : decode cX6_takeEffects 8 = .ok (.istore_n 2, 1) := by decide +kernel
theorem dX6_takeEffects_9 : decode cX6_takeEffects 9 = .ok (.iload_n 2, 1) := by decide +kernel
theorem dX6_takeEffects_10 : decode cX6_takeEffects 10 = .ok (.ifCond .lt 124, 3) := by decide +kernel
theorem dX6_takeEffects_13 : decode cX6_takeEffects 13 = .ok (.aload_n 0, 1) := by decide +kernel
theorem dX6_takeEffects_14 : decode cX6_takeEffects 14 = .ok (.getfield 80, 3) := by decide +kernel
theorem dX6_takeEffects_17 : decode cX6_takeEffects 17 = .ok (.ifCond .ne 117, 3) := by decide +kernel
theorem dX6_takeEffects_20 : decode cX6_takeEffects 20 = .ok (.aload_n 0, 1) := by decide +kernel
theorem dX6_takeEffects_21 : decode cX6_takeEffects 21 = .ok (.getfield 17, 3) := by decide +kernel
theorem dX6_takeEffects_24 : decode cX6_takeEffects 24 = .ok (.bipush 32, 2) := by decide +kernel
theorem dX6_takeEffects_26 : decode cX6_takeEffects 26 = .ok (.iload_n 1, 1) := by decide +kernel
theorem dX6_takeEffects_27 : decode cX6_takeEffects 27 = .ok (.iadd, 1) := by decide +kernel
theorem dX6_takeEffects_28 : decode cX6_takeEffects 28 = .ok (.iaload, 1) := by decide +kernel
theorem dX6_takeEffects_29 : decode cX6_takeEffects 29 = .ok (.istore_n 3, 1) := by decide +kernel
theorem dX6_takeEffects_30 : decode cX6_takeEffects 30 = .ok (.aload_n 0, 1) := by decide +kernel
theorem dX6_takeEffects_31 : decode cX6_takeEffects 31 = .ok (.iload_n 3, 1) := by decide +kernel
theorem dX6_takeEffects_32 : decode cX6_takeEffects 32 = .ok (.iconst 4, 1) := by decide +kernel
theorem dX6_takeEffects_33 : decode cX6_takeEffects 33 = .ok (.if_icmp .ge 7, 3) := by decide +kernel
theorem dX6_takeEffects_36 : decode cX6_takeEffects 36 = .ok (.iconst 1, 1) := by decide +kernel
theorem dX6_takeEffects_37 : decode cX6_takeEffects 37 = .ok (.goto 4, 3) := by decide +kernel
theorem dX6_takeEffects_40 : decode cX6_takeEffects 40 = .ok (.iconst 0, 1) := by decide +kernel
theorem dX6_takeEffects_41 : decode cX6_takeEffects 41 = .ok (.iconst 3, 1) := by decide +kernel
theorem dX6_takeEffects_42 : decode cX6_takeEffects 42 = .ok (.aload_n 0, 1) := by decide +kernel
theorem dX6_takeEffects_43 : decode cX6_takeEffects 43 = .ok (.getfield 87, 3) := by decide +kernel
theorem dX6_takeEffects_46 : decode cX6_takeEffects 46 = .ok (.invokevirtual 101, 3) := by decide +kernel
theorem dX6_takeEffects_49 : decode cX6_takeEffects 49 = .ok (.ifCond .eq 82, 3) := by decide +kernel
theorem dX6_takeEffects_52 : decode cX6_takeEffects 52 = .ok (.aload_n 0, 1) := by decide +kernel
theorem dX6_takeEffects_53 : decode cX6_takeEffects 53 = .ok (.getfield 17, 3) := by decide +kernel
theorem dX6_takeEffects_56 : decode cX6_takeEffects 56 = .ok (.sipush 176, 3) := by decide +kernel
theorem dX6_takeEffects_59 : decode cX6_takeEffects 59 = .ok (.iconst 4, 1) := by decide +kernel
theorem dX6_takeEffects_60 : decode cX6_takeEffects 60 = .ok (.iload_n 1, 1) := by decide +kernel
theorem dX6_takeEffects_61 : decode cX6_takeEffects 61 = .ok (.imul, 1) := by decide +kernel
theorem dX6_takeEffects_62 : decode cX6_takeEffects 62 = .ok (.iadd, 1) := by decide +kernel
theorem dX6_takeEffects_63 : decode cX6_takeEffects 63 = .ok (.iload_n 3, 1) := by decide +kernel
theorem dX6_takeEffects_64 : decode cX6_takeEffects 64 = .ok (.iadd, 1) := by decide +kernel
theorem dX6_takeEffects_65 : decode cX6_takeEffects 65 = .ok (.iload_n 2, 1) := by decide +kernel
theorem dX6_takeEffects_66 : decode cX6_takeEffects 66 = .ok (.iastore, 1) := by decide +kernel
theorem dX6_takeEffects_67 : decode cX6_takeEffects 67 = .ok (.aload_n 0, 1) := by decide +kernel
theorem dX6_takeEffects_68 : decode cX6_takeEffects 68 = .ok (.getfield 17, 3) := by decide +kernel
theorem dX6_takeEffects_71 : decode cX6_takeEffects 71 = .ok (.sipush 272, 3) := by decide +kernel
theorem dX6_takeEffects_74 : decode cX6_takeEffects 74 = .ok (.iconst 4, 1) := by decide +kernel
theorem dX6_takeEffects_75 : decode cX6_takeEffects 75 = .ok (.iload_n 1, 1) := by decide +kernel
theorem dX6_takeEffects_76 : decode cX6_takeEffects 76 = .ok (.imul, 1) := by decide +kernel
theorem dX6_takeEffects_77 : decode cX6_takeEffects 77 = .ok (.iadd, 1) := by decide +kernel
theorem dX6_takeEffects_78 : decode cX6_takeEffects 78 = .ok (.iload_n 3, 1) := by decide +kernel
theorem dX6_takeEffects_79 : decode cX6_takeEffects 79 = .ok (.iadd, 1) := by decide +kernel
theorem dX6_takeEffects_80 : decode cX6_takeEffects 80 = .ok (.iload_n 2, 1) := by decide +kernel
theorem dX6_takeEffects_81 : decode cX6_takeEffects 81 = .ok (.iconst 2, 1) := by decide +kernel
theorem dX6_takeEffects_82 : decode cX6_takeEffects 82 = .ok (.if_icmp .ge 13, 3) := by decide +kernel
theorem dX6_takeEffects_85 : decode cX6_takeEffects 85 = .ok (.aload_n 0, 1) := by decide +kernel
theorem dX6_takeEffects_86 : decode cX6_takeEffects 86 = .ok (.iconst 0, 1) := by decide +kernel
theorem dX6_takeEffects_87 : decode cX6_takeEffects 87 = .ok (.bipush 7, 2) := by decide +kernel
theorem dX6_takeEffects_89 : decode cX6_takeEffects 89 = .ok (.invokevirtual 105, 3) := by decide +kernel
theorem dX6_takeEffects_92 : decode cX6_takeEffects 92 = .ok (.goto 10, 3) := by decide +kernel
theorem dX6_takeEffects_95 : decode cX6_takeEffects 95 = .ok (.aload_n 0, 1) := by decide +kernel
theorem dX6_takeEffects_96 : decode cX6_takeEffects 96 = .ok (.iconst 1, 1) := by decide +kernel
theorem dX6_takeEffects_97 : decode cX6_takeEffects 97 = .ok (.bipush 9, 2) := by decide +kernel
theorem dX6_takeEffects_99 : decode cX6_takeEffects 99 = .ok (.invokevirtual 105, 3) := by decide +kernel
theorem dX6_takeEffects_102 : decode cX6_takeEffects 102 = .ok (.iastore, 1) := by decide +kernel
theorem dX6_takeEffects_103 : decode cX6_takeEffects 103 = .ok (.aload_n 0, 1) := by decide +kernel
theorem dX6_takeEffects_104 : decode cX6_takeEffects 104 = .ok (.getfield 17, 3) := by decide +kernel
theorem dX6_takeEffects_107 : decode cX6_takeEffects 107 = .ok (.bipush 32, 2) := by decide +kernel
theorem dX6_takeEffects_109 : decode cX6_takeEffects 109 = .ok (.iload_n 1, 1) := by decide +kernel
theorem dX6_takeEffects_110 : decode cX6_takeEffects 110 = .ok (.iadd, 1) := by decide +kernel
theorem dX6_takeEffects_111 : decode cX6_takeEffects 111 = .ok (.iload_n 3, 1) := by decide +kernel
theorem dX6_takeEffects_112 : decode cX6_takeEffects 112 = .ok (.iconst 1, 1) := by decide +kernel
theorem dX6_takeEffects_113 : decode cX6_takeEffects 113 = .ok (.iadd, 1) := by decide +kernel
theorem dX6_takeEffects_114 : decode cX6_takeEffects 114 = .ok (.iastore, 1) := by decide +kernel
theorem dX6_takeEffects_115 : decode cX6_takeEffects 115 = .ok (.aload_n 0, 1) := by decide +kernel
theorem dX6_takeEffects_116 : decode cX6_takeEffects 116 = .ok (.getfield 80, 3) := by decide +kernel
theorem dX6_takeEffects_119 : decode cX6_takeEffects 119 = .ok (.ifCond .ne 12, 3) := by decide +kernel
theorem dX6_takeEffects_122 : decode cX6_takeEffects 122 = .ok (.aload_n 0, 1) := by decide +kernel
theorem dX6_takeEffects_123 : decode cX6_takeEffects 123 = .ok (.invokevirtual 116, 3) := by decide +kernel
theorem dX6_takeEffects_126 : decode cX6_takeEffects 126 = .ok (.aload_n 0, 1) := by decide +kernel
theorem dX6_takeEffects_127 : decode cX6_takeEffects 127 = .ok (.invokevirtual 119, 3) := by decide +kernel
theorem dX6_takeEffects_130 : decode cX6_takeEffects 130 = .ok (.istore_n 2, 1) := by decide +kernel
theorem dX6_takeEffects_131 : decode cX6_takeEffects 131 = .ok (.goto (-122), 3) := by decide +kernel
theorem dX6_takeEffects_134 : decode cX6_takeEffects 134 = .ok (.return_, 1) := by decide +kernel
theorem dX6_takeChoices_0 : decode cX6_takeChoices 0 = .ok (.aload_n 0, 1) := by decide +kernel
theorem dX6_takeChoices_1 : decode cX6_takeChoices 1 = .ok (.getfield 80, 3) := by decide +kernel
theorem dX6_takeChoices_4 : decode cX6_takeChoices 4 = .ok (.ifCond .ne 237, 3) := by decide +kernel
theorem dX6_takeChoices_7 : decode cX6_takeChoices 7 = .ok (.aload_n 0, 1) := by decide +kernel
theorem dX6_takeChoices_8 : decode cX6_takeChoices 8 = .ok (.iconst 2, 1) := by decide +kernel
theorem dX6_takeChoices_9 : decode cX6_takeChoices 9 = .ok (.bipush 103, 2) := by decide +kernel
theorem dX6_takeChoices_11 : decode cX6_takeChoices 11 = .ok (.bipush 111, 2) := by decide +kernel
theorem dX6_takeChoices_13 : decode cX6_takeChoices 13 = .ok (.iconst 0, 1) := by decide +kernel
theorem dX6_takeChoices_14 : decode cX6_takeChoices 14 = .ok (.iconst 0, 1) := by decide +kernel
theorem dX6_takeChoices_15 : decode cX6_takeChoices 15 = .ok (.iconst 0, 1) := by decide +kernel
theorem dX6_takeChoices_16 : decode cX6_takeChoices 16 = .ok (.invokevirtual 112, 3) := by decide +kernel
theorem dX6_takeChoices_19 : decode cX6_takeChoices 19 = .ok (.ifCond .eq 222, 3) := by decide +kernel
theorem dX6_takeChoices_22 : decode cX6_takeChoices 22 = .ok (.aload_n 0, 1) := by decide +kernel
theorem dX6_takeChoices_23 : decode cX6_takeChoices 23 = .ok (.getfield 17, 3) := by decide +kernel
theorem dX6_takeChoices_26 : decode cX6_takeChoices 26 = .ok (.bipush 56, 2) := by decide +kernel
theorem dX6_takeChoices_28 : decode cX6_takeChoices 28 = .ok (.iload_n 1, 1) := by decide +kernel
theorem dX6_takeChoices_29 : decode cX6_takeChoices 29 = .ok (.iadd, 1) := by decide +kernel
theorem dX6_takeChoices_30 : decode cX6_takeChoices 30 = .ok (.iaload, 1) := by decide +kernel
theorem dX6_takeChoices_31 : decode cX6_takeChoices 31 = .ok (.istore_n 2, 1) := by decide +kernel
theorem dX6_takeChoices_32 : decode cX6_takeChoices 32 = .ok (.aload_n 0, 1) := by decide +kernel
theorem dX6_takeChoices_33 : decode cX6_takeChoices 33 = .ok (.iload_n 2, 1) := by decide +kernel
theorem dX6_takeChoices_34 : decode cX6_takeChoices 34 = .ok (.bipush 6, 2) := by decide +kernel
theorem dX6_takeChoices_36 : decode cX6_takeChoices 36 = .ok (.if_icmp .ge 7, 3) := by decide +kernel
theorem dX6_takeChoices_39 : decode cX6_takeChoices 39 = .ok (.iconst 1, 1) := by decide +kernel
theorem dX6_takeChoices_40 : decode cX6_takeChoices 40 = .ok (.goto 4, 3) := by decide +kernel
theorem dX6_takeChoices_43 : decode cX6_takeChoices 43 = .ok (.iconst 0, 1) := by decide +kernel
theorem dX6_takeChoices_44 : decode cX6_takeChoices 44 = .ok (.iconst 3, 1) := by decide +kernel
theorem dX6_takeChoices_45 : decode cX6_takeChoices 45 = .ok (.aload_n 0, 1) := by decide +kernel
theorem dX6_takeChoices_46 : decode cX6_takeChoices 46 = .ok (.getfield 87, 3) := by decide +kernel
theorem dX6_takeChoices_49 : decode cX6_takeChoices 49 = .ok (.invokevirtual 101, 3) := by decide +kernel
theorem dX6_takeChoices_52 : decode cX6_takeChoices 52 = .ok (.ifCond .eq 186, 3) := by decide +kernel
theorem dX6_takeChoices_55 : decode cX6_takeChoices 55 = .ok (.bipush 6, 2) := by decide +kernel
theorem dX6_takeChoices_57 : decode cX6_takeChoices 57 = .ok (.iload_n 1, 1) := by decide +kernel
theorem dX6_takeChoices_58 : decode cX6_takeChoices 58 = .ok (.imul, 1) := by decide +kernel
theorem dX6_takeChoices_59 : decode cX6_takeChoices 59 = .ok (.iload_n 2, 1) := by decide +kernel
theorem dX6_takeChoices_60 : decode cX6_takeChoices 60 = .ok (.iadd, 1) := by decide +kernel
theorem dX6_takeChoices_61 : decode cX6_takeChoices 61 = .ok (.istore_n 3, 1) := by decide +kernel
theorem dX6_takeChoices_62 : decode cX6_takeChoices 62 = .ok (.aload_n 0, 1) := by decide +kernel
theorem dX6_takeChoices_63 : decode cX6_takeChoices 63 = .ok (.getfield 17, 3) := by decide +kernel
theorem dX6_takeChoices_66 : decode cX6_takeChoices 66 = .ok (.sipush 368, 3) := by decide +kernel
theorem dX6_takeChoices_69 : decode cX6_takeChoices 69 = .ok (.iload_n 3, 1) := by decide +kernel
theorem dX6_takeChoices_70 : decode cX6_takeChoices 70 = .ok (.iadd, 1) := by decide +kernel
theorem dX6_takeChoices_71 : decode cX6_takeChoices 71 = .ok (.aload_n 0, 1) := by decide +kernel
theorem dX6_takeChoices_72 : decode cX6_takeChoices 72 = .ok (.invokevirtual 122, 3) := by decide +kernel
theorem dX6_takeChoices_75 : decode cX6_takeChoices 75 = .ok (.iastore, 1) := by decide +kernel
theorem dX6_takeChoices_76 : decode cX6_takeChoices 76 = .ok (.aload_n 0, 1) := by decide +kernel
theorem dX6_takeChoices_77 : decode cX6_takeChoices 77 = .ok (.getfield 17, 3) := by decide +kernel
theorem dX6_takeChoices_80 : decode cX6_takeChoices 80 = .ok (.sipush 512, 3) := by decide +kernel
theorem dX6_takeChoices_83 : decode cX6_takeChoices 83 = .ok (.iload_n 3, 1) := by decide +kernel
theorem dX6_takeChoices_84 : decode cX6_takeChoices 84 = .ok (.iadd, 1) := by decide +kernel
theorem dX6_takeChoices_85 : decode cX6_takeChoices 85 = .ok (.iconst (-1), 1) := by decide +kernel
theorem dX6_takeChoices_86 : decode cX6_takeChoices 86 = .ok (.iastore, 1) := by decide +kernel
theorem dX6_takeChoices_87 : decode cX6_takeChoices 87 = .ok (.aload_n 0, 1) := by decide +kernel
theorem dX6_takeChoices_88 : decode cX6_takeChoices 88 = .ok (.getfield 17, 3) := by decide +kernel
theorem dX6_takeChoices_91 : decode cX6_takeChoices 91 = .ok (.sipush 656, 3) := by decide +kernel
theorem dX6_takeChoices_94 : decode cX6_takeChoices 94 = .ok (.iload_n 3, 1) := by decide +kernel
theorem dX6_takeChoices_95 : decode cX6_takeChoices 95 = .ok (.iadd, 1) := by decide +kernel
theorem dX6_takeChoices_96 : decode cX6_takeChoices 96 = .ok (.iconst (-1), 1) := by decide +kernel
theorem dX6_takeChoices_97 : decode cX6_takeChoices 97 = .ok (.iastore, 1) := by decide +kernel
theorem dX6_takeChoices_98 : decode cX6_takeChoices 98 = .ok (.aload_n 0, 1) := by decide +kernel
theorem dX6_takeChoices_99 : decode cX6_takeChoices 99 = .ok (.getfield 80, 3) := by decide +kernel
theorem dX6_takeChoices_102 : decode cX6_takeChoices 102 = .ok (.ifCond .ne 7, 3) := by decide +kernel
theorem dX6_takeChoices_105 : decode cX6_takeChoices 105 = .ok (.aload_n 0, 1) := by decide +kernel
theorem dX6_takeChoices_106 : decode cX6_takeChoices 106 = .ok (.invokevirtual 116, 3) := by decide +kernel
theorem dX6_takeChoices_109 : decode cX6_takeChoices 109 = .ok (.aload_n 0, 1) := by decide +kernel
theorem dX6_takeChoices_110 : decode cX6_takeChoices 110 = .ok (.getfield 80, 3) := by decide +kernel
theorem dX6_takeChoices_113 : decode cX6_takeChoices 113 = .ok (.ifCond .ne 48, 3) := by decide +kernel
theorem dX6_takeChoices_116 : decode cX6_takeChoices 116 = .ok (.aload_n 0, 1) := by decide +kernel
theorem dX6_takeChoices_117 : decode cX6_takeChoices 117 = .ok (.iconst 4, 1) := by decide +kernel
theorem dX6_takeChoices_118 : decode cX6_takeChoices 118 = .ok (.bipush 119, 2) := by decide +kernel
theorem dX6_takeChoices_120 : decode cX6_takeChoices 120 = .ok (.bipush 105, 2) := by decide +kernel
theorem dX6_takeChoices_122 : decode cX6_takeChoices 122 = .ok (.bipush 116, 2) := by decide +kernel
theorem dX6_takeChoices_124 : decode cX6_takeChoices 124 = .ok (.bipush 104, 2) := by decide +kernel
theorem dX6_takeChoices_126 : decode cX6_takeChoices 126 = .ok (.iconst 0, 1) := by decide +kernel
theorem dX6_takeChoices_127 : decode cX6_takeChoices 127 = .ok (.invokevirtual 112, 3) := by decide +kernel
theorem dX6_takeChoices_130 : decode cX6_takeChoices 130 = .ok (.ifCond .eq 31, 3) := by decide +kernel
theorem dX6_takeChoices_133 : decode cX6_takeChoices 133 = .ok (.aload_n 0, 1) := by decide +kernel
theorem dX6_takeChoices_134 : decode cX6_takeChoices 134 = .ok (.getfield 17, 3) := by decide +kernel
theorem dX6_takeChoices_137 : decode cX6_takeChoices 137 = .ok (.sipush 512, 3) := by decide +kernel
theorem dX6_takeChoices_140 : decode cX6_takeChoices 140 = .ok (.iload_n 3, 1) := by decide +kernel
theorem dX6_takeChoices_141 : decode cX6_takeChoices 141 = .ok (.iadd, 1) := by decide +kernel
theorem dX6_takeChoices_142 : decode cX6_takeChoices 142 = .ok (.aload_n 0, 1) := by decide +kernel
theorem dX6_takeChoices_143 : decode cX6_takeChoices 143 = .ok (.iconst 0, 1) := by decide +kernel
theorem dX6_takeChoices_144 : decode cX6_takeChoices 144 = .ok (.bipush 7, 2) := by decide +kernel
theorem dX6_takeChoices_146 : decode cX6_takeChoices 146 = .ok (.invokevirtual 105, 3) := by decide +kernel
theorem dX6_takeChoices_149 : decode cX6_takeChoices 149 = .ok (.iastore, 1) := by decide +kernel
theorem dX6_takeChoices_150 : decode cX6_takeChoices 150 = .ok (.aload_n 0, 1) := by decide +kernel
theorem dX6_takeChoices_151 : decode cX6_takeChoices 151 = .ok (.getfield 80, 3) := by decide +kernel
theorem dX6_takeChoices_154 : decode cX6_takeChoices 154 = .ok (.ifCond .ne 7, 3) := by decide +kernel
theorem dX6_takeChoices_157 : decode cX6_takeChoices 157 = .ok (.aload_n 0, 1) := by decide +kernel
theorem dX6_takeChoices_158 : decode cX6_takeChoices 158 = .ok (.invokevirtual 116, 3) := by decide +kernel
theorem dX6_takeChoices_161 : decode cX6_takeChoices 161 = .ok (.aload_n 0, 1) := by decide +kernel
theorem dX6_takeChoices_162 : decode cX6_takeChoices 162 = .ok (.getfield 80, 3) := by decide +kernel
theorem dX6_takeChoices_165 : decode cX6_takeChoices 165 = .ok (.ifCond .ne 61, 3) := by decide +kernel
theorem dX6_takeChoices_168 : decode cX6_takeChoices 168 = .ok (.aload_n 0, 1) := by decide +kernel
theorem dX6_takeChoices_169 : decode cX6_takeChoices 169 = .ok (.bipush 7, 2) := by decide +kernel
theorem dX6_takeChoices_171 : decode cX6_takeChoices 171 = .ok (.bipush 111, 2) := by decide +kernel
theorem dX6_takeChoices_173 : decode cX6_takeChoices 173 = .ok (.bipush 117, 2) := by decide +kernel
theorem dX6_takeChoices_175 : decode cX6_takeChoices 175 = .ok (.bipush 116, 2) := by decide +kernel
theorem dX6_takeChoices_177 : decode cX6_takeChoices 177 = .ok (.invokevirtual 125, 3) := by decide +kernel
theorem dX6_takeChoices_180 : decode cX6_takeChoices 180 = .ok (.ifCond .eq 46, 3) := by decide +kernel
theorem dX6_takeChoices_183 : decode cX6_takeChoices 183 = .ok (.aload_n 0, 1) := by decide +kernel
theorem dX6_takeChoices_184 : decode cX6_takeChoices 184 = .ok (.bipush 119, 2) := by decide +kernel
theorem dX6_takeChoices_186 : decode cX6_takeChoices 186 = .ok (.bipush 105, 2) := by decide +kernel
theorem dX6_takeChoices_188 : decode cX6_takeChoices 188 = .ok (.bipush 116, 2) := by decide +kernel
theorem dX6_takeChoices_190 : decode cX6_takeChoices 190 = .ok (.bipush 104, 2) := by decide +kernel
theorem dX6_takeChoices_192 : decode cX6_takeChoices 192 = .ok (.invokevirtual 129, 3) := by decide +kernel
theorem dX6_takeChoices_195 : decode cX6_takeChoices 195 = .ok (.ifCond .eq 31, 3) := by decide +kernel
theorem dX6_takeChoices_198 : decode cX6_takeChoices 198 = .ok (.aload_n 0, 1) := by decide +kernel
theorem dX6_takeChoices_199 : decode cX6_takeChoices 199 = .ok (.getfield 17, 3) := by decide +kernel
theorem dX6_takeChoices_202 : decode cX6_takeChoices 202 = .ok (.sipush 656, 3) := by decide +kernel
theorem dX6_takeChoices_205 : decode cX6_takeChoices 205 = .ok (.iload_n 3, 1) := by decide +kernel
theorem dX6_takeChoices_206 : decode cX6_takeChoices 206 = .ok (.iadd, 1) := by decide +kernel
theorem dX6_takeChoices_207 : decode cX6_takeChoices 207 = .ok (.aload_n 0, 1) := by decide +kernel
theorem dX6_takeChoices_208 : decode cX6_takeChoices 208 = .ok (.iconst 0, 1) := by decide +kernel
theorem dX6_takeChoices_209 : decode cX6_takeChoices 209 = .ok (.bipush 7, 2) := by decide +kernel
theorem dX6_takeChoices_211 : decode cX6_takeChoices 211 = .ok (.invokevirtual 105, 3) := by decide +kernel
theorem dX6_takeChoices_214 : decode cX6_takeChoices 214 = .ok (.iastore, 1) := by decide +kernel
theorem dX6_takeChoices_215 : decode cX6_takeChoices 215 = .ok (.aload_n 0, 1) := by decide +kernel
theorem dX6_takeChoices_216 : decode cX6_takeChoices 216 = .ok (.getfield 80, 3) := by decide +kernel
theorem dX6_takeChoices_219 : decode cX6_takeChoices 219 = .ok (.ifCond .ne 7, 3) := by decide +kernel
theorem dX6_takeChoices_222 : decode cX6_takeChoices 222 = .ok (.aload_n 0, 1) := by decide +kernel
theorem dX6_takeChoices_223 : decode cX6_takeChoices 223 = .ok (.invokevirtual 116, 3) := by decide +kernel
theorem dX6_takeChoices_226 : decode cX6_takeChoices 226 = .ok (.aload_n 0, 1) := by decide +kernel
theorem dX6_takeChoices_227 : decode cX6_takeChoices 227 = .ok (.getfield 17, 3) := by decide +kernel
theorem dX6_takeChoices_230 : decode cX6_takeChoices 230 = .ok (.bipush 56, 2) := by decide +kernel
theorem dX6_takeChoices_232 : decode cX6_takeChoices 232 = .ok (.iload_n 1, 1) := by decide +kernel
theorem dX6_takeChoices_233 : decode cX6_takeChoices 233 = .ok (.iadd, 1) := by decide +kernel
theorem dX6_takeChoices_234 : decode cX6_takeChoices 234 = .ok (.iload_n 2, 1) := by decide +kernel
theorem dX6_takeChoices_235 : decode cX6_takeChoices 235 = .ok (.iconst 1, 1) := by decide +kernel
theorem dX6_takeChoices_236 : decode cX6_takeChoices 236 = .ok (.iadd, 1) := by decide +kernel
theorem dX6_takeChoices_237 : decode cX6_takeChoices 237 = .ok (.iastore, 1) := by decide +kernel
theorem dX6_takeChoices_238 : decode cX6_takeChoices 238 = .ok (.goto (-238), 3) := by decide +kernel
theorem dX6_takeChoices_241 : decode cX6_takeChoices 241 = .ok (.aload_n 0, 1) := by decide +kernel
theorem dX6_takeChoices_242 : decode cX6_takeChoices 242 = .ok (.getfield 80, 3) := by decide +kernel
theorem dX6_takeChoices_245 : decode cX6_takeChoices 245 = .ok (.ifCond .ne 11, 3) := by decide +kernel
theorem dX6_takeChoices_248 : decode cX6_takeChoices 248 = .ok (.aload_n 0, 1) := by decide +kernel
theorem dX6_takeChoices_249 : decode cX6_takeChoices 249 = .ok (.aload_n 0, 1) := by decide +kernel
theorem dX6_takeChoices_250 : decode cX6_takeChoices 250 = .ok (.getfield 87, 3) := by decide +kernel
theorem dX6_takeChoices_253 : decode cX6_takeChoices 253 = .ok (.putfield 77, 3) := by decide +kernel
theorem dX6_takeChoices_256 : decode cX6_takeChoices 256 = .ok (.return_, 1) := by decide +kernel
theorem dX6_takePart_0 : decode cX6_takePart 0 = .ok (.aload_n 0, 1) := by decide +kernel
theorem dX6_takePart_1 : decode cX6_takePart 1 = .ok (.getfield 17, 3) := by decide +kernel
theorem dX6_takePart_4 : decode cX6_takePart 4 = .ok (.iconst 0, 1) := by decide +kernel
theorem dX6_takePart_5 : decode cX6_takePart 5 = .ok (.iaload, 1) := by decide +kernel
theorem dX6_takePart_6 : decode cX6_takePart 6 = .ok (.istore_n 1, 1) := by decide +kernel
theorem dX6_takePart_7 : decode cX6_takePart 7 = .ok (.aload_n 0, 1) := by decide +kernel
theorem dX6_takePart_8 : decode cX6_takePart 8 = .ok (.iload_n 1, 1) := by decide +kernel
theorem dX6_takePart_9 : decode cX6_takePart 9 = .ok (.bipush 24, 2) := by decide +kernel
theorem dX6_takePart_11 : decode cX6_takePart 11 = .ok (.if_icmp .ge 7, 3) := by decide +kernel
theorem dX6_takePart_14 : decode cX6_takePart 14 = .ok (.iconst 1, 1) := by decide +kernel
theorem dX6_takePart_15 : decode cX6_takePart 15 = .ok (.goto 4, 3) := by decide +kernel
theorem dX6_takePart_18 : decode cX6_takePart 18 = .ok (.iconst 0, 1) := by decide +kernel
theorem dX6_takePart_19 : decode cX6_takePart 19 = .ok (.iconst 3, 1) := by decide +kernel
theorem dX6_takePart_20 : decode cX6_takePart 20 = .ok (.aload_n 0, 1) := by decide +kernel
theorem dX6_takePart_21 : decode cX6_takePart 21 = .ok (.getfield 87, 3) := by decide +kernel
theorem dX6_takePart_24 : decode cX6_takePart 24 = .ok (.invokevirtual 101, 3) := by decide +kernel
theorem dX6_takePart_27 : decode cX6_takePart 27 = .ok (.ifCond .ne 4, 3) := by decide +kernel
theorem dX6_takePart_30 : decode cX6_takePart 30 = .ok (.return_, 1) := by decide +kernel
theorem dX6_takePart_31 : decode cX6_takePart 31 = .ok (.aload_n 0, 1) := by decide +kernel
theorem dX6_takePart_32 : decode cX6_takePart 32 = .ok (.getfield 17, 3) := by decide +kernel
theorem dX6_takePart_35 : decode cX6_takePart 35 = .ok (.iconst 0, 1) := by decide +kernel
theorem dX6_takePart_36 : decode cX6_takePart 36 = .ok (.iload_n 1, 1) := by decide +kernel
theorem dX6_takePart_37 : decode cX6_takePart 37 = .ok (.iconst 1, 1) := by decide +kernel
theorem dX6_takePart_38 : decode cX6_takePart 38 = .ok (.iadd, 1) := by decide +kernel
theorem dX6_takePart_39 : decode cX6_takePart 39 = .ok (.iastore, 1) := by decide +kernel
theorem dX6_takePart_40 : decode cX6_takePart 40 = .ok (.aload_n 0, 1) := by decide +kernel
theorem dX6_takePart_41 : decode cX6_takePart 41 = .ok (.iload_n 1, 1) := by decide +kernel
theorem dX6_takePart_42 : decode cX6_takePart 42 = .ok (.invokevirtual 132, 3) := by decide +kernel
theorem dX6_takePart_45 : decode cX6_takePart 45 = .ok (.aload_n 0, 1) := by decide +kernel
theorem dX6_takePart_46 : decode cX6_takePart 46 = .ok (.getfield 80, 3) := by decide +kernel
theorem dX6_takePart_49 : decode cX6_takePart 49 = .ok (.ifCond .ne 32, 3) := by decide +kernel
theorem dX6_takePart_52 : decode cX6_takePart 52 = .ok (.aload_n 0, 1) := by decide +kernel
theorem dX6_takePart_53 : decode cX6_takePart 53 = .ok (.iconst 3, 1) := by decide +kernel
theorem dX6_takePart_54 : decode cX6_takePart 54 = .ok (.bipush 119, 2) := by decide +kernel
theorem dX6_takePart_56 : decode cX6_takePart 56 = .ok (.bipush 105, 2) := by decide +kernel
theorem dX6_takePart_58 : decode cX6_takePart 58 = .ok (.bipush 110, 2) := by decide +kernel
theorem dX6_takePart_60 : decode cX6_takePart 60 = .ok (.iconst 0, 1) := by decide +kernel
theorem dX6_takePart_61 : decode cX6_takePart 61 = .ok (.iconst 0, 1) := by decide +kernel
theorem dX6_takePart_62 : decode cX6_takePart 62 = .ok (.invokevirtual 112, 3) := by decide +kernel
theorem dX6_takePart_65 : decode cX6_takePart 65 = .ok (.ifCond .eq 16, 3) := by decide +kernel
theorem dX6_takePart_68 : decode cX6_takePart 68 = .ok (.aload_n 0, 1) := by decide +kernel
theorem dX6_takePart_69 : decode cX6_takePart 69 = .ok (.getfield 17, 3) := by decide +kernel
theorem dX6_takePart_72 : decode cX6_takePart 72 = .ok (.bipush 8, 2) := by decide +kernel
theorem dX6_takePart_74 : decode cX6_takePart 74 = .ok (.iload_n 1, 1) := by decide +kernel
theorem dX6_takePart_75 : decode cX6_takePart 75 = .ok (.iadd, 1) := by decide +kernel
theorem dX6_takePart_76 : decode cX6_takePart 76 = .ok (.iconst 1, 1) := by decide +kernel
theorem dX6_takePart_77 : decode cX6_takePart 77 = .ok (.iastore, 1) := by decide +kernel
theorem dX6_takePart_78 : decode cX6_takePart 78 = .ok (.goto 146, 3) := by decide +kernel
theorem dX6_takePart_81 : decode cX6_takePart 81 = .ok (.aload_n 0, 1) := by decide +kernel
theorem dX6_takePart_82 : decode cX6_takePart 82 = .ok (.getfield 80, 3) := by decide +kernel
theorem dX6_takePart_85 : decode cX6_takePart 85 = .ok (.ifCond .ne 32, 3) := by decide +kernel
theorem dX6_takePart_88 : decode cX6_takePart 88 = .ok (.aload_n 0, 1) := by decide +kernel
theorem dX6_takePart_89 : decode cX6_takePart 89 = .ok (.iconst 3, 1) := by decide +kernel
theorem dX6_takePart_90 : decode cX6_takePart 90 = .ok (.bipush 100, 2) := by decide +kernel
theorem dX6_takePart_92 : decode cX6_takePart 92 = .ok (.bipush 105, 2) := by decide +kernel
theorem dX6_takePart_94 : decode cX6_takePart 94 = .ok (.bipush 101, 2) := by decide +kernel
theorem dX6_takePart_96 : decode cX6_takePart 96 = .ok (.iconst 0, 1) := by decide +kernel
theorem dX6_takePart_97 : decode cX6_takePart 97 = .ok (.iconst 0, 1) := by decide +kernel
theorem dX6_takePart_98 : decode cX6_takePart 98 = .ok (.invokevirtual 112, 3) := by decide +kernel
theorem dX6_takePart_101 : decode cX6_takePart 101 = .ok (.ifCond .eq 16, 3) := by decide +kernel
theorem dX6_takePart_104 : decode cX6_takePart 104 = .ok (.aload_n 0, 1) := by decide +kernel
theorem dX6_takePart_105 : decode cX6_takePart 105 = .ok (.getfield 17, 3) := by decide +kernel
theorem dX6_takePart_108 : decode cX6_takePart 108 = .ok (.bipush 8, 2) := by decide +kernel
theorem dX6_takePart_110 : decode cX6_takePart 110 = .ok (.iload_n 1, 1) := by decide +kernel
theorem dX6_takePart_111 : decode cX6_takePart 111 = .ok (.iadd, 1) := by decide +kernel
theorem dX6_takePart_112 : decode cX6_takePart 112 = .ok (.iconst 2, 1) := by decide +kernel
theorem dX6_takePart_113 : decode cX6_takePart 113 = .ok (.iastore, 1) := by decide +kernel
theorem dX6_takePart_114 : decode cX6_takePart 114 = .ok (.goto 110, 3) := by decide +kernel
theorem dX6_takePart_117 : decode cX6_takePart 117 = .ok (.aload_n 0, 1) := by decide +kernel
theorem dX6_takePart_118 : decode cX6_takePart 118 = .ok (.getfield 80, 3) := by decide +kernel
theorem dX6_takePart_121 : decode cX6_takePart 121 = .ok (.ifCond .ne 98, 3) := by decide +kernel
theorem dX6_takePart_124 : decode cX6_takePart 124 = .ok (.aload_n 0, 1) := by decide +kernel
theorem dX6_takePart_125 : decode cX6_takePart 125 = .ok (.iconst 4, 1) := by decide +kernel
theorem dX6_takePart_126 : decode cX6_takePart 126 = .ok (.bipush 114, 2) := by decide +kernel
theorem dX6_takePart_128 : decode cX6_takePart 128 = .ok (.bipush 111, 2) := by decide +kernel
theorem dX6_takePart_130 : decode cX6_takePart 130 = .ok (.bipush 108, 2) := by decide +kernel
theorem dX6_takePart_132 : decode cX6_takePart 132 = .ok (.bipush 108, 2) := by decide +kernel
theorem dX6_takePart_134 : decode cX6_takePart 134 = .ok (.iconst 0, 1) := by decide +kernel
theorem dX6_takePart_135 : decode cX6_takePart 135 = .ok (.invokevirtual 112, 3) := by decide +kernel
theorem dX6_takePart_138 : decode cX6_takePart 138 = .ok (.ifCond .eq 81, 3) := by decide +kernel
theorem dX6_takePart_141 : decode cX6_takePart 141 = .ok (.aload_n 0, 1) := by decide +kernel
theorem dX6_takePart_142 : decode cX6_takePart 142 = .ok (.getfield 17, 3) := by decide +kernel
theorem dX6_takePart_145 : decode cX6_takePart 145 = .ok (.bipush 8, 2) := by decide +kernel
theorem dX6_takePart_147 : decode cX6_takePart 147 = .ok (.iload_n 1, 1) := by decide +kernel
theorem dX6_takePart_148 : decode cX6_takePart 148 = .ok (.iadd, 1) := by decide +kernel
theorem dX6_takePart_149 : decode cX6_takePart 149 = .ok (.iconst 3, 1) := by decide +kernel
theorem dX6_takePart_150 : decode cX6_takePart 150 = .ok (.iastore, 1) := by decide +kernel
theorem dX6_takePart_151 : decode cX6_takePart 151 = .ok (.aload_n 0, 1) := by decide +kernel
theorem dX6_takePart_152 : decode cX6_takePart 152 = .ok (.getfield 17, 3) := by decide +kernel
theorem dX6_takePart_155 : decode cX6_takePart 155 = .ok (.bipush 80, 2) := by decide +kernel
theorem dX6_takePart_157 : decode cX6_takePart 157 = .ok (.iload_n 1, 1) := by decide +kernel
theorem dX6_takePart_158 : decode cX6_takePart 158 = .ok (.iadd, 1) := by decide +kernel
theorem dX6_takePart_159 : decode cX6_takePart 159 = .ok (.aload_n 0, 1) := by decide +kernel
theorem dX6_takePart_160 : decode cX6_takePart 160 = .ok (.iconst 2, 1) := by decide +kernel
theorem dX6_takePart_161 : decode cX6_takePart 161 = .ok (.bipush 6, 2) := by decide +kernel
theorem dX6_takePart_163 : decode cX6_takePart 163 = .ok (.invokevirtual 105, 3) := by decide +kernel
theorem dX6_takePart_166 : decode cX6_takePart 166 = .ok (.iastore, 1) := by decide +kernel
theorem dX6_takePart_167 : decode cX6_takePart 167 = .ok (.aload_n 0, 1) := by decide +kernel
theorem dX6_takePart_168 : decode cX6_takePart 168 = .ok (.getfield 17, 3) := by decide +kernel
theorem dX6_takePart_171 : decode cX6_takePart 171 = .ok (.bipush 104, 2) := by decide +kernel
theorem dX6_takePart_173 : decode cX6_takePart 173 = .ok (.iload_n 1, 1) := by decide +kernel
theorem dX6_takePart_174 : decode cX6_takePart 174 = .ok (.iadd, 1) := by decide +kernel
theorem dX6_takePart_175 : decode cX6_takePart 175 = .ok (.aload_n 0, 1) := by decide +kernel
theorem dX6_takePart_176 : decode cX6_takePart 176 = .ok (.getfield 80, 3) := by decide +kernel
theorem dX6_takePart_179 : decode cX6_takePart 179 = .ok (.ifCond .ne 10, 3) := by decide +kernel
theorem dX6_takePart_182 : decode cX6_takePart 182 = .ok (.aload_n 0, 1) := by decide +kernel
theorem dX6_takePart_183 : decode cX6_takePart 183 = .ok (.invokevirtual 122, 3) := by decide +kernel
theorem dX6_takePart_186 : decode cX6_takePart 186 = .ok (.goto 4, 3) := by decide +kernel
theorem dX6_takePart_189 : decode cX6_takePart 189 = .ok (.iconst 0, 1) := by decide +kernel
theorem dX6_takePart_190 : decode cX6_takePart 190 = .ok (.iastore, 1) := by decide +kernel
theorem dX6_takePart_191 : decode cX6_takePart 191 = .ok (.aload_n 0, 1) := by decide +kernel
theorem dX6_takePart_192 : decode cX6_takePart 192 = .ok (.getfield 17, 3) := by decide +kernel
theorem dX6_takePart_195 : decode cX6_takePart 195 = .ok (.sipush 128, 3) := by decide +kernel
theorem dX6_takePart_198 : decode cX6_takePart 198 = .ok (.iload_n 1, 1) := by decide +kernel
theorem dX6_takePart_199 : decode cX6_takePart 199 = .ok (.iadd, 1) := by decide +kernel
theorem dX6_takePart_200 : decode cX6_takePart 200 = .ok (.aload_n 0, 1) := by decide +kernel
theorem dX6_takePart_201 : decode cX6_takePart 201 = .ok (.getfield 80, 3) := by decide +kernel
theorem dX6_takePart_204 : decode cX6_takePart 204 = .ok (.ifCond .ne 10, 3) := by decide +kernel
theorem dX6_takePart_207 : decode cX6_takePart 207 = .ok (.aload_n 0, 1) := by decide +kernel
theorem dX6_takePart_208 : decode cX6_takePart 208 = .ok (.invokevirtual 122, 3) := by decide +kernel
theorem dX6_takePart_211 : decode cX6_takePart 211 = .ok (.goto 4, 3) := by decide +kernel
theorem dX6_takePart_214 : decode cX6_takePart 214 = .ok (.iconst 0, 1) := by decide +kernel
theorem dX6_takePart_215 : decode cX6_takePart 215 = .ok (.iastore, 1) := by decide +kernel
theorem dX6_takePart_216 : decode cX6_takePart 216 = .ok (.goto 8, 3) := by decide +kernel
theorem dX6_takePart_219 : decode cX6_takePart 219 = .ok (.aload_n 0, 1) := by decide +kernel
theorem dX6_takePart_220 : decode cX6_takePart 220 = .ok (.iload_n 1, 1) := by decide +kernel
theorem dX6_takePart_221 : decode cX6_takePart 221 = .ok (.invokevirtual 136, 3) := by decide +kernel
theorem dX6_takePart_224 : decode cX6_takePart 224 = .ok (.return_, 1) := by decide +kernel
theorem dX6_takeClause_0 : decode cX6_takeClause 0 = .ok (.aload_n 0, 1) := by decide +kernel
theorem dX6_takeClause_1 : decode cX6_takeClause 1 = .ok (.invokevirtual 116, 3) := by decide +kernel
theorem dX6_takeClause_4 : decode cX6_takeClause 4 = .ok (.aload_n 0, 1) := by decide +kernel
theorem dX6_takeClause_5 : decode cX6_takeClause 5 = .ok (.iconst 4, 1) := by decide +kernel
theorem dX6_takeClause_6 : decode cX6_takeClause 6 = .ok (.bipush 112, 2) := by decide +kernel
theorem dX6_takeClause_8 : decode cX6_takeClause 8 = .ok (.bipush 97, 2) := by decide +kernel
theorem dX6_takeClause_10 : decode cX6_takeClause 10 = .ok (.bipush 114, 2) := by decide +kernel
theorem dX6_takeClause_12 : decode cX6_takeClause 12 = .ok (.bipush 116, 2) := by decide +kernel
theorem dX6_takeClause_14 : decode cX6_takeClause 14 = .ok (.iconst 0, 1) := by decide +kernel
theorem dX6_takeClause_15 : decode cX6_takeClause 15 = .ok (.invokevirtual 112, 3) := by decide +kernel
theorem dX6_takeClause_18 : decode cX6_takeClause 18 = .ok (.ifCond .eq 10, 3) := by decide +kernel
theorem dX6_takeClause_21 : decode cX6_takeClause 21 = .ok (.aload_n 0, 1) := by decide +kernel
theorem dX6_takeClause_22 : decode cX6_takeClause 22 = .ok (.invokevirtual 139, 3) := by decide +kernel
theorem dX6_takeClause_25 : decode cX6_takeClause 25 = .ok (.goto 92, 3) := by decide +kernel
theorem dX6_takeClause_28 : decode cX6_takeClause 28 = .ok (.aload_n 0, 1) := by decide +kernel
theorem dX6_takeClause_29 : decode cX6_takeClause 29 = .ok (.aload_n 0, 1) := by decide +kernel
theorem dX6_takeClause_30 : decode cX6_takeClause 30 = .ok (.bipush 6, 2) := by decide +kernel
theorem dX6_takeClause_32 : decode cX6_takeClause 32 = .ok (.bipush 108, 2) := by decide +kernel
theorem dX6_takeClause_34 : decode cX6_takeClause 34 = .ok (.bipush 116, 2) := by decide +kernel
theorem dX6_takeClause_36 : decode cX6_takeClause 36 = .ok (.bipush 104, 2) := by decide +kernel
theorem dX6_takeClause_38 : decode cX6_takeClause 38 = .ok (.invokevirtual 125, 3) := by decide +kernel
theorem dX6_takeClause_41 : decode cX6_takeClause 41 = .ok (.ifCond .eq 22, 3) := by decide +kernel
theorem dX6_takeClause_44 : decode cX6_takeClause 44 = .ok (.aload_n 0, 1) := by decide +kernel
theorem dX6_takeClause_45 : decode cX6_takeClause 45 = .ok (.bipush 104, 2) := by decide +kernel
theorem dX6_takeClause_47 : decode cX6_takeClause 47 = .ok (.bipush 101, 2) := by decide +kernel
theorem dX6_takeClause_49 : decode cX6_takeClause 49 = .ok (.bipush 97, 2) := by decide +kernel
theorem dX6_takeClause_51 : decode cX6_takeClause 51 = .ok (.bipush 108, 2) := by decide +kernel
theorem dX6_takeClause_53 : decode cX6_takeClause 53 = .ok (.invokevirtual 129, 3) := by decide +kernel
theorem dX6_takeClause_56 : decode cX6_takeClause 56 = .ok (.ifCond .eq 7, 3) := by decide +kernel
theorem dX6_takeClause_59 : decode cX6_takeClause 59 = .ok (.iconst 1, 1) := by decide +kernel
theorem dX6_takeClause_60 : decode cX6_takeClause 60 = .ok (.goto 4, 3) := by decide +kernel
theorem dX6_takeClause_63 : decode cX6_takeClause 63 = .ok (.iconst 0, 1) := by decide +kernel
theorem dX6_takeClause_64 : decode cX6_takeClause 64 = .ok (.iconst 1, 1) := by decide +kernel
theorem dX6_takeClause_65 : decode cX6_takeClause 65 = .ok (.aload_n 0, 1) := by decide +kernel
theorem dX6_takeClause_66 : decode cX6_takeClause 66 = .ok (.getfield 87, 3) := by decide +kernel
theorem dX6_takeClause_69 : decode cX6_takeClause 69 = .ok (.invokevirtual 101, 3) := by decide +kernel
theorem dX6_takeClause_72 : decode cX6_takeClause 72 = .ok (.ifCond .eq 45, 3) := by decide +kernel
theorem dX6_takeClause_75 : decode cX6_takeClause 75 = .ok (.aload_n 0, 1) := by decide +kernel
theorem dX6_takeClause_76 : decode cX6_takeClause 76 = .ok (.aload_n 0, 1) := by decide +kernel
theorem dX6_takeClause_77 : decode cX6_takeClause 77 = .ok (.getfield 142, 3) := by decide +kernel
theorem dX6_takeClause_80 : decode cX6_takeClause 80 = .ok (.ifCond .ne 7, 3) := by decide +kernel
theorem dX6_takeClause_83 : decode cX6_takeClause 83 = .ok (.iconst 1, 1) := by decide +kernel
theorem dX6_takeClause_84 : decode cX6_takeClause 84 = .ok (.goto 4, 3) := by decide +kernel
theorem dX6_takeClause_87 : decode cX6_takeClause 87 = .ok (.iconst 0, 1) := by decide +kernel
theorem dX6_takeClause_88 : decode cX6_takeClause 88 = .ok (.iconst 3, 1) := by decide +kernel
theorem dX6_takeClause_89 : decode cX6_takeClause 89 = .ok (.aload_n 0, 1) := by decide +kernel
theorem dX6_takeClause_90 : decode cX6_takeClause 90 = .ok (.getfield 87, 3) := by decide +kernel
theorem dX6_takeClause_93 : decode cX6_takeClause 93 = .ok (.invokevirtual 101, 3) := by decide +kernel
theorem dX6_takeClause_96 : decode cX6_takeClause 96 = .ok (.ifCond .eq 21, 3) := by decide +kernel
theorem dX6_takeClause_99 : decode cX6_takeClause 99 = .ok (.aload_n 0, 1) := by decide +kernel
theorem dX6_takeClause_100 : decode cX6_takeClause 100 = .ok (.iconst 1, 1) := by decide +kernel
theorem dX6_takeClause_101 : decode cX6_takeClause 101 = .ok (.putfield 142, 3) := by decide +kernel
theorem dX6_takeClause_104 : decode cX6_takeClause 104 = .ok (.aload_n 0, 1) := by decide +kernel
theorem dX6_takeClause_105 : decode cX6_takeClause 105 = .ok (.getfield 17, 3) := by decide +kernel
theorem dX6_takeClause_108 : decode cX6_takeClause 108 = .ok (.iconst 1, 1) := by decide +kernel
theorem dX6_takeClause_109 : decode cX6_takeClause 109 = .ok (.aload_n 0, 1) := by decide +kernel
theorem dX6_takeClause_110 : decode cX6_takeClause 110 = .ok (.iconst 1, 1) := by decide +kernel
theorem dX6_takeClause_111 : decode cX6_takeClause 111 = .ok (.bipush 9, 2) := by decide +kernel
theorem dX6_takeClause_113 : decode cX6_takeClause 113 = .ok (.invokevirtual 105, 3) := by decide +kernel
theorem dX6_takeClause_116 : decode cX6_takeClause 116 = .ok (.iastore, 1) := by decide +kernel
theorem dX6_takeClause_117 : decode cX6_takeClause 117 = .ok (.aload_n 0, 1) := by decide +kernel
theorem dX6_takeClause_118 : decode cX6_takeClause 118 = .ok (.getfield 80, 3) := by decide +kernel
theorem dX6_takeClause_121 : decode cX6_takeClause 121 = .ok (.ifCond .ne 39, 3) := by decide +kernel
theorem dX6_takeClause_124 : decode cX6_takeClause 124 = .ok (.aload_n 0, 1) := by decide +kernel
theorem dX6_takeClause_125 : decode cX6_takeClause 125 = .ok (.aload_n 0, 1) := by decide +kernel
theorem dX6_takeClause_126 : decode cX6_takeClause 126 = .ok (.invokevirtual 83, 3) := by decide +kernel
theorem dX6_takeClause_129 : decode cX6_takeClause 129 = .ok (.bipush 59, 2) := by decide +kernel
theorem dX6_takeClause_131 : decode cX6_takeClause 131 = .ok (.if_icmp .ne 7, 3) := by decide +kernel
theorem dX6_takeClause_134 : decode cX6_takeClause 134 = .ok (.iconst 1, 1) := by decide +kernel
theorem dX6_takeClause_135 : decode cX6_takeClause 135 = .ok (.goto 4, 3) := by decide +kernel
theorem dX6_takeClause_138 : decode cX6_takeClause 138 = .ok (.iconst 0, 1) := by decide +kernel
theorem dX6_takeClause_139 : decode cX6_takeClause 139 = .ok (.iconst 1, 1) := by decide +kernel
theorem dX6_takeClause_140 : decode cX6_takeClause 140 = .ok (.aload_n 0, 1) := by decide +kernel
theorem dX6_takeClause_141 : decode cX6_takeClause 141 = .ok (.getfield 77, 3) := by decide +kernel
theorem dX6_takeClause_144 : decode cX6_takeClause 144 = .ok (.invokevirtual 101, 3) := by decide +kernel
theorem dX6_takeClause_147 : decode cX6_takeClause 147 = .ok (.ifCond .eq 13, 3) := by decide +kernel
theorem dX6_takeClause_150 : decode cX6_takeClause 150 = .ok (.aload_n 0, 1) := by decide +kernel
theorem dX6_takeClause_151 : decode cX6_takeClause 151 = .ok (.dup, 1) := by decide +kernel
theorem dX6_takeClause_152 : decode cX6_takeClause 152 = .ok (.getfield 77, 3) := by decide +kernel
theorem dX6_takeClause_155 : decode cX6_takeClause 155 = .ok (.iconst 1, 1) := by decide +kernel
theorem dX6_takeClause_156 : decode cX6_takeClause 156 = .ok (.iadd, 1) := by decide +kernel
theorem dX6_takeClause_157 : decode cX6_takeClause 157 = .ok (.putfield 77, 3) := by decide +kernel
theorem dX6_takeClause_160 : decode cX6_takeClause 160 = .ok (.return_, 1) := by decide +kernel
theorem dX6_book_0 : decode cX6_book 0 = .ok (.aload_n 0, 1) := by decide +kernel
theorem dX6_book_1 : decode cX6_book 1 = .ok (.iconst 0, 1) := by decide +kernel
theorem dX6_book_2 : decode cX6_book 2 = .ok (.putfield 77, 3) := by decide +kernel
theorem dX6_book_5 : decode cX6_book 5 = .ok (.aload_n 0, 1) := by decide +kernel
theorem dX6_book_6 : decode cX6_book 6 = .ok (.iconst 0, 1) := by decide +kernel
theorem dX6_book_7 : decode cX6_book 7 = .ok (.putfield 80, 3) := by decide +kernel
theorem dX6_book_10 : decode cX6_book 10 = .ok (.aload_n 0, 1) := by decide +kernel
theorem dX6_book_11 : decode cX6_book 11 = .ok (.iconst (-1), 1) := by decide +kernel
theorem dX6_book_12 : decode cX6_book 12 = .ok (.putfield 23, 3) := by decide +kernel
theorem dX6_book_15 : decode cX6_book 15 = .ok (.aload_n 0, 1) := by decide +kernel
theorem dX6_book_16 : decode cX6_book 16 = .ok (.iconst 0, 1) := by decide +kernel
theorem dX6_book_17 : decode cX6_book 17 = .ok (.putfield 142, 3) := by decide +kernel
theorem dX6_book_20 : decode cX6_book 20 = .ok (.aload_n 0, 1) := by decide +kernel
theorem dX6_book_21 : decode cX6_book 21 = .ok (.iconst 0, 1) := by decide +kernel
theorem dX6_book_22 : decode cX6_book 22 = .ok (.putfield 109, 3) := by decide +kernel
theorem dX6_book_25 : decode cX6_book 25 = .ok (.iconst 0, 1) := by decide +kernel
theorem dX6_book_26 : decode cX6_book 26 = .ok (.istore_n 1, 1) := by decide +kernel
theorem dX6_book_27 : decode cX6_book 27 = .ok (.iload_n 1, 1) := by decide +kernel
theorem dX6_book_28 : decode cX6_book 28 = .ok (.sipush 1376, 3) := by decide +kernel
theorem dX6_book_31 : decode cX6_book 31 = .ok (.if_icmp .ge 16, 3) := by decide +kernel
theorem dX6_book_34 : decode cX6_book 34 = .ok (.aload_n 0, 1) := by decide +kernel
theorem dX6_book_35 : decode cX6_book 35 = .ok (.getfield 17, 3) := by decide +kernel
theorem dX6_book_38 : decode cX6_book 38 = .ok (.iload_n 1, 1) := by decide +kernel
theorem dX6_book_39 : decode cX6_book 39 = .ok (.iconst 0, 1) := by decide +kernel
theorem dX6_book_40 : decode cX6_book 40 = .ok (.iastore, 1) := by decide +kernel
theorem dX6_book_41 : decode cX6_book 41 = .ok (.iinc 1 1, 3) := by decide +kernel
theorem dX6_book_44 : decode cX6_book 44 = .ok (.goto (-17), 3) := by decide +kernel
theorem dX6_book_47 : decode cX6_book 47 = .ok (.aload_n 0, 1) := by decide +kernel
theorem dX6_book_48 : decode cX6_book 48 = .ok (.getfield 17, 3) := by decide +kernel
theorem dX6_book_51 : decode cX6_book 51 = .ok (.iconst 1, 1) := by decide +kernel
theorem dX6_book_52 : decode cX6_book 52 = .ok (.iconst 5, 1) := by decide +kernel
theorem dX6_book_53 : decode cX6_book 53 = .ok (.iastore, 1) := by decide +kernel
theorem dX6_book_54 : decode cX6_book 54 = .ok (.aload_n 0, 1) := by decide +kernel
theorem dX6_book_55 : decode cX6_book 55 = .ok (.getfield 17, 3) := by decide +kernel
theorem dX6_book_58 : decode cX6_book 58 = .ok (.iconst 2, 1) := by decide +kernel
theorem dX6_book_59 : decode cX6_book 59 = .ok (.aload_n 0, 1) := by decide +kernel
theorem dX6_book_60 : decode cX6_book 60 = .ok (.getfield 7, 3) := by decide +kernel
theorem dX6_book_63 : decode cX6_book 63 = .ok (.iconst 2, 1) := by decide +kernel
theorem dX6_book_64 : decode cX6_book 64 = .ok (.iaload, 1) := by decide +kernel
theorem dX6_book_65 : decode cX6_book 65 = .ok (.iastore, 1) := by decide +kernel
theorem dX6_book_66 : decode cX6_book 66 = .ok (.aload_n 0, 1) := by decide +kernel
theorem dX6_book_67 : decode cX6_book 67 = .ok (.getfield 17, 3) := by decide +kernel
theorem dX6_book_70 : decode cX6_book 70 = .ok (.iconst 3, 1) := by decide +kernel
theorem dX6_book_71 : decode cX6_book 71 = .ok (.iconst (-1), 1) := by decide +kernel
theorem dX6_book_72 : decode cX6_book 72 = .ok (.iastore, 1) := by decide +kernel
theorem dX6_book_73 : decode cX6_book 73 = .ok (.aload_n 0, 1) := by decide +kernel
theorem dX6_book_74 : decode cX6_book 74 = .ok (.getfield 80, 3) := by decide +kernel
theorem dX6_book_77 : decode cX6_book 77 = .ok (.ifCond .ne 17, 3) := by decide +kernel
theorem dX6_book_80 : decode cX6_book 80 = .ok (.aload_n 0, 1) := by decide +kernel
theorem dX6_book_81 : decode cX6_book 81 = .ok (.invokevirtual 83, 3) := by decide +kernel
theorem dX6_book_84 : decode cX6_book 84 = .ok (.ifCond .lt 10, 3) := by decide +kernel
theorem dX6_book_87 : decode cX6_book 87 = .ok (.aload_n 0, 1) := by decide +kernel
theorem dX6_book_88 : decode cX6_book 88 = .ok (.invokevirtual 146, 3) := by decide +kernel
theorem dX6_book_91 : decode cX6_book 91 = .ok (.goto (-18), 3) := by decide +kernel
theorem dX6_book_94 : decode cX6_book 94 = .ok (.iconst 0, 1) := by decide +kernel
theorem dX6_book_95 : decode cX6_book 95 = .ok (.istore_n 1, 1) := by decide +kernel
theorem dX6_book_96 : decode cX6_book 96 = .ok (.iload_n 1, 1) := by decide +kernel
theorem dX6_book_97 : decode cX6_book 97 = .ok (.aload_n 0, 1) := by decide +kernel
theorem dX6_book_98 : decode cX6_book 98 = .ok (.getfield 109, 3) := by decide +kernel
theorem dX6_book_101 : decode cX6_book 101 = .ok (.if_icmp .ge 48, 3) := by decide +kernel
theorem dX6_book_104 : decode cX6_book 104 = .ok (.aload_n 0, 1) := by decide +kernel
theorem dX6_book_105 : decode cX6_book 105 = .ok (.getfield 80, 3) := by decide +kernel
theorem dX6_book_108 : decode cX6_book 108 = .ok (.ifCond .ne 41, 3) := by decide +kernel
theorem dX6_book_111 : decode cX6_book 111 = .ok (.aload_n 0, 1) := by decide +kernel
theorem dX6_book_112 : decode cX6_book 112 = .ok (.aload_n 0, 1) := by decide +kernel
theorem dX6_book_113 : decode cX6_book 113 = .ok (.getfield 27, 3) := by decide +kernel
theorem dX6_book_116 : decode cX6_book 116 = .ok (.iload_n 1, 1) := by decide +kernel
theorem dX6_book_117 : decode cX6_book 117 = .ok (.iaload, 1) := by decide +kernel
theorem dX6_book_118 : decode cX6_book 118 = .ok (.aload_n 0, 1) := by decide +kernel
theorem dX6_book_119 : decode cX6_book 119 = .ok (.getfield 17, 3) := by decide +kernel
theorem dX6_book_122 : decode cX6_book 122 = .ok (.iconst 0, 1) := by decide +kernel
theorem dX6_book_123 : decode cX6_book 123 = .ok (.iaload, 1) := by decide +kernel
theorem dX6_book_124 : decode cX6_book 124 = .ok (.if_icmp .ge 7, 3) := by decide +kernel
theorem dX6_book_127 : decode cX6_book 127 = .ok (.iconst 1, 1) := by decide +kernel
theorem dX6_book_128 : decode cX6_book 128 = .ok (.goto 4, 3) := by decide +kernel
theorem dX6_book_131 : decode cX6_book 131 = .ok (.iconst 0, 1) := by decide +kernel
theorem dX6_book_132 : decode cX6_book 132 = .ok (.iconst 4, 1) := by decide +kernel
theorem dX6_book_133 : decode cX6_book 133 = .ok (.aload_n 0, 1) := by decide +kernel
theorem dX6_book_134 : decode cX6_book 134 = .ok (.getfield 30, 3) := by decide +kernel
theorem dX6_book_137 : decode cX6_book 137 = .ok (.iload_n 1, 1) := by decide +kernel
theorem dX6_book_138 : decode cX6_book 138 = .ok (.iaload, 1) := by decide +kernel
theorem dX6_book_139 : decode cX6_book 139 = .ok (.invokevirtual 101, 3) := by decide +kernel
theorem dX6_book_142 : decode cX6_book 142 = .ok (.istore_n 2, 1) := by decide +kernel
theorem dX6_book_143 : decode cX6_book 143 = .ok (.iinc 1 1, 3) := by decide +kernel
theorem dX6_book_146 : decode cX6_book 146 = .ok (.goto (-50), 3) := by decide +kernel
theorem dX6_book_149 : decode cX6_book 149 = .ok (.aload_n 0, 1) := by decide +kernel
theorem dX6_book_150 : decode cX6_book 150 = .ok (.iconst 0, 1) := by decide +kernel
theorem dX6_book_151 : decode cX6_book 151 = .ok (.putfield 71, 3) := by decide +kernel
theorem dX6_book_154 : decode cX6_book 154 = .ok (.aload_n 0, 1) := by decide +kernel
theorem dX6_book_155 : decode cX6_book 155 = .ok (.getfield 80, 3) := by decide +kernel
theorem dX6_book_158 : decode cX6_book 158 = .ok (.ifCond .le 11, 3) := by decide +kernel
theorem dX6_book_161 : decode cX6_book 161 = .ok (.bipush (-10), 2) := by decide +kernel
theorem dX6_book_163 : decode cX6_book 163 = .ok (.aload_n 0, 1) := by decide +kernel
theorem dX6_book_164 : decode cX6_book 164 = .ok (.getfield 80, 3) := by decide +kernel
theorem dX6_book_167 : decode cX6_book 167 = .ok (.isub, 1) := by decide +kernel
theorem dX6_book_168 : decode cX6_book 168 = .ok (.ireturn, 1) := by decide +kernel
theorem dX6_book_169 : decode cX6_book 169 = .ok (.iconst 0, 1) := by decide +kernel
theorem dX6_book_170 : decode cX6_book 170 = .ok (.istore_n 1, 1) := by decide +kernel
theorem dX6_book_171 : decode cX6_book 171 = .ok (.iload_n 1, 1) := by decide +kernel
theorem dX6_book_172 : decode cX6_book 172 = .ok (.bipush 24, 2) := by decide +kernel
theorem dX6_book_174 : decode cX6_book 174 = .ok (.if_icmp .ge 22, 3) := by decide +kernel
theorem dX6_book_177 : decode cX6_book 177 = .ok (.aload_n 0, 1) := by decide +kernel
theorem dX6_book_178 : decode cX6_book 178 = .ok (.getfield 17, 3) := by decide +kernel
theorem dX6_book_181 : decode cX6_book 181 = .ok (.sipush 152, 3) := by decide +kernel
theorem dX6_book_184 : decode cX6_book 184 = .ok (.iload_n 1, 1) := by decide +kernel
theorem dX6_book_185 : decode cX6_book 185 = .ok (.iadd, 1) := by decide +kernel
theorem dX6_book_186 : decode cX6_book 186 = .ok (.iload_n 1, 1) := by decide +kernel
theorem dX6_book_187 : decode cX6_book 187 = .ok (.iconst 1, 1) := by decide +kernel
theorem dX6_book_188 : decode cX6_book 188 = .ok (.iadd, 1) := by decide +kernel
theorem dX6_book_189 : decode cX6_book 189 = .ok (.iastore, 1) := by decide +kernel
theorem dX6_book_190 : decode cX6_book 190 = .ok (.iinc 1 1, 3) := by decide +kernel
theorem dX6_book_193 : decode cX6_book 193 = .ok (.goto (-22), 3) := by decide +kernel
theorem dX6_book_196 : decode cX6_book 196 = .ok (.iconst 0, 1) := by decide +kernel
theorem dX6_book_197 : decode cX6_book 197 = .ok (.istore_n 1, 1) := by decide +kernel
theorem dX6_book_198 : decode cX6_book 198 = .ok (.iload_n 1, 1) := by decide +kernel
theorem dX6_book_199 : decode cX6_book 199 = .ok (.sipush 1376, 3) := by decide +kernel
theorem dX6_book_202 : decode cX6_book 202 = .ok (.if_icmp .ge 21, 3) := by decide +kernel
theorem dX6_book_205 : decode cX6_book 205 = .ok (.aload_n 0, 1) := by decide +kernel
theorem dX6_book_206 : decode cX6_book 206 = .ok (.getfield 7, 3) := by decide +kernel
theorem dX6_book_209 : decode cX6_book 209 = .ok (.iload_n 1, 1) := by decide +kernel
theorem dX6_book_210 : decode cX6_book 210 = .ok (.aload_n 0, 1) := by decide +kernel
theorem dX6_book_211 : decode cX6_book 211 = .ok (.getfield 17, 3) := by decide +kernel
theorem dX6_book_214 : decode cX6_book 214 = .ok (.iload_n 1, 1) := by decide +kernel
theorem dX6_book_215 : decode cX6_book 215 = .ok (.iaload, 1) := by decide +kernel
theorem dX6_book_216 : decode cX6_book 216 = .ok (.iastore, 1) := by decide +kernel
theorem dX6_book_217 : decode cX6_book 217 = .ok (.iinc 1 1, 3) := by decide +kernel
theorem dX6_book_220 : decode cX6_book 220 = .ok (.goto (-22), 3) := by decide +kernel
theorem dX6_book_223 : decode cX6_book 223 = .ok (.aload_n 0, 1) := by decide +kernel
theorem dX6_book_224 : decode cX6_book 224 = .ok (.iconst 0, 1) := by decide +kernel
theorem dX6_book_225 : decode cX6_book 225 = .ok (.putfield 149, 3) := by decide +kernel
theorem dX6_book_228 : decode cX6_book 228 = .ok (.aload_n 0, 1) := by decide +kernel
theorem dX6_book_229 : decode cX6_book 229 = .ok (.getfield 7, 3) := by decide +kernel
theorem dX6_book_232 : decode cX6_book 232 = .ok (.iconst 0, 1) := by decide +kernel
theorem dX6_book_233 : decode cX6_book 233 = .ok (.iaload, 1) := by decide +kernel
theorem dX6_book_234 : decode cX6_book 234 = .ok (.ireturn, 1) := by decide +kernel
theorem dX6_fault_0 : decode cX6_fault 0 = .ok (.aload_n 0, 1) := by decide +kernel
theorem dX6_fault_1 : decode cX6_fault 1 = .ok (.getfield 23, 3) := by decide +kernel
theorem dX6_fault_4 : decode cX6_fault 4 = .ok (.ireturn, 1) := by decide +kernel
theorem dX6_noPart_0 : decode cX6_noPart 0 = .ok (.iload_n 1, 1) := by decide +kernel
theorem dX6_noPart_1 : decode cX6_noPart 1 = .ok (.i2l, 1) := by decide +kernel
theorem dX6_noPart_2 : decode cX6_noPart 2 = .ok (.lconst 0, 1) := by decide +kernel
theorem dX6_noPart_3 : decode cX6_noPart 3 = .ok (.aload_n 0, 1) := by decide +kernel
theorem dX6_noPart_4 : decode cX6_noPart 4 = .ok (.getfield 7, 3) := by decide +kernel
theorem dX6_noPart_7 : decode cX6_noPart 7 = .ok (.iconst 0, 1) := by decide +kernel
theorem dX6_noPart_8 : decode cX6_noPart 8 = .ok (.iaload, 1) := by decide +kernel
theorem dX6_noPart_9 : decode cX6_noPart 9 = .ok (.iconst 1, 1) := by decide +kernel
theorem dX6_noPart_10 : decode cX6_noPart 10 = .ok (.isub, 1) := by decide +kernel
theorem dX6_noPart_11 : decode cX6_noPart 11 = .ok (.i2l, 1) := by decide +kernel
theorem dX6_noPart_12 : decode cX6_noPart 12 = .ok (.invokestatic 66, 3) := by decide +kernel
theorem dX6_noPart_15 : decode cX6_noPart 15 = .ok (.ifCond .ne 7, 3) := by decide +kernel
theorem dX6_noPart_18 : decode cX6_noPart 18 = .ok (.iconst 1, 1) := by decide +kernel
theorem dX6_noPart_19 : decode cX6_noPart 19 = .ok (.goto 4, 3) := by decide +kernel
theorem dX6_noPart_22 : decode cX6_noPart 22 = .ok (.iconst 0, 1) := by decide +kernel
theorem dX6_noPart_23 : decode cX6_noPart 23 = .ok (.ireturn, 1) := by decide +kernel
theorem dX6_linesOf_0 : decode cX6_linesOf 0 = .ok (.iconst 2, 1) := by decide +kernel
theorem dX6_linesOf_1 : decode cX6_linesOf 1 = .ok (.aload_n 0, 1) := by decide +kernel
theorem dX6_linesOf_2 : decode cX6_linesOf 2 = .ok (.getfield 7, 3) := by decide +kernel
theorem dX6_linesOf_5 : decode cX6_linesOf 5 = .ok (.bipush 32, 2) := by decide +kernel
theorem dX6_linesOf_7 : decode cX6_linesOf 7 = .ok (.iload_n 1, 1) := by decide +kernel
theorem dX6_linesOf_8 : decode cX6_linesOf 8 = .ok (.iadd, 1) := by decide +kernel
theorem dX6_linesOf_9 : decode cX6_linesOf 9 = .ok (.iaload, 1) := by decide +kernel
theorem dX6_linesOf_10 : decode cX6_linesOf 10 = .ok (.iadd, 1) := by decide +kernel
theorem dX6_linesOf_11 : decode cX6_linesOf 11 = .ok (.iconst 2, 1) := by decide +kernel
theorem dX6_linesOf_12 : decode cX6_linesOf 12 = .ok (.aload_n 0, 1) := by decide +kernel
theorem dX6_linesOf_13 : decode cX6_linesOf 13 = .ok (.getfield 7, 3) := by decide +kernel
theorem dX6_linesOf_16 : decode cX6_linesOf 16 = .ok (.bipush 56, 2) := by decide +kernel
theorem dX6_linesOf_18 : decode cX6_linesOf 18 = .ok (.iload_n 1, 1) := by decide +kernel
theorem dX6_linesOf_19 : decode cX6_linesOf 19 = .ok (.iadd, 1) := by decide +kernel
theorem dX6_linesOf_20 : decode cX6_linesOf 20 = .ok (.iaload, 1) := by decide +kernel
theorem dX6_linesOf_21 : decode cX6_linesOf 21 = .ok (.imul, 1) := by decide +kernel
theorem dX6_linesOf_22 : decode cX6_linesOf 22 = .ok (.iadd, 1) := by decide +kernel
theorem dX6_linesOf_23 : decode cX6_linesOf 23 = .ok (.aload_n 0, 1) := by decide +kernel
theorem dX6_linesOf_24 : decode cX6_linesOf 24 = .ok (.getfield 7, 3) := by decide +kernel
theorem dX6_linesOf_27 : decode cX6_linesOf 27 = .ok (.bipush 8, 2) := by decide +kernel
theorem dX6_linesOf_29 : decode cX6_linesOf 29 = .ok (.iload_n 1, 1) := by decide +kernel
theorem dX6_linesOf_30 : decode cX6_linesOf 30 = .ok (.iadd, 1) := by decide +kernel
theorem dX6_linesOf_31 : decode cX6_linesOf 31 = .ok (.iaload, 1) := by decide +kernel
theorem dX6_linesOf_32 : decode cX6_linesOf 32 = .ok (.iconst 3, 1) := by decide +kernel
theorem dX6_linesOf_33 : decode cX6_linesOf 33 = .ok (.if_icmp .ne 7, 3) := by decide +kernel
theorem dX6_linesOf_36 : decode cX6_linesOf 36 = .ok (.iconst 2, 1) := by decide +kernel
theorem dX6_linesOf_37 : decode cX6_linesOf 37 = .ok (.goto 4, 3) := by decide +kernel
theorem dX6_linesOf_40 : decode cX6_linesOf 40 = .ok (.iconst 0, 1) := by decide +kernel
theorem dX6_linesOf_41 : decode cX6_linesOf 41 = .ok (.iadd, 1) := by decide +kernel
theorem dX6_linesOf_42 : decode cX6_linesOf 42 = .ok (.ireturn, 1) := by decide +kernel
theorem dX6_part_0 : decode cX6_part 0 = .ok (.aload_n 0, 1) := by decide +kernel
theorem dX6_part_1 : decode cX6_part 1 = .ok (.iload_n 1, 1) := by decide +kernel
theorem dX6_part_2 : decode cX6_part 2 = .ok (.invokevirtual 152, 3) := by decide +kernel
theorem dX6_part_5 : decode cX6_part 5 = .ok (.ifCond .eq 6, 3) := by decide +kernel
theorem dX6_part_8 : decode cX6_part 8 = .ok (.ldc 156, 2) := by decide +kernel
theorem dX6_part_10 : decode cX6_part 10 = .ok (.ireturn, 1) := by decide +kernel
theorem dX6_part_11 : decode cX6_part 11 = .ok (.aload_n 0, 1) := by decide +kernel
theorem dX6_part_12 : decode cX6_part 12 = .ok (.getfield 7, 3) := by decide +kernel
theorem dX6_part_15 : decode cX6_part 15 = .ok (.bipush 8, 2) := by decide +kernel
theorem dX6_part_17 : decode cX6_part 17 = .ok (.iload_n 1, 1) := by decide +kernel
theorem dX6_part_18 : decode cX6_part 18 = .ok (.iadd, 1) := by decide +kernel
theorem dX6_part_19 : decode cX6_part 19 = .ok (.iaload, 1) := by decide +kernel
theorem dX6_part_20 : decode cX6_part 20 = .ok (.iconst 3, 1) := by decide +kernel
theorem dX6_part_21 : decode cX6_part 21 = .ok (.if_icmp .ne 7, 3) := by decide +kernel
theorem dX6_part_24 : decode cX6_part 24 = .ok (.iconst 1, 1) := by decide +kernel
theorem dX6_part_25 : decode cX6_part 25 = .ok (.goto 4, 3) := by decide +kernel
theorem dX6_part_28 : decode cX6_part 28 = .ok (.iconst 0, 1) := by decide +kernel
theorem dX6_part_29 : decode cX6_part 29 = .ok (.istore_n 3, 1) := by decide +kernel
theorem dX6_part_30 : decode cX6_part 30 = .ok (.iload_n 2, 1) := by decide +kernel
theorem dX6_part_31 : decode cX6_part 31 = .ok (.tableswitch 132 0 6 #[41, 51, 61, 71, 77, 95, 113], 41) := by decide +kernel
theorem dX6_part_72 : decode cX6_part 72 = .ok (.aload_n 0, 1) := by decide +kernel
theorem dX6_part_73 : decode cX6_part 73 = .ok (.getfield 7, 3) := by decide +kernel
theorem dX6_part_76 : decode cX6_part 76 = .ok (.bipush 8, 2) := by decide +kernel
theorem dX6_part_78 : decode cX6_part 78 = .ok (.iload_n 1, 1) := by decide +kernel
theorem dX6_part_79 : decode cX6_part 79 = .ok (.iadd, 1) := by decide +kernel
theorem dX6_part_80 : decode cX6_part 80 = .ok (.iaload, 1) := by decide +kernel
theorem dX6_part_81 : decode cX6_part 81 = .ok (.ireturn, 1) := by decide +kernel
theorem dX6_part_82 : decode cX6_part 82 = .ok (.aload_n 0, 1) := by decide +kernel
theorem dX6_part_83 : decode cX6_part 83 = .ok (.getfield 7, 3) := by decide +kernel
theorem dX6_part_86 : decode cX6_part 86 = .ok (.bipush 32, 2) := by decide +kernel
theorem dX6_part_88 : decode cX6_part 88 = .ok (.iload_n 1, 1) := by decide +kernel
theorem dX6_part_89 : decode cX6_part 89 = .ok (.iadd, 1) := by decide +kernel
theorem dX6_part_90 : decode cX6_part 90 = .ok (.iaload, 1) := by decide +kernel
theorem dX6_part_91 : decode cX6_part 91 = .ok (.ireturn, 1) := by decide +kernel
theorem dX6_part_92 : decode cX6_part 92 = .ok (.aload_n 0, 1) := by decide +kernel
theorem dX6_part_93 : decode cX6_part 93 = .ok (.getfield 7, 3) := by decide +kernel
theorem dX6_part_96 : decode cX6_part 96 = .ok (.bipush 56, 2) := by decide +kernel
theorem dX6_part_98 : decode cX6_part 98 = .ok (.iload_n 1, 1) := by decide +kernel
theorem dX6_part_99 : decode cX6_part 99 = .ok (.iadd, 1) := by decide +kernel
theorem dX6_part_100 : decode cX6_part 100 = .ok (.iaload, 1) := by decide +kernel
theorem dX6_part_101 : decode cX6_part 101 = .ok (.ireturn, 1) := by decide +kernel
theorem dX6_part_102 : decode cX6_part 102 = .ok (.aload_n 0, 1) := by decide +kernel
theorem dX6_part_103 : decode cX6_part 103 = .ok (.iload_n 1, 1) := by decide +kernel
theorem dX6_part_104 : decode cX6_part 104 = .ok (.invokevirtual 157, 3) := by decide +kernel
theorem dX6_part_107 : decode cX6_part 107 = .ok (.ireturn, 1) := by decide +kernel
theorem dX6_part_108 : decode cX6_part 108 = .ok (.iload_n 3, 1) := by decide +kernel
theorem dX6_part_109 : decode cX6_part 109 = .ok (.ifCond .eq 15, 3) := by decide +kernel
theorem dX6_part_112 : decode cX6_part 112 = .ok (.aload_n 0, 1) := by decide +kernel
theorem dX6_part_113 : decode cX6_part 113 = .ok (.getfield 7, 3) := by decide +kernel
theorem dX6_part_116 : decode cX6_part 116 = .ok (.bipush 80, 2) := by decide +kernel
theorem dX6_part_118 : decode cX6_part 118 = .ok (.iload_n 1, 1) := by decide +kernel
theorem dX6_part_119 : decode cX6_part 119 = .ok (.iadd, 1) := by decide +kernel
theorem dX6_part_120 : decode cX6_part 120 = .ok (.iaload, 1) := by decide +kernel
theorem dX6_part_121 : decode cX6_part 121 = .ok (.goto 4, 3) := by decide +kernel
theorem dX6_part_124 : decode cX6_part 124 = .ok (.iconst (-1), 1) := by decide +kernel
theorem dX6_part_125 : decode cX6_part 125 = .ok (.ireturn, 1) := by decide +kernel
theorem dX6_part_126 : decode cX6_part 126 = .ok (.iload_n 3, 1) := by decide +kernel
theorem dX6_part_127 : decode cX6_part 127 = .ok (.ifCond .eq 15, 3) := by decide +kernel
theorem dX6_part_130 : decode cX6_part 130 = .ok (.aload_n 0, 1) := by decide +kernel
theorem dX6_part_131 : decode cX6_part 131 = .ok (.getfield 7, 3) := by decide +kernel
theorem dX6_part_134 : decode cX6_part 134 = .ok (.bipush 104, 2) := by decide +kernel
theorem dX6_part_136 : decode cX6_part 136 = .ok (.iload_n 1, 1) := by decide +kernel
theorem dX6_part_137 : decode cX6_part 137 = .ok (.iadd, 1) := by decide +kernel
theorem dX6_part_138 : decode cX6_part 138 = .ok (.iaload, 1) := by decide +kernel
theorem dX6_part_139 : decode cX6_part 139 = .ok (.goto 4, 3) := by decide +kernel
theorem dX6_part_142 : decode cX6_part 142 = .ok (.iconst (-1), 1) := by decide +kernel
theorem dX6_part_143 : decode cX6_part 143 = .ok (.ireturn, 1) := by decide +kernel
theorem dX6_part_144 : decode cX6_part 144 = .ok (.iload_n 3, 1) := by decide +kernel
theorem dX6_part_145 : decode cX6_part 145 = .ok (.ifCond .eq 16, 3) := by decide +kernel
theorem dX6_part_148 : decode cX6_part 148 = .ok (.aload_n 0, 1) := by decide +kernel
theorem dX6_part_149 : decode cX6_part 149 = .ok (.getfield 7, 3) := by decide +kernel
theorem dX6_part_152 : decode cX6_part 152 = .ok (.sipush 128, 3) := by decide +kernel
theorem dX6_part_155 : decode cX6_part 155 = .ok (.iload_n 1, 1) := by decide +kernel
theorem dX6_part_156 : decode cX6_part 156 = .ok (.iadd, 1) := by decide +kernel
theorem dX6_part_157 : decode cX6_part 157 = .ok (.iaload, 1) := by decide +kernel
theorem dX6_part_158 : decode cX6_part 158 = .ok (.goto 4, 3) := by decide +kernel
theorem dX6_part_161 : decode cX6_part 161 = .ok (.iconst (-1), 1) := by decide +kernel
theorem dX6_part_162 : decode cX6_part 162 = .ok (.ireturn, 1) := by decide +kernel
theorem dX6_part_163 : decode cX6_part 163 = .ok (.ldc 70, 2) := by decide +kernel
theorem dX6_part_165 : decode cX6_part 165 = .ok (.ireturn, 1) := by decide +kernel
theorem dX6_effect_0 : decode cX6_effect 0 = .ok (.aload_n 0, 1) := by decide +kernel
theorem dX6_effect_1 : decode cX6_effect 1 = .ok (.iload_n 1, 1) := by decide +kernel
theorem dX6_effect_2 : decode cX6_effect 2 = .ok (.invokevirtual 152, 3) := by decide +kernel
theorem dX6_effect_5 : decode cX6_effect 5 = .ok (.ifCond .ne 24, 3) := by decide +kernel
theorem dX6_effect_8 : decode cX6_effect 8 = .ok (.iload_n 2, 1) := by decide +kernel
theorem dX6_effect_9 : decode cX6_effect 9 = .ok (.i2l, 1) := by decide +kernel
theorem dX6_effect_10 : decode cX6_effect 10 = .ok (.lconst 0, 1) := by decide +kernel
theorem dX6_effect_11 : decode cX6_effect 11 = .ok (.aload_n 0, 1) := by decide +kernel
theorem dX6_effect_12 : decode cX6_effect 12 = .ok (.getfield 7, 3) := by decide +kernel
theorem dX6_effect_15 : decode cX6_effect 15 = .ok (.bipush 32, 2) := by decide +kernel
theorem dX6_effect_17 : decode cX6_effect 17 = .ok (.iload_n 1, 1) := by decide +kernel
theorem dX6_effect_18 : decode cX6_effect 18 = .ok (.iadd, 1) := by decide +kernel
theorem dX6_effect_19 : decode cX6_effect 19 = .ok (.iaload, 1) := by decide +kernel
theorem dX6_effect_20 : decode cX6_effect 20 = .ok (.iconst 1, 1) := by decide +kernel
theorem dX6_effect_21 : decode cX6_effect 21 = .ok (.isub, 1) := by decide +kernel
theorem dX6_effect_22 : decode cX6_effect 22 = .ok (.i2l, 1) := by decide +kernel
theorem dX6_effect_23 : decode cX6_effect 23 = .ok (.invokestatic 66, 3) := by decide +kernel
theorem dX6_effect_26 : decode cX6_effect 26 = .ok (.ifCond .ne 6, 3) := by decide +kernel
theorem dX6_effect_29 : decode cX6_effect 29 = .ok (.ldc 156, 2) := by decide +kernel
theorem dX6_effect_31 : decode cX6_effect 31 = .ok (.ireturn, 1) := by decide +kernel
theorem dX6_effect_32 : decode cX6_effect 32 = .ok (.iconst 4, 1) := by decide +kernel
theorem dX6_effect_33 : decode cX6_effect 33 = .ok (.iload_n 1, 1) := by decide +kernel
theorem dX6_effect_34 : decode cX6_effect 34 = .ok (.imul, 1) := by decide +kernel
theorem dX6_effect_35 : decode cX6_effect 35 = .ok (.iload_n 2, 1) := by decide +kernel
theorem dX6_effect_36 : decode cX6_effect 36 = .ok (.iadd, 1) := by decide +kernel
theorem dX6_effect_37 : decode cX6_effect 37 = .ok (.istore 4, 2) := by decide +kernel
theorem dX6_effect_39 : decode cX6_effect 39 = .ok (.iload_n 3, 1) := by decide +kernel
theorem dX6_effect_40 : decode cX6_effect 40 = .ok (.ifCond .ne 17, 3) := by decide +kernel
theorem dX6_effect_43 : decode cX6_effect 43 = .ok (.aload_n 0, 1) := by decide +kernel
theorem dX6_effect_44 : decode cX6_effect 44 = .ok (.getfield 7, 3) := by decide +kernel
theorem dX6_effect_47 : decode cX6_effect 47 = .ok (.sipush 176, 3) := by decide +kernel
theorem dX6_effect_50 : decode cX6_effect 50 = .ok (.iload 4, 2) := by decide +kernel
theorem dX6_effect_52 : decode cX6_effect 52 = .ok (.iadd, 1) := by decide +kernel
theorem dX6_effect_53 : decode cX6_effect 53 = .ok (.iaload, 1) := by decide +kernel
theorem dX6_effect_54 : decode cX6_effect 54 = .ok (.goto 24, 3) := by decide +kernel
theorem dX6_effect_57 : decode cX6_effect 57 = .ok (.iload_n 3, 1) := by decide +kernel
theorem dX6_effect_58 : decode cX6_effect 58 = .ok (.iconst 1, 1) := by decide +kernel
theorem dX6_effect_59 : decode cX6_effect 59 = .ok (.if_icmp .ne 17, 3) := by decide +kernel
theorem dX6_effect_62 : decode cX6_effect 62 = .ok (.aload_n 0, 1) := by decide +kernel
theorem dX6_effect_63 : decode cX6_effect 63 = .ok (.getfield 7, 3) := by decide +kernel
theorem dX6_effect_66 : decode cX6_effect 66 = .ok (.sipush 272, 3) := by decide +kernel
theorem dX6_effect_69 : decode cX6_effect 69 = .ok (.iload 4, 2) := by decide +kernel
theorem dX6_effect_71 : decode cX6_effect 71 = .ok (.iadd, 1) := by decide +kernel
theorem dX6_effect_72 : decode cX6_effect 72 = .ok (.iaload, 1) := by decide +kernel
theorem dX6_effect_73 : decode cX6_effect 73 = .ok (.goto 5, 3) := by decide +kernel
theorem dX6_effect_76 : decode cX6_effect 76 = .ok (.ldc 70, 2) := by decide +kernel
theorem dX6_effect_78 : decode cX6_effect 78 = .ok (.ireturn, 1) := by decide +kernel
theorem dX6_choice_0 : decode cX6_choice 0 = .ok (.aload_n 0, 1) := by decide +kernel
theorem dX6_choice_1 : decode cX6_choice 1 = .ok (.iload_n 1, 1) := by decide +kernel
theorem dX6_choice_2 : decode cX6_choice 2 = .ok (.invokevirtual 152, 3) := by decide +kernel
theorem dX6_choice_5 : decode cX6_choice 5 = .ok (.ifCond .ne 24, 3) := by decide +kernel
theorem dX6_choice_8 : decode cX6_choice 8 = .ok (.iload_n 2, 1) := by decide +kernel
theorem dX6_choice_9 : decode cX6_choice 9 = .ok (.i2l, 1) := by decide +kernel
theorem dX6_choice_10 : decode cX6_choice 10 = .ok (.lconst 0, 1) := by decide +kernel
theorem dX6_choice_11 : decode cX6_choice 11 = .ok (.aload_n 0, 1) := by decide +kernel
theorem dX6_choice_12 : decode cX6_choice 12 = .ok (.getfield 7, 3) := by decide +kernel
theorem dX6_choice_15 : decode cX6_choice 15 = .ok (.bipush 56, 2) := by decide +kernel
theorem dX6_choice_17 : decode cX6_choice 17 = .ok (.iload_n 1, 1) := by decide +kernel
theorem dX6_choice_18 : decode cX6_choice 18 = .ok (.iadd, 1) := by decide +kernel
theorem dX6_choice_19 : decode cX6_choice 19 = .ok (.iaload, 1) := by decide +kernel
theorem dX6_choice_20 : decode cX6_choice 20 = .ok (.iconst 1, 1) := by decide +kernel
theorem dX6_choice_21 : decode cX6_choice 21 = .ok (.isub, 1) := by decide +kernel
theorem dX6_choice_22 : decode cX6_choice 22 = .ok (.i2l, 1) := by decide +kernel
theorem dX6_choice_23 : decode cX6_choice 23 = .ok (.invokestatic 66, 3) := by decide +kernel
theorem dX6_choice_26 : decode cX6_choice 26 = .ok (.ifCond .ne 6, 3) := by decide +kernel
theorem dX6_choice_29 : decode cX6_choice 29 = .ok (.ldc 156, 2) := by decide +kernel
theorem dX6_choice_31 : decode cX6_choice 31 = .ok (.ireturn, 1) := by decide +kernel
theorem dX6_choice_32 : decode cX6_choice 32 = .ok (.bipush 6, 2) := by decide +kernel
theorem dX6_choice_34 : decode cX6_choice 34 = .ok (.iload_n 1, 1) := by decide +kernel
theorem dX6_choice_35 : decode cX6_choice 35 = .ok (.imul, 1) := by decide +kernel
theorem dX6_choice_36 : decode cX6_choice 36 = .ok (.iload_n 2, 1) := by decide +kernel
theorem dX6_choice_37 : decode cX6_choice 37 = .ok (.iadd, 1) := by decide +kernel
theorem dX6_choice_38 : decode cX6_choice 38 = .ok (.istore 4, 2) := by decide +kernel
theorem dX6_choice_40 : decode cX6_choice 40 = .ok (.iload_n 3, 1) := by decide +kernel
theorem dX6_choice_41 : decode cX6_choice 41 = .ok (.ifCond .ne 17, 3) := by decide +kernel
theorem dX6_choice_44 : decode cX6_choice 44 = .ok (.aload_n 0, 1) := by decide +kernel
theorem dX6_choice_45 : decode cX6_choice 45 = .ok (.getfield 7, 3) := by decide +kernel
theorem dX6_choice_48 : decode cX6_choice 48 = .ok (.sipush 368, 3) := by decide +kernel
theorem dX6_choice_51 : decode cX6_choice 51 = .ok (.iload 4, 2) := by decide +kernel
theorem dX6_choice_53 : decode cX6_choice 53 = .ok (.iadd, 1) := by decide +kernel
theorem dX6_choice_54 : decode cX6_choice 54 = .ok (.iaload, 1) := by decide +kernel
theorem dX6_choice_55 : decode cX6_choice 55 = .ok (.goto 43, 3) := by decide +kernel
theorem dX6_choice_58 : decode cX6_choice 58 = .ok (.iload_n 3, 1) := by decide +kernel
theorem dX6_choice_59 : decode cX6_choice 59 = .ok (.iconst 1, 1) := by decide +kernel
theorem dX6_choice_60 : decode cX6_choice 60 = .ok (.if_icmp .ne 17, 3) := by decide +kernel
theorem dX6_choice_63 : decode cX6_choice 63 = .ok (.aload_n 0, 1) := by decide +kernel
theorem dX6_choice_64 : decode cX6_choice 64 = .ok (.getfield 7, 3) := by decide +kernel
theorem dX6_choice_67 : decode cX6_choice 67 = .ok (.sipush 512, 3) := by decide +kernel
theorem dX6_choice_70 : decode cX6_choice 70 = .ok (.iload 4, 2) := by decide +kernel
theorem dX6_choice_72 : decode cX6_choice 72 = .ok (.iadd, 1) := by decide +kernel
theorem dX6_choice_73 : decode cX6_choice 73 = .ok (.iaload, 1) := by decide +kernel
theorem dX6_choice_74 : decode cX6_choice 74 = .ok (.goto 24, 3) := by decide +kernel
theorem dX6_choice_77 : decode cX6_choice 77 = .ok (.iload_n 3, 1) := by decide +kernel
theorem dX6_choice_78 : decode cX6_choice 78 = .ok (.iconst 2, 1) := by decide +kernel
theorem dX6_choice_79 : decode cX6_choice 79 = .ok (.if_icmp .ne 17, 3) := by decide +kernel
theorem dX6_choice_82 : decode cX6_choice 82 = .ok (.aload_n 0, 1) := by decide +kernel
theorem dX6_choice_83 : decode cX6_choice 83 = .ok (.getfield 7, 3) := by decide +kernel
theorem dX6_choice_86 : decode cX6_choice 86 = .ok (.sipush 656, 3) := by decide +kernel
theorem dX6_choice_89 : decode cX6_choice 89 = .ok (.iload 4, 2) := by decide +kernel
theorem dX6_choice_91 : decode cX6_choice 91 = .ok (.iadd, 1) := by decide +kernel
theorem dX6_choice_92 : decode cX6_choice 92 = .ok (.iaload, 1) := by decide +kernel
theorem dX6_choice_93 : decode cX6_choice 93 = .ok (.goto 5, 3) := by decide +kernel
theorem dX6_choice_96 : decode cX6_choice 96 = .ok (.ldc 70, 2) := by decide +kernel
theorem dX6_choice_98 : decode cX6_choice 98 = .ok (.ireturn, 1) := by decide +kernel
theorem dX6_noThing_0 : decode cX6_noThing 0 = .ok (.iload_n 0, 1) := by decide +kernel
theorem dX6_noThing_1 : decode cX6_noThing 1 = .ok (.iconst (-1), 1) := by decide +kernel
theorem dX6_noThing_2 : decode cX6_noThing 2 = .ok (.if_icmp .eq 19, 3) := by decide +kernel
theorem dX6_noThing_5 : decode cX6_noThing 5 = .ok (.iload_n 0, 1) := by decide +kernel
theorem dX6_noThing_6 : decode cX6_noThing 6 = .ok (.i2l, 1) := by decide +kernel
theorem dX6_noThing_7 : decode cX6_noThing 7 = .ok (.lconst 0, 1) := by decide +kernel
theorem dX6_noThing_8 : decode cX6_noThing 8 = .ok (.ldc2_w 161, 3) := by decide +kernel
theorem dX6_noThing_11 : decode cX6_noThing 11 = .ok (.invokestatic 66, 3) := by decide +kernel
theorem dX6_noThing_14 : decode cX6_noThing 14 = .ok (.ifCond .ne 7, 3) := by decide +kernel
theorem dX6_noThing_17 : decode cX6_noThing 17 = .ok (.iconst 1, 1) := by decide +kernel
theorem dX6_noThing_18 : decode cX6_noThing 18 = .ok (.goto 4, 3) := by decide +kernel
theorem dX6_noThing_21 : decode cX6_noThing 21 = .ok (.iconst 0, 1) := by decide +kernel
theorem dX6_noThing_22 : decode cX6_noThing 22 = .ok (.ireturn, 1) := by decide +kernel
theorem dX6_link_0 : decode cX6_link 0 = .ok (.aload_n 0, 1) := by decide +kernel
theorem dX6_link_1 : decode cX6_link 1 = .ok (.iload_n 1, 1) := by decide +kernel
theorem dX6_link_2 : decode cX6_link 2 = .ok (.invokevirtual 152, 3) := by decide +kernel
theorem dX6_link_5 : decode cX6_link 5 = .ok (.ifCond .ne 26, 3) := by decide +kernel
theorem dX6_link_8 : decode cX6_link 8 = .ok (.aload_n 0, 1) := by decide +kernel
theorem dX6_link_9 : decode cX6_link 9 = .ok (.iload_n 2, 1) := by decide +kernel
theorem dX6_link_10 : decode cX6_link 10 = .ok (.invokevirtual 152, 3) := by decide +kernel
theorem dX6_link_13 : decode cX6_link 13 = .ok (.ifCond .ne 18, 3) := by decide +kernel
theorem dX6_link_16 : decode cX6_link 16 = .ok (.iload_n 3, 1) := by decide +kernel
theorem dX6_link_17 : decode cX6_link 17 = .ok (.invokestatic 163, 3) := by decide +kernel
theorem dX6_link_20 : decode cX6_link 20 = .ok (.ifCond .ne 11, 3) := by decide +kernel
theorem dX6_link_23 : decode cX6_link 23 = .ok (.iload 4, 2) := by decide +kernel
theorem dX6_link_25 : decode cX6_link 25 = .ok (.invokestatic 163, 3) := by decide +kernel
theorem dX6_link_28 : decode cX6_link 28 = .ok (.ifCond .eq 6, 3) := by decide +kernel
theorem dX6_link_31 : decode cX6_link 31 = .ok (.ldc 156, 2) := by decide +kernel
theorem dX6_link_33 : decode cX6_link 33 = .ok (.ireturn, 1) := by decide +kernel
theorem dX6_link_34 : decode cX6_link 34 = .ok (.aload_n 0, 1) := by decide +kernel
theorem dX6_link_35 : decode cX6_link 35 = .ok (.getfield 7, 3) := by decide +kernel
theorem dX6_link_38 : decode cX6_link 38 = .ok (.bipush 8, 2) := by decide +kernel
theorem dX6_link_40 : decode cX6_link 40 = .ok (.iload_n 1, 1) := by decide +kernel
theorem dX6_link_41 : decode cX6_link 41 = .ok (.iadd, 1) := by decide +kernel
theorem dX6_link_42 : decode cX6_link 42 = .ok (.iaload, 1) := by decide +kernel
theorem dX6_link_43 : decode cX6_link 43 = .ok (.ifCond .eq 6, 3) := by decide +kernel
theorem dX6_link_46 : decode cX6_link 46 = .ok (.ldc 166, 2) := by decide +kernel
theorem dX6_link_48 : decode cX6_link 48 = .ok (.ireturn, 1) := by decide +kernel
theorem dX6_link_49 : decode cX6_link 49 = .ok (.aload_n 0, 1) := by decide +kernel
theorem dX6_link_50 : decode cX6_link 50 = .ok (.getfield 7, 3) := by decide +kernel
theorem dX6_link_53 : decode cX6_link 53 = .ok (.bipush 56, 2) := by decide +kernel
theorem dX6_link_55 : decode cX6_link 55 = .ok (.iload_n 1, 1) := by decide +kernel
theorem dX6_link_56 : decode cX6_link 56 = .ok (.iadd, 1) := by decide +kernel
theorem dX6_link_57 : decode cX6_link 57 = .ok (.iaload, 1) := by decide +kernel
theorem dX6_link_58 : decode cX6_link 58 = .ok (.istore 5, 2) := by decide +kernel
theorem dX6_link_60 : decode cX6_link 60 = .ok (.iload 5, 2) := by decide +kernel
theorem dX6_link_62 : decode cX6_link 62 = .ok (.bipush 6, 2) := by decide +kernel
theorem dX6_link_64 : decode cX6_link 64 = .ok (.if_icmp .ne 6, 3) := by decide +kernel
theorem dX6_link_67 : decode cX6_link 67 = .ok (.ldc 74, 2) := by decide +kernel
theorem dX6_link_69 : decode cX6_link 69 = .ok (.ireturn, 1) := by decide +kernel
theorem dX6_link_70 : decode cX6_link 70 = .ok (.bipush 6, 2) := by decide +kernel
theorem dX6_link_72 : decode cX6_link 72 = .ok (.iload_n 1, 1) := by decide +kernel
theorem dX6_link_73 : decode cX6_link 73 = .ok (.imul, 1) := by decide +kernel
theorem dX6_link_74 : decode cX6_link 74 = .ok (.iload 5, 2) := by decide +kernel
theorem dX6_link_76 : decode cX6_link 76 = .ok (.iadd, 1) := by decide +kernel
theorem dX6_link_77 : decode cX6_link 77 = .ok (.istore 6, 2) := by decide +kernel
theorem dX6_link_79 : decode cX6_link 79 = .ok (.aload_n 0, 1) := by decide +kernel
theorem dX6_link_80 : decode cX6_link 80 = .ok (.getfield 7, 3) := by decide +kernel
theorem dX6_link_83 : decode cX6_link 83 = .ok (.sipush 368, 3) := by decide +kernel
theorem dX6_link_86 : decode cX6_link 86 = .ok (.iload 6, 2) := by decide +kernel
theorem dX6_link_88 : decode cX6_link 88 = .ok (.iadd, 1) := by decide +kernel
theorem dX6_link_89 : decode cX6_link 89 = .ok (.iload_n 2, 1) := by decide +kernel
theorem dX6_link_90 : decode cX6_link 90 = .ok (.iastore, 1) := by decide +kernel
theorem dX6_link_91 : decode cX6_link 91 = .ok (.aload_n 0, 1) := by decide +kernel
theorem dX6_link_92 : decode cX6_link 92 = .ok (.getfield 7, 3) := by decide +kernel
theorem dX6_link_95 : decode cX6_link 95 = .ok (.sipush 512, 3) := by decide +kernel
theorem dX6_link_98 : decode cX6_link 98 = .ok (.iload 6, 2) := by decide +kernel
theorem dX6_link_100 : decode cX6_link 100 = .ok (.iadd, 1) := by decide +kernel
theorem dX6_link_101 : decode cX6_link 101 = .ok (.iload_n 3, 1) := by decide +kernel
theorem dX6_link_102 : decode cX6_link 102 = .ok (.iastore, 1) := by decide +kernel
theorem dX6_link_103 : decode cX6_link 103 = .ok (.aload_n 0, 1) := by decide +kernel
theorem dX6_link_104 : decode cX6_link 104 = .ok (.getfield 7, 3) := by decide +kernel
theorem dX6_link_107 : decode cX6_link 107 = .ok (.sipush 656, 3) := by decide +kernel
theorem dX6_link_110 : decode cX6_link 110 = .ok (.iload 6, 2) := by decide +kernel
theorem dX6_link_112 : decode cX6_link 112 = .ok (.iadd, 1) := by decide +kernel
theorem dX6_link_113 : decode cX6_link 113 = .ok (.iload 4, 2) := by decide +kernel
theorem dX6_link_115 : decode cX6_link 115 = .ok (.iastore, 1) := by decide +kernel
theorem dX6_link_116 : decode cX6_link 116 = .ok (.aload_n 0, 1) := by decide +kernel
theorem dX6_link_117 : decode cX6_link 117 = .ok (.getfield 7, 3) := by decide +kernel
theorem dX6_link_120 : decode cX6_link 120 = .ok (.bipush 56, 2) := by decide +kernel
theorem dX6_link_122 : decode cX6_link 122 = .ok (.iload_n 1, 1) := by decide +kernel
theorem dX6_link_123 : decode cX6_link 123 = .ok (.iadd, 1) := by decide +kernel
theorem dX6_link_124 : decode cX6_link 124 = .ok (.iload 5, 2) := by decide +kernel
theorem dX6_link_126 : decode cX6_link 126 = .ok (.iconst 1, 1) := by decide +kernel
theorem dX6_link_127 : decode cX6_link 127 = .ok (.iadd, 1) := by decide +kernel
theorem dX6_link_128 : decode cX6_link 128 = .ok (.iastore, 1) := by decide +kernel
theorem dX6_link_129 : decode cX6_link 129 = .ok (.iload 5, 2) := by decide +kernel
theorem dX6_link_131 : decode cX6_link 131 = .ok (.iconst 1, 1) := by decide +kernel
theorem dX6_link_132 : decode cX6_link 132 = .ok (.iadd, 1) := by decide +kernel
theorem dX6_link_133 : decode cX6_link 133 = .ok (.ireturn, 1) := by decide +kernel
theorem dX6_unlink_0 : decode cX6_unlink 0 = .ok (.aload_n 0, 1) := by decide +kernel
theorem dX6_unlink_1 : decode cX6_unlink 1 = .ok (.iload_n 1, 1) := by decide +kernel
theorem dX6_unlink_2 : decode cX6_unlink 2 = .ok (.invokevirtual 152, 3) := by decide +kernel
theorem dX6_unlink_5 : decode cX6_unlink 5 = .ok (.ifCond .ne 24, 3) := by decide +kernel
theorem dX6_unlink_8 : decode cX6_unlink 8 = .ok (.iload_n 2, 1) := by decide +kernel
theorem dX6_unlink_9 : decode cX6_unlink 9 = .ok (.i2l, 1) := by decide +kernel
theorem dX6_unlink_10 : decode cX6_unlink 10 = .ok (.lconst 0, 1) := by decide +kernel
theorem dX6_unlink_11 : decode cX6_unlink 11 = .ok (.aload_n 0, 1) := by decide +kernel
theorem dX6_unlink_12 : decode cX6_unlink 12 = .ok (.getfield 7, 3) := by decide +kernel
theorem dX6_unlink_15 : decode cX6_unlink 15 = .ok (.bipush 56, 2) := by decide +kernel
theorem dX6_unlink_17 : decode cX6_unlink 17 = .ok (.iload_n 1, 1) := by decide +kernel
theorem dX6_unlink_18 : decode cX6_unlink 18 = .ok (.iadd, 1) := by decide +kernel
theorem dX6_unlink_19 : decode cX6_unlink 19 = .ok (.iaload, 1) := by decide +kernel
theorem dX6_unlink_20 : decode cX6_unlink 20 = .ok (.iconst 1, 1) := by decide +kernel
theorem dX6_unlink_21 : decode cX6_unlink 21 = .ok (.isub, 1) := by decide +kernel
theorem dX6_unlink_22 : decode cX6_unlink 22 = .ok (.i2l, 1) := by decide +kernel
theorem dX6_unlink_23 : decode cX6_unlink 23 = .ok (.invokestatic 66, 3) := by decide +kernel
theorem dX6_unlink_26 : decode cX6_unlink 26 = .ok (.ifCond .ne 6, 3) := by decide +kernel
theorem dX6_unlink_29 : decode cX6_unlink 29 = .ok (.ldc 156, 2) := by decide +kernel
theorem dX6_unlink_31 : decode cX6_unlink 31 = .ok (.ireturn, 1) := by decide +kernel
theorem dX6_unlink_32 : decode cX6_unlink 32 = .ok (.bipush 6, 2) := by decide +kernel
theorem dX6_unlink_34 : decode cX6_unlink 34 = .ok (.iload_n 1, 1) := by decide +kernel
theorem dX6_unlink_35 : decode cX6_unlink 35 = .ok (.imul, 1) := by decide +kernel
theorem dX6_unlink_36 : decode cX6_unlink 36 = .ok (.iload_n 2, 1) := by decide +kernel
theorem dX6_unlink_37 : decode cX6_unlink 37 = .ok (.iadd, 1) := by decide +kernel
theorem dX6_unlink_38 : decode cX6_unlink 38 = .ok (.istore_n 3, 1) := by decide +kernel
theorem dX6_unlink_39 : decode cX6_unlink 39 = .ok (.iload_n 3, 1) := by decide +kernel
theorem dX6_unlink_40 : decode cX6_unlink 40 = .ok (.iconst 1, 1) := by decide +kernel
theorem dX6_unlink_41 : decode cX6_unlink 41 = .ok (.iadd, 1) := by decide +kernel
theorem dX6_unlink_42 : decode cX6_unlink 42 = .ok (.bipush 6, 2) := by decide +kernel
theorem dX6_unlink_44 : decode cX6_unlink 44 = .ok (.iload_n 1, 1) := by decide +kernel
theorem dX6_unlink_45 : decode cX6_unlink 45 = .ok (.imul, 1) := by decide +kernel
theorem dX6_unlink_46 : decode cX6_unlink 46 = .ok (.aload_n 0, 1) := by decide +kernel
theorem dX6_unlink_47 : decode cX6_unlink 47 = .ok (.getfield 7, 3) := by decide +kernel
theorem dX6_unlink_50 : decode cX6_unlink 50 = .ok (.bipush 56, 2) := by decide +kernel
theorem dX6_unlink_52 : decode cX6_unlink 52 = .ok (.iload_n 1, 1) := by decide +kernel
theorem dX6_unlink_53 : decode cX6_unlink 53 = .ok (.iadd, 1) := by decide +kernel
theorem dX6_unlink_54 : decode cX6_unlink 54 = .ok (.iaload, 1) := by decide +kernel
theorem dX6_unlink_55 : decode cX6_unlink 55 = .ok (.iadd, 1) := by decide +kernel
theorem dX6_unlink_56 : decode cX6_unlink 56 = .ok (.if_icmp .ge 75, 3) := by decide +kernel
theorem dX6_unlink_59 : decode cX6_unlink 59 = .ok (.aload_n 0, 1) := by decide +kernel
theorem dX6_unlink_60 : decode cX6_unlink 60 = .ok (.getfield 7, 3) := by decide +kernel
theorem dX6_unlink_63 : decode cX6_unlink 63 = .ok (.sipush 368, 3) := by decide +kernel
theorem dX6_unlink_66 : decode cX6_unlink 66 = .ok (.iload_n 3, 1) := by decide +kernel
theorem dX6_unlink_67 : decode cX6_unlink 67 = .ok (.iadd, 1) := by decide +kernel
theorem dX6_unlink_68 : decode cX6_unlink 68 = .ok (.aload_n 0, 1) := by decide +kernel
theorem dX6_unlink_69 : decode cX6_unlink 69 = .ok (.getfield 7, 3) := by decide +kernel
theorem dX6_unlink_72 : decode cX6_unlink 72 = .ok (.sipush 368, 3) := by decide +kernel
theorem dX6_unlink_75 : decode cX6_unlink 75 = .ok (.iload_n 3, 1) := by decide +kernel
theorem dX6_unlink_76 : decode cX6_unlink 76 = .ok (.iadd, 1) := by decide +kernel
theorem dX6_unlink_77 : decode cX6_unlink 77 = .ok (.iconst 1, 1) := by decide +kernel
theorem dX6_unlink_78 : decode cX6_unlink 78 = .ok (.iadd, 1) := by decide +kernel
theorem dX6_unlink_79 : decode cX6_unlink 79 = .ok (.iaload, 1) := by decide +kernel
theorem dX6_unlink_80 : decode cX6_unlink 80 = .ok (.iastore, 1) := by decide +kernel
theorem dX6_unlink_81 : decode cX6_unlink 81 = .ok (.aload_n 0, 1) := by decide +kernel
theorem dX6_unlink_82 : decode cX6_unlink 82 = .ok (.getfield 7, 3) := by decide +kernel
theorem dX6_unlink_85 : decode cX6_unlink 85 = .ok (.sipush 512, 3) := by decide +kernel
theorem dX6_unlink_88 : decode cX6_unlink 88 = .ok (.iload_n 3, 1) := by decide +kernel
theorem dX6_unlink_89 : decode cX6_unlink 89 = .ok (.iadd, 1) := by decide +kernel
theorem dX6_unlink_90 : decode cX6_unlink 90 = .ok (.aload_n 0, 1) := by decide +kernel
theorem dX6_unlink_91 : decode cX6_unlink 91 = .ok (.getfield 7, 3) := by decide +kernel
theorem dX6_unlink_94 : decode cX6_unlink 94 = .ok (.sipush 512, 3) := by decide +kernel
theorem dX6_unlink_97 : decode cX6_unlink 97 = .ok (.iload_n 3, 1) := by decide +kernel
theorem dX6_unlink_98 : decode cX6_unlink 98 = .ok (.iadd, 1) := by decide +kernel
theorem dX6_unlink_99 : decode cX6_unlink 99 = .ok (.iconst 1, 1) := by decide +kernel
theorem dX6_unlink_100 : decode cX6_unlink 100 = .ok (.iadd, 1) := by decide +kernel
theorem dX6_unlink_101 : decode cX6_unlink 101 = .ok (.iaload, 1) := by decide +kernel
theorem dX6_unlink_102 : decode cX6_unlink 102 = .ok (.iastore, 1) := by decide +kernel
theorem dX6_unlink_103 : decode cX6_unlink 103 = .ok (.aload_n 0, 1) := by decide +kernel
theorem dX6_unlink_104 : decode cX6_unlink 104 = .ok (.getfield 7, 3) := by decide +kernel
theorem dX6_unlink_107 : decode cX6_unlink 107 = .ok (.sipush 656, 3) := by decide +kernel
theorem dX6_unlink_110 : decode cX6_unlink 110 = .ok (.iload_n 3, 1) := by decide +kernel
theorem dX6_unlink_111 : decode cX6_unlink 111 = .ok (.iadd, 1) := by decide +kernel
theorem dX6_unlink_112 : decode cX6_unlink 112 = .ok (.aload_n 0, 1) := by decide +kernel
theorem dX6_unlink_113 : decode cX6_unlink 113 = .ok (.getfield 7, 3) := by decide +kernel
theorem dX6_unlink_116 : decode cX6_unlink 116 = .ok (.sipush 656, 3) := by decide +kernel
theorem dX6_unlink_119 : decode cX6_unlink 119 = .ok (.iload_n 3, 1) := by decide +kernel
theorem dX6_unlink_120 : decode cX6_unlink 120 = .ok (.iadd, 1) := by decide +kernel
theorem dX6_unlink_121 : decode cX6_unlink 121 = .ok (.iconst 1, 1) := by decide +kernel
theorem dX6_unlink_122 : decode cX6_unlink 122 = .ok (.iadd, 1) := by decide +kernel
theorem dX6_unlink_123 : decode cX6_unlink 123 = .ok (.iaload, 1) := by decide +kernel
theorem dX6_unlink_124 : decode cX6_unlink 124 = .ok (.iastore, 1) := by decide +kernel
theorem dX6_unlink_125 : decode cX6_unlink 125 = .ok (.iinc 3 1, 3) := by decide +kernel
theorem dX6_unlink_128 : decode cX6_unlink 128 = .ok (.goto (-89), 3) := by decide +kernel
theorem dX6_unlink_131 : decode cX6_unlink 131 = .ok (.aload_n 0, 1) := by decide +kernel
theorem dX6_unlink_132 : decode cX6_unlink 132 = .ok (.getfield 7, 3) := by decide +kernel
theorem dX6_unlink_135 : decode cX6_unlink 135 = .ok (.bipush 56, 2) := by decide +kernel
theorem dX6_unlink_137 : decode cX6_unlink 137 = .ok (.iload_n 1, 1) := by decide +kernel
theorem dX6_unlink_138 : decode cX6_unlink 138 = .ok (.iadd, 1) := by decide +kernel
theorem dX6_unlink_139 : decode cX6_unlink 139 = .ok (.dup2, 1) := by decide +kernel
theorem dX6_unlink_140 : decode cX6_unlink 140 = .ok (.iaload, 1) := by decide +kernel
theorem dX6_unlink_141 : decode cX6_unlink 141 = .ok (.iconst 1, 1) := by decide +kernel
theorem dX6_unlink_142 : decode cX6_unlink 142 = .ok (.isub, 1) := by decide +kernel
theorem dX6_unlink_143 : decode cX6_unlink 143 = .ok (.iastore, 1) := by decide +kernel
theorem dX6_unlink_144 : decode cX6_unlink 144 = .ok (.aload_n 0, 1) := by decide +kernel
theorem dX6_unlink_145 : decode cX6_unlink 145 = .ok (.getfield 7, 3) := by decide +kernel
theorem dX6_unlink_148 : decode cX6_unlink 148 = .ok (.bipush 56, 2) := by decide +kernel
theorem dX6_unlink_150 : decode cX6_unlink 150 = .ok (.iload_n 1, 1) := by decide +kernel
theorem dX6_unlink_151 : decode cX6_unlink 151 = .ok (.iadd, 1) := by decide +kernel
theorem dX6_unlink_152 : decode cX6_unlink 152 = .ok (.iaload, 1) := by decide +kernel
theorem dX6_unlink_153 : decode cX6_unlink 153 = .ok (.ireturn, 1) := by decide +kernel
theorem dX6_choices_0 : decode cX6_choices 0 = .ok (.iconst 0, 1) := by decide +kernel
theorem dX6_choices_1 : decode cX6_choices 1 = .ok (.istore_n 1, 1) := by decide +kernel
theorem dX6_choices_2 : decode cX6_choices 2 = .ok (.iconst 0, 1) := by decide +kernel
theorem dX6_choices_3 : decode cX6_choices 3 = .ok (.istore_n 2, 1) := by decide +kernel
theorem dX6_choices_4 : decode cX6_choices 4 = .ok (.iload_n 2, 1) := by decide +kernel
theorem dX6_choices_5 : decode cX6_choices 5 = .ok (.aload_n 0, 1) := by decide +kernel
theorem dX6_choices_6 : decode cX6_choices 6 = .ok (.getfield 7, 3) := by decide +kernel
theorem dX6_choices_9 : decode cX6_choices 9 = .ok (.iconst 0, 1) := by decide +kernel
theorem dX6_choices_10 : decode cX6_choices 10 = .ok (.iaload, 1) := by decide +kernel
theorem dX6_choices_11 : decode cX6_choices 11 = .ok (.if_icmp .ge 21, 3) := by decide +kernel
theorem dX6_choices_14 : decode cX6_choices 14 = .ok (.iload_n 1, 1) := by decide +kernel
theorem dX6_choices_15 : decode cX6_choices 15 = .ok (.aload_n 0, 1) := by decide +kernel
theorem dX6_choices_16 : decode cX6_choices 16 = .ok (.getfield 7, 3) := by decide +kernel
theorem dX6_choices_19 : decode cX6_choices 19 = .ok (.bipush 56, 2) := by decide +kernel
theorem dX6_choices_21 : decode cX6_choices 21 = .ok (.iload_n 2, 1) := by decide +kernel
theorem dX6_choices_22 : decode cX6_choices 22 = .ok (.iadd, 1) := by decide +kernel
theorem dX6_choices_23 : decode cX6_choices 23 = .ok (.iaload, 1) := by decide +kernel
theorem dX6_choices_24 : decode cX6_choices 24 = .ok (.iadd, 1) := by decide +kernel
theorem dX6_choices_25 : decode cX6_choices 25 = .ok (.istore_n 1, 1) := by decide +kernel
theorem dX6_choices_26 : decode cX6_choices 26 = .ok (.iinc 2 1, 3) := by decide +kernel
theorem dX6_choices_29 : decode cX6_choices 29 = .ok (.goto (-25), 3) := by decide +kernel
theorem dX6_choices_32 : decode cX6_choices 32 = .ok (.iload_n 1, 1) := by decide +kernel
theorem dX6_choices_33 : decode cX6_choices 33 = .ok (.ireturn, 1) := by decide +kernel
theorem dX6_count_0 : decode cX6_count 0 = .ok (.iload_n 1, 1) := by decide +kernel
theorem dX6_count_1 : decode cX6_count 1 = .ok (.tableswitch 77 0 5 #[39, 46, 51, 58, 63, 68], 39) := by decide +kernel
theorem dX6_count_40 : decode cX6_count 40 = .ok (.aload_n 0, 1) := by decide +kernel
theorem dX6_count_41 : decode cX6_count 41 = .ok (.getfield 7, 3) := by decide +kernel
theorem dX6_count_44 : decode cX6_count 44 = .ok (.iconst 0, 1) := by decide +kernel
theorem dX6_count_45 : decode cX6_count 45 = .ok (.iaload, 1) := by decide +kernel
theorem dX6_count_46 : decode cX6_count 46 = .ok (.ireturn, 1) := by decide +kernel
theorem dX6_count_47 : decode cX6_count 47 = .ok (.aload_n 0, 1) := by decide +kernel
theorem dX6_count_48 : decode cX6_count 48 = .ok (.invokevirtual 167, 3) := by decide +kernel
theorem dX6_count_51 : decode cX6_count 51 = .ok (.ireturn, 1) := by decide +kernel
theorem dX6_count_52 : decode cX6_count 52 = .ok (.aload_n 0, 1) := by decide +kernel
theorem dX6_count_53 : decode cX6_count 53 = .ok (.getfield 7, 3) := by decide +kernel
theorem dX6_count_56 : decode cX6_count 56 = .ok (.iconst 1, 1) := by decide +kernel
theorem dX6_count_57 : decode cX6_count 57 = .ok (.iaload, 1) := by decide +kernel
theorem dX6_count_58 : decode cX6_count 58 = .ok (.ireturn, 1) := by decide +kernel
theorem dX6_count_59 : decode cX6_count 59 = .ok (.aload_n 0, 1) := by decide +kernel
theorem dX6_count_60 : decode cX6_count 60 = .ok (.getfield 149, 3) := by decide +kernel
theorem dX6_count_63 : decode cX6_count 63 = .ok (.ireturn, 1) := by decide +kernel
theorem dX6_count_64 : decode cX6_count 64 = .ok (.aload_n 0, 1) := by decide +kernel
theorem dX6_count_65 : decode cX6_count 65 = .ok (.getfield 71, 3) := by decide +kernel
theorem dX6_count_68 : decode cX6_count 68 = .ok (.ireturn, 1) := by decide +kernel
theorem dX6_count_69 : decode cX6_count 69 = .ok (.aload_n 0, 1) := by decide +kernel
theorem dX6_count_70 : decode cX6_count 70 = .ok (.invokevirtual 170, 3) := by decide +kernel
theorem dX6_count_73 : decode cX6_count 73 = .ok (.aload_n 0, 1) := by decide +kernel
theorem dX6_count_74 : decode cX6_count 74 = .ok (.getfield 173, 3) := by decide +kernel
theorem dX6_count_77 : decode cX6_count 77 = .ok (.ireturn, 1) := by decide +kernel
theorem dX6_count_78 : decode cX6_count 78 = .ok (.ldc 70, 2) := by decide +kernel
theorem dX6_count_80 : decode cX6_count 80 = .ok (.ireturn, 1) := by decide +kernel
theorem dX6_come_0 : decode cX6_come 0 = .ok (.aload_n 0, 1) := by decide +kernel
theorem dX6_come_1 : decode cX6_come 1 = .ok (.iload_n 2, 1) := by decide +kernel
theorem dX6_come_2 : decode cX6_come 2 = .ok (.putfield 176, 3) := by decide +kernel
theorem dX6_come_5 : decode cX6_come 5 = .ok (.aload_n 0, 1) := by decide +kernel
theorem dX6_come_6 : decode cX6_come 6 = .ok (.iload_n 3, 1) := by decide +kernel
theorem dX6_come_7 : decode cX6_come 7 = .ok (.putfield 179, 3) := by decide +kernel
theorem dX6_come_10 : decode cX6_come 10 = .ok (.iconst 0, 1) := by decide +kernel
theorem dX6_come_11 : decode cX6_come 11 = .ok (.istore 4, 2) := by decide +kernel
theorem dX6_come_13 : decode cX6_come 13 = .ok (.iload 4, 2) := by decide +kernel
theorem dX6_come_15 : decode cX6_come 15 = .ok (.aload_n 0, 1) := by decide +kernel
theorem dX6_come_16 : decode cX6_come 16 = .ok (.getfield 7, 3) := by decide +kernel
theorem dX6_come_19 : decode cX6_come 19 = .ok (.bipush 32, 2) := by decide +kernel
theorem dX6_come_21 : decode cX6_come 21 = .ok (.iload_n 1, 1) := by decide +kernel
theorem dX6_come_22 : decode cX6_come 22 = .ok (.iadd, 1) := by decide +kernel
theorem dX6_come_23 : decode cX6_come 23 = .ok (.iaload, 1) := by decide +kernel
theorem dX6_come_24 : decode cX6_come 24 = .ok (.if_icmp .ge 177, 3) := by decide +kernel
theorem dX6_come_27 : decode cX6_come 27 = .ok (.aload_n 0, 1) := by decide +kernel
theorem dX6_come_28 : decode cX6_come 28 = .ok (.getfield 179, 3) := by decide +kernel
theorem dX6_come_31 : decode cX6_come 31 = .ok (.ifCond .le 170, 3) := by decide +kernel
theorem dX6_come_34 : decode cX6_come 34 = .ok (.aload_n 0, 1) := by decide +kernel
theorem dX6_come_35 : decode cX6_come 35 = .ok (.getfield 7, 3) := by decide +kernel
theorem dX6_come_38 : decode cX6_come 38 = .ok (.sipush 272, 3) := by decide +kernel
theorem dX6_come_41 : decode cX6_come 41 = .ok (.iconst 4, 1) := by decide +kernel
theorem dX6_come_42 : decode cX6_come 42 = .ok (.iload_n 1, 1) := by decide +kernel
theorem dX6_come_43 : decode cX6_come 43 = .ok (.imul, 1) := by decide +kernel
theorem dX6_come_44 : decode cX6_come 44 = .ok (.iadd, 1) := by decide +kernel
theorem dX6_come_45 : decode cX6_come 45 = .ok (.iload 4, 2) := by decide +kernel
theorem dX6_come_47 : decode cX6_come 47 = .ok (.iadd, 1) := by decide +kernel
theorem dX6_come_48 : decode cX6_come 48 = .ok (.iaload, 1) := by decide +kernel
theorem dX6_come_49 : decode cX6_come 49 = .ok (.istore 5, 2) := by decide +kernel
theorem dX6_come_51 : decode cX6_come 51 = .ok (.aload_n 0, 1) := by decide +kernel
theorem dX6_come_52 : decode cX6_come 52 = .ok (.getfield 7, 3) := by decide +kernel
theorem dX6_come_55 : decode cX6_come 55 = .ok (.sipush 176, 3) := by decide +kernel
theorem dX6_come_58 : decode cX6_come 58 = .ok (.iconst 4, 1) := by decide +kernel
theorem dX6_come_59 : decode cX6_come 59 = .ok (.iload_n 1, 1) := by decide +kernel
theorem dX6_come_60 : decode cX6_come 60 = .ok (.imul, 1) := by decide +kernel
theorem dX6_come_61 : decode cX6_come 61 = .ok (.iadd, 1) := by decide +kernel
theorem dX6_come_62 : decode cX6_come 62 = .ok (.iload 4, 2) := by decide +kernel
theorem dX6_come_64 : decode cX6_come 64 = .ok (.iadd, 1) := by decide +kernel
theorem dX6_come_65 : decode cX6_come 65 = .ok (.iaload, 1) := by decide +kernel
theorem dX6_come_66 : decode cX6_come 66 = .ok (.tableswitch 101 0 2 #[26, 55, 73], 26) := by decide +kernel
theorem dX6_come_92 : decode cX6_come 92 = .ok (.aload_n 0, 1) := by decide +kernel
theorem dX6_come_93 : decode cX6_come 93 = .ok (.dup, 1) := by decide +kernel
theorem dX6_come_94 : decode cX6_come 94 = .ok (.getfield 176, 3) := by decide +kernel
theorem dX6_come_97 : decode cX6_come 97 = .ok (.iload 5, 2) := by decide +kernel
theorem dX6_come_99 : decode cX6_come 99 = .ok (.aload_n 0, 1) := by decide +kernel
theorem dX6_come_100 : decode cX6_come 100 = .ok (.getfield 36, 3) := by decide +kernel
theorem dX6_come_103 : decode cX6_come 103 = .ok (.if_icmp .ne 7, 3) := by decide +kernel
theorem dX6_come_106 : decode cX6_come 106 = .ok (.iconst 0, 1) := by decide +kernel
theorem dX6_come_107 : decode cX6_come 107 = .ok (.goto 7, 3) := by decide +kernel
theorem dX6_come_110 : decode cX6_come 110 = .ok (.iconst 1, 1) := by decide +kernel
theorem dX6_come_111 : decode cX6_come 111 = .ok (.iload 5, 2) := by decide +kernel
theorem dX6_come_113 : decode cX6_come 113 = .ok (.ishl, 1) := by decide +kernel
theorem dX6_come_114 : decode cX6_come 114 = .ok (.ior, 1) := by decide +kernel
theorem dX6_come_115 : decode cX6_come 115 = .ok (.putfield 176, 3) := by decide +kernel
theorem dX6_come_118 : decode cX6_come 118 = .ok (.goto 77, 3) := by decide +kernel
theorem dX6_come_121 : decode cX6_come 121 = .ok (.aload_n 0, 1) := by decide +kernel
theorem dX6_come_122 : decode cX6_come 122 = .ok (.dup, 1) := by decide +kernel
theorem dX6_come_123 : decode cX6_come 123 = .ok (.getfield 176, 3) := by decide +kernel
theorem dX6_come_126 : decode cX6_come 126 = .ok (.iconst 1, 1) := by decide +kernel
theorem dX6_come_127 : decode cX6_come 127 = .ok (.iload 5, 2) := by decide +kernel
theorem dX6_come_129 : decode cX6_come 129 = .ok (.ishl, 1) := by decide +kernel
theorem dX6_come_130 : decode cX6_come 130 = .ok (.iconst (-1), 1) := by decide +kernel
theorem dX6_come_131 : decode cX6_come 131 = .ok (.ixor, 1) := by decide +kernel
theorem dX6_come_132 : decode cX6_come 132 = .ok (.iand, 1) := by decide +kernel
theorem dX6_come_133 : decode cX6_come 133 = .ok (.putfield 176, 3) := by decide +kernel
theorem dX6_come_136 : decode cX6_come 136 = .ok (.goto 59, 3) := by decide +kernel
theorem dX6_come_139 : decode cX6_come 139 = .ok (.aload_n 0, 1) := by decide +kernel
theorem dX6_come_140 : decode cX6_come 140 = .ok (.aload_n 0, 1) := by decide +kernel
theorem dX6_come_141 : decode cX6_come 141 = .ok (.getfield 179, 3) := by decide +kernel
theorem dX6_come_144 : decode cX6_come 144 = .ok (.iload 5, 2) := by decide +kernel
theorem dX6_come_146 : decode cX6_come 146 = .ok (.isub, 1) := by decide +kernel
theorem dX6_come_147 : decode cX6_come 147 = .ok (.ifCond .ge 7, 3) := by decide +kernel
theorem dX6_come_150 : decode cX6_come 150 = .ok (.iconst 0, 1) := by decide +kernel
theorem dX6_come_151 : decode cX6_come 151 = .ok (.goto 10, 3) := by decide +kernel
theorem dX6_come_154 : decode cX6_come 154 = .ok (.aload_n 0, 1) := by decide +kernel
theorem dX6_come_155 : decode cX6_come 155 = .ok (.getfield 179, 3) := by decide +kernel
theorem dX6_come_158 : decode cX6_come 158 = .ok (.iload 5, 2) := by decide +kernel
theorem dX6_come_160 : decode cX6_come 160 = .ok (.isub, 1) := by decide +kernel
theorem dX6_come_161 : decode cX6_come 161 = .ok (.putfield 179, 3) := by decide +kernel
theorem dX6_come_164 : decode cX6_come 164 = .ok (.goto 31, 3) := by decide +kernel
theorem dX6_come_167 : decode cX6_come 167 = .ok (.aload_n 0, 1) := by decide +kernel
theorem dX6_come_168 : decode cX6_come 168 = .ok (.aload_n 0, 1) := by decide +kernel
theorem dX6_come_169 : decode cX6_come 169 = .ok (.getfield 179, 3) := by decide +kernel
theorem dX6_come_172 : decode cX6_come 172 = .ok (.iload 5, 2) := by decide +kernel
theorem dX6_come_174 : decode cX6_come 174 = .ok (.iadd, 1) := by decide +kernel
theorem dX6_come_175 : decode cX6_come 175 = .ok (.bipush 9, 2) := by decide +kernel
theorem dX6_come_177 : decode cX6_come 177 = .ok (.if_icmp .le 8, 3) := by decide +kernel
theorem dX6_come_180 : decode cX6_come 180 = .ok (.bipush 9, 2) := by decide +kernel
theorem dX6_come_182 : decode cX6_come 182 = .ok (.goto 10, 3) := by decide +kernel
theorem dX6_come_185 : decode cX6_come 185 = .ok (.aload_n 0, 1) := by decide +kernel
theorem dX6_come_186 : decode cX6_come 186 = .ok (.getfield 179, 3) := by decide +kernel
theorem dX6_come_189 : decode cX6_come 189 = .ok (.iload 5, 2) := by decide +kernel
theorem dX6_come_191 : decode cX6_come 191 = .ok (.iadd, 1) := by decide +kernel
theorem dX6_come_192 : decode cX6_come 192 = .ok (.putfield 179, 3) := by decide +kernel
theorem dX6_come_195 : decode cX6_come 195 = .ok (.iinc 4 1, 3) := by decide +kernel
theorem dX6_come_198 : decode cX6_come 198 = .ok (.goto (-185), 3) := by decide +kernel
theorem dX6_come_201 : decode cX6_come 201 = .ok (.aload_n 0, 1) := by decide +kernel
theorem dX6_come_202 : decode cX6_come 202 = .ok (.getfield 179, 3) := by decide +kernel
theorem dX6_come_205 : decode cX6_come 205 = .ok (.ifCond .le 7, 3) := by decide +kernel
theorem dX6_come_208 : decode cX6_come 208 = .ok (.iconst 1, 1) := by decide +kernel
theorem dX6_come_209 : decode cX6_come 209 = .ok (.goto 4, 3) := by decide +kernel
theorem dX6_come_212 : decode cX6_come 212 = .ok (.iconst 0, 1) := by decide +kernel
theorem dX6_come_213 : decode cX6_come 213 = .ok (.ireturn, 1) := by decide +kernel
theorem dX6_stateOf_0 : decode cX6_stateOf 0 = .ok (.iload_n 0, 1) := by decide +kernel
theorem dX6_stateOf_1 : decode cX6_stateOf 1 = .ok (.sipush 256, 3) := by decide +kernel
theorem dX6_stateOf_4 : decode cX6_stateOf 4 = .ok (.imul, 1) := by decide +kernel
theorem dX6_stateOf_5 : decode cX6_stateOf 5 = .ok (.iload_n 1, 1) := by decide +kernel
theorem dX6_stateOf_6 : decode cX6_stateOf 6 = .ok (.iadd, 1) := by decide +kernel
theorem dX6_stateOf_7 : decode cX6_stateOf 7 = .ok (.bipush 10, 2) := by decide +kernel
theorem dX6_stateOf_9 : decode cX6_stateOf 9 = .ok (.imul, 1) := by decide +kernel
theorem dX6_stateOf_10 : decode cX6_stateOf 10 = .ok (.iload_n 2, 1) := by decide +kernel
theorem dX6_stateOf_11 : decode cX6_stateOf 11 = .ok (.iadd, 1) := by decide +kernel
theorem dX6_stateOf_12 : decode cX6_stateOf 12 = .ok (.ireturn, 1) := by decide +kernel
theorem dX6_partOf_0 : decode cX6_partOf 0 = .ok (.iload_n 0, 1) := by decide +kernel
theorem dX6_partOf_1 : decode cX6_partOf 1 = .ok (.sipush 2560, 3) := by decide +kernel
theorem dX6_partOf_4 : decode cX6_partOf 4 = .ok (.idiv, 1) := by decide +kernel
theorem dX6_partOf_5 : decode cX6_partOf 5 = .ok (.ireturn, 1) := by decide +kernel
theorem dX6_thingsOf_0 : decode cX6_thingsOf 0 = .ok (.iload_n 0, 1) := by decide +kernel
theorem dX6_thingsOf_1 : decode cX6_thingsOf 1 = .ok (.bipush 10, 2) := by decide +kernel
theorem dX6_thingsOf_3 : decode cX6_thingsOf 3 = .ok (.idiv, 1) := by decide +kernel
theorem dX6_thingsOf_4 : decode cX6_thingsOf 4 = .ok (.sipush 256, 3) := by decide +kernel
theorem dX6_thingsOf_7 : decode cX6_thingsOf 7 = .ok (.irem, 1) := by decide +kernel
theorem dX6_thingsOf_8 : decode cX6_thingsOf 8 = .ok (.ireturn, 1) := by decide +kernel
theorem dX6_healthOf_0 : decode cX6_healthOf 0 = .ok (.iload_n 0, 1) := by decide +kernel
theorem dX6_healthOf_1 : decode cX6_healthOf 1 = .ok (.bipush 10, 2) := by decide +kernel
theorem dX6_healthOf_3 : decode cX6_healthOf 3 = .ok (.irem, 1) := by decide +kernel
theorem dX6_healthOf_4 : decode cX6_healthOf 4 = .ok (.ireturn, 1) := by decide +kernel
theorem dX6_stateAt_0 : decode cX6_stateAt 0 = .ok (.iload_n 1, 1) := by decide +kernel
theorem dX6_stateAt_1 : decode cX6_stateAt 1 = .ok (.aload_n 0, 1) := by decide +kernel
theorem dX6_stateAt_2 : decode cX6_stateAt 2 = .ok (.getfield 33, 3) := by decide +kernel
theorem dX6_stateAt_5 : decode cX6_stateAt 5 = .ok (.if_icmp .eq 26, 3) := by decide +kernel
theorem dX6_stateAt_8 : decode cX6_stateAt 8 = .ok (.aload_n 0, 1) := by decide +kernel
theorem dX6_stateAt_9 : decode cX6_stateAt 9 = .ok (.iload_n 1, 1) := by decide +kernel
theorem dX6_stateAt_10 : decode cX6_stateAt 10 = .ok (.iload_n 2, 1) := by decide +kernel
theorem dX6_stateAt_11 : decode cX6_stateAt 11 = .ok (.iload_n 3, 1) := by decide +kernel
theorem dX6_stateAt_12 : decode cX6_stateAt 12 = .ok (.invokevirtual 182, 3) := by decide +kernel
theorem dX6_stateAt_15 : decode cX6_stateAt 15 = .ok (.ifCond .eq 16, 3) := by decide +kernel
theorem dX6_stateAt_18 : decode cX6_stateAt 18 = .ok (.aload_n 0, 1) := by decide +kernel
theorem dX6_stateAt_19 : decode cX6_stateAt 19 = .ok (.getfield 7, 3) := by decide +kernel
theorem dX6_stateAt_22 : decode cX6_stateAt 22 = .ok (.bipush 8, 2) := by decide +kernel
theorem dX6_stateAt_24 : decode cX6_stateAt 24 = .ok (.iload_n 1, 1) := by decide +kernel
theorem dX6_stateAt_25 : decode cX6_stateAt 25 = .ok (.iadd, 1) := by decide +kernel
theorem dX6_stateAt_26 : decode cX6_stateAt 26 = .ok (.iaload, 1) := by decide +kernel
theorem dX6_stateAt_27 : decode cX6_stateAt 27 = .ok (.iconst 2, 1) := by decide +kernel
theorem dX6_stateAt_28 : decode cX6_stateAt 28 = .ok (.if_icmp .ne 6, 3) := by decide +kernel
theorem dX6_stateAt_31 : decode cX6_stateAt 31 = .ok (.bipush (-2), 2) := by decide +kernel
theorem dX6_stateAt_33 : decode cX6_stateAt 33 = .ok (.ireturn, 1) := by decide +kernel
theorem dX6_stateAt_34 : decode cX6_stateAt 34 = .ok (.iload_n 1, 1) := by decide +kernel
theorem dX6_stateAt_35 : decode cX6_stateAt 35 = .ok (.aload_n 0, 1) := by decide +kernel
theorem dX6_stateAt_36 : decode cX6_stateAt 36 = .ok (.getfield 176, 3) := by decide +kernel
theorem dX6_stateAt_39 : decode cX6_stateAt 39 = .ok (.aload_n 0, 1) := by decide +kernel
theorem dX6_stateAt_40 : decode cX6_stateAt 40 = .ok (.getfield 179, 3) := by decide +kernel
theorem dX6_stateAt_43 : decode cX6_stateAt 43 = .ok (.invokestatic 186, 3) := by decide +kernel
theorem dX6_stateAt_46 : decode cX6_stateAt 46 = .ok (.ireturn, 1) := by decide +kernel
theorem dX6_isOpenChoice_0 : decode cX6_isOpenChoice 0 = .ok (.aload_n 0, 1) := by decide +kernel
theorem dX6_isOpenChoice_1 : decode cX6_isOpenChoice 1 = .ok (.getfield 7, 3) := by decide +kernel
theorem dX6_isOpenChoice_4 : decode cX6_isOpenChoice 4 = .ok (.sipush 512, 3) := by decide +kernel
theorem dX6_isOpenChoice_7 : decode cX6_isOpenChoice 7 = .ok (.bipush 6, 2) := by decide +kernel
theorem dX6_isOpenChoice_9 : decode cX6_isOpenChoice 9 = .ok (.iload_n 1, 1) := by decide +kernel
theorem dX6_isOpenChoice_10 : decode cX6_isOpenChoice 10 = .ok (.imul, 1) := by decide +kernel
theorem dX6_isOpenChoice_11 : decode cX6_isOpenChoice 11 = .ok (.iadd, 1) := by decide +kernel
theorem dX6_isOpenChoice_12 : decode cX6_isOpenChoice 12 = .ok (.iload_n 2, 1) := by decide +kernel
theorem dX6_isOpenChoice_13 : decode cX6_isOpenChoice 13 = .ok (.iadd, 1) := by decide +kernel
theorem dX6_isOpenChoice_14 : decode cX6_isOpenChoice 14 = .ok (.iaload, 1) := by decide +kernel
theorem dX6_isOpenChoice_15 : decode cX6_isOpenChoice 15 = .ok (.istore 4, 2) := by decide +kernel
theorem dX6_isOpenChoice_17 : decode cX6_isOpenChoice 17 = .ok (.aload_n 0, 1) := by decide +kernel
theorem dX6_isOpenChoice_18 : decode cX6_isOpenChoice 18 = .ok (.getfield 7, 3) := by decide +kernel
theorem dX6_isOpenChoice_21 : decode cX6_isOpenChoice 21 = .ok (.sipush 656, 3) := by decide +kernel
theorem dX6_isOpenChoice_24 : decode cX6_isOpenChoice 24 = .ok (.bipush 6, 2) := by decide +kernel
theorem dX6_isOpenChoice_26 : decode cX6_isOpenChoice 26 = .ok (.iload_n 1, 1) := by decide +kernel
theorem dX6_isOpenChoice_27 : decode cX6_isOpenChoice 27 = .ok (.imul, 1) := by decide +kernel
theorem dX6_isOpenChoice_28 : decode cX6_isOpenChoice 28 = .ok (.iadd, 1) := by decide +kernel
theorem dX6_isOpenChoice_29 : decode cX6_isOpenChoice 29 = .ok (.iload_n 2, 1) := by decide +kernel
theorem dX6_isOpenChoice_30 : decode cX6_isOpenChoice 30 = .ok (.iadd, 1) := by decide +kernel
theorem dX6_isOpenChoice_31 : decode cX6_isOpenChoice 31 = .ok (.iaload, 1) := by decide +kernel
theorem dX6_isOpenChoice_32 : decode cX6_isOpenChoice 32 = .ok (.istore 5, 2) := by decide +kernel
theorem dX6_isOpenChoice_34 : decode cX6_isOpenChoice 34 = .ok (.iload 4, 2) := by decide +kernel
theorem dX6_isOpenChoice_36 : decode cX6_isOpenChoice 36 = .ok (.ifCond .lt 12, 3) := by decide +kernel
theorem dX6_isOpenChoice_39 : decode cX6_isOpenChoice 39 = .ok (.iload_n 3, 1) := by decide +kernel
theorem dX6_isOpenChoice_40 : decode cX6_isOpenChoice 40 = .ok (.iload 4, 2) := by decide +kernel
theorem dX6_isOpenChoice_42 : decode cX6_isOpenChoice 42 = .ok (.invokestatic 190, 3) := by decide +kernel
theorem dX6_isOpenChoice_45 : decode cX6_isOpenChoice 45 = .ok (.ifCond .eq 21, 3) := by decide +kernel
theorem dX6_isOpenChoice_48 : decode cX6_isOpenChoice 48 = .ok (.iload 5, 2) := by decide +kernel
theorem dX6_isOpenChoice_50 : decode cX6_isOpenChoice 50 = .ok (.ifCond .lt 12, 3) := by decide +kernel
theorem dX6_isOpenChoice_53 : decode cX6_isOpenChoice 53 = .ok (.iload_n 3, 1) := by decide +kernel
theorem dX6_isOpenChoice_54 : decode cX6_isOpenChoice 54 = .ok (.iload 5, 2) := by decide +kernel
theorem dX6_isOpenChoice_56 : decode cX6_isOpenChoice 56 = .ok (.invokestatic 190, 3) := by decide +kernel
theorem dX6_isOpenChoice_59 : decode cX6_isOpenChoice 59 = .ok (.ifCond .ne 7, 3) := by decide +kernel
theorem dX6_isOpenChoice_62 : decode cX6_isOpenChoice 62 = .ok (.iconst 1, 1) := by decide +kernel
theorem dX6_isOpenChoice_63 : decode cX6_isOpenChoice 63 = .ok (.goto 4, 3) := by decide +kernel
theorem dX6_isOpenChoice_66 : decode cX6_isOpenChoice 66 = .ok (.iconst 0, 1) := by decide +kernel
theorem dX6_isOpenChoice_67 : decode cX6_isOpenChoice 67 = .ok (.ireturn, 1) := by decide +kernel
theorem dX6_waysOf_0 : decode cX6_waysOf 0 = .ok (.iload_n 1, 1) := by decide +kernel
theorem dX6_waysOf_1 : decode cX6_waysOf 1 = .ok (.invokestatic 194, 3) := by decide +kernel
theorem dX6_waysOf_4 : decode cX6_waysOf 4 = .ok (.istore_n 2, 1) := by decide +kernel
theorem dX6_waysOf_5 : decode cX6_waysOf 5 = .ok (.aload_n 0, 1) := by decide +kernel
theorem dX6_waysOf_6 : decode cX6_waysOf 6 = .ok (.getfield 7, 3) := by decide +kernel
theorem dX6_waysOf_9 : decode cX6_waysOf 9 = .ok (.bipush 8, 2) := by decide +kernel
theorem dX6_waysOf_11 : decode cX6_waysOf 11 = .ok (.iload_n 2, 1) := by decide +kernel
theorem dX6_waysOf_12 : decode cX6_waysOf 12 = .ok (.iadd, 1) := by decide +kernel
theorem dX6_waysOf_13 : decode cX6_waysOf 13 = .ok (.iaload, 1) := by decide +kernel
theorem dX6_waysOf_14 : decode cX6_waysOf 14 = .ok (.iconst 3, 1) := by decide +kernel
theorem dX6_waysOf_15 : decode cX6_waysOf 15 = .ok (.if_icmp .ne 7, 3) := by decide +kernel
theorem dX6_waysOf_18 : decode cX6_waysOf 18 = .ok (.iconst 2, 1) := by decide +kernel
theorem dX6_waysOf_19 : decode cX6_waysOf 19 = .ok (.goto 28, 3) := by decide +kernel
theorem dX6_waysOf_22 : decode cX6_waysOf 22 = .ok (.aload_n 0, 1) := by decide +kernel
theorem dX6_waysOf_23 : decode cX6_waysOf 23 = .ok (.getfield 7, 3) := by decide +kernel
theorem dX6_waysOf_26 : decode cX6_waysOf 26 = .ok (.bipush 8, 2) := by decide +kernel
theorem dX6_waysOf_28 : decode cX6_waysOf 28 = .ok (.iload_n 2, 1) := by decide +kernel
theorem dX6_waysOf_29 : decode cX6_waysOf 29 = .ok (.iadd, 1) := by decide +kernel
theorem dX6_waysOf_30 : decode cX6_waysOf 30 = .ok (.iaload, 1) := by decide +kernel
theorem dX6_waysOf_31 : decode cX6_waysOf 31 = .ok (.ifCond .ne 15, 3) := by decide +kernel
theorem dX6_waysOf_34 : decode cX6_waysOf 34 = .ok (.aload_n 0, 1) := by decide +kernel
theorem dX6_waysOf_35 : decode cX6_waysOf 35 = .ok (.getfield 7, 3) := by decide +kernel
theorem dX6_waysOf_38 : decode cX6_waysOf 38 = .ok (.bipush 56, 2) := by decide +kernel
theorem dX6_waysOf_40 : decode cX6_waysOf 40 = .ok (.iload_n 2, 1) := by decide +kernel
theorem dX6_waysOf_41 : decode cX6_waysOf 41 = .ok (.iadd, 1) := by decide +kernel
theorem dX6_waysOf_42 : decode cX6_waysOf 42 = .ok (.iaload, 1) := by decide +kernel
theorem dX6_waysOf_43 : decode cX6_waysOf 43 = .ok (.goto 4, 3) := by decide +kernel
theorem dX6_waysOf_46 : decode cX6_waysOf 46 = .ok (.iconst 0, 1) := by decide +kernel
theorem dX6_waysOf_47 : decode cX6_waysOf 47 = .ok (.ireturn, 1) := by decide +kernel
theorem dX6_isWay_0 : decode cX6_isWay 0 = .ok (.iload_n 1, 1) := by decide +kernel
theorem dX6_isWay_1 : decode cX6_isWay 1 = .ok (.invokestatic 194, 3) := by decide +kernel
theorem dX6_isWay_4 : decode cX6_isWay 4 = .ok (.istore_n 3, 1) := by decide +kernel
theorem dX6_isWay_5 : decode cX6_isWay 5 = .ok (.aload_n 0, 1) := by decide +kernel
theorem dX6_isWay_6 : decode cX6_isWay 6 = .ok (.getfield 7, 3) := by decide +kernel
theorem dX6_isWay_9 : decode cX6_isWay 9 = .ok (.bipush 8, 2) := by decide +kernel
theorem dX6_isWay_11 : decode cX6_isWay 11 = .ok (.iload_n 3, 1) := by decide +kernel
theorem dX6_isWay_12 : decode cX6_isWay 12 = .ok (.iadd, 1) := by decide +kernel
theorem dX6_isWay_13 : decode cX6_isWay 13 = .ok (.iaload, 1) := by decide +kernel
theorem dX6_isWay_14 : decode cX6_isWay 14 = .ok (.iconst 3, 1) := by decide +kernel
theorem dX6_isWay_15 : decode cX6_isWay 15 = .ok (.if_icmp .eq 16, 3) := by decide +kernel
theorem dX6_isWay_18 : decode cX6_isWay 18 = .ok (.aload_n 0, 1) := by decide +kernel
theorem dX6_isWay_19 : decode cX6_isWay 19 = .ok (.iload_n 3, 1) := by decide +kernel
theorem dX6_isWay_20 : decode cX6_isWay 20 = .ok (.iload_n 2, 1) := by decide +kernel
theorem dX6_isWay_21 : decode cX6_isWay 21 = .ok (.iload_n 1, 1) := by decide +kernel
theorem dX6_isWay_22 : decode cX6_isWay 22 = .ok (.invokestatic 197, 3) := by decide +kernel
theorem dX6_isWay_25 : decode cX6_isWay 25 = .ok (.invokevirtual 200, 3) := by decide +kernel
theorem dX6_isWay_28 : decode cX6_isWay 28 = .ok (.ifCond .eq 7, 3) := by decide +kernel
theorem dX6_isWay_31 : decode cX6_isWay 31 = .ok (.iconst 1, 1) := by decide +kernel
theorem dX6_isWay_32 : decode cX6_isWay 32 = .ok (.goto 4, 3) := by decide +kernel
theorem dX6_isWay_35 : decode cX6_isWay 35 = .ok (.iconst 0, 1) := by decide +kernel
theorem dX6_isWay_36 : decode cX6_isWay 36 = .ok (.ireturn, 1) := by decide +kernel
theorem dX6_goalOf_0 : decode cX6_goalOf 0 = .ok (.iload_n 1, 1) := by decide +kernel
theorem dX6_goalOf_1 : decode cX6_goalOf 1 = .ok (.invokestatic 194, 3) := by decide +kernel
theorem dX6_goalOf_4 : decode cX6_goalOf 4 = .ok (.istore_n 3, 1) := by decide +kernel
theorem dX6_goalOf_5 : decode cX6_goalOf 5 = .ok (.aload_n 0, 1) := by decide +kernel
theorem dX6_goalOf_6 : decode cX6_goalOf 6 = .ok (.getfield 7, 3) := by decide +kernel
theorem dX6_goalOf_9 : decode cX6_goalOf 9 = .ok (.bipush 8, 2) := by decide +kernel
theorem dX6_goalOf_11 : decode cX6_goalOf 11 = .ok (.iload_n 3, 1) := by decide +kernel
theorem dX6_goalOf_12 : decode cX6_goalOf 12 = .ok (.iadd, 1) := by decide +kernel
theorem dX6_goalOf_13 : decode cX6_goalOf 13 = .ok (.iaload, 1) := by decide +kernel
theorem dX6_goalOf_14 : decode cX6_goalOf 14 = .ok (.iconst 3, 1) := by decide +kernel
theorem dX6_goalOf_15 : decode cX6_goalOf 15 = .ok (.if_icmp .ne 32, 3) := by decide +kernel
theorem dX6_goalOf_18 : decode cX6_goalOf 18 = .ok (.iload_n 2, 1) := by decide +kernel
theorem dX6_goalOf_19 : decode cX6_goalOf 19 = .ok (.ifCond .ne 15, 3) := by decide +kernel
theorem dX6_goalOf_22 : decode cX6_goalOf 22 = .ok (.aload_n 0, 1) := by decide +kernel
theorem dX6_goalOf_23 : decode cX6_goalOf 23 = .ok (.getfield 7, 3) := by decide +kernel
theorem dX6_goalOf_26 : decode cX6_goalOf 26 = .ok (.bipush 104, 2) := by decide +kernel
theorem dX6_goalOf_28 : decode cX6_goalOf 28 = .ok (.iload_n 3, 1) := by decide +kernel
theorem dX6_goalOf_29 : decode cX6_goalOf 29 = .ok (.iadd, 1) := by decide +kernel
theorem dX6_goalOf_30 : decode cX6_goalOf 30 = .ok (.iaload, 1) := by decide +kernel
theorem dX6_goalOf_31 : decode cX6_goalOf 31 = .ok (.goto 31, 3) := by decide +kernel
theorem dX6_goalOf_34 : decode cX6_goalOf 34 = .ok (.aload_n 0, 1) := by decide +kernel
theorem dX6_goalOf_35 : decode cX6_goalOf 35 = .ok (.getfield 7, 3) := by decide +kernel
theorem dX6_goalOf_38 : decode cX6_goalOf 38 = .ok (.sipush 128, 3) := by decide +kernel
theorem dX6_goalOf_41 : decode cX6_goalOf 41 = .ok (.iload_n 3, 1) := by decide +kernel
theorem dX6_goalOf_42 : decode cX6_goalOf 42 = .ok (.iadd, 1) := by decide +kernel
theorem dX6_goalOf_43 : decode cX6_goalOf 43 = .ok (.iaload, 1) := by decide +kernel
theorem dX6_goalOf_44 : decode cX6_goalOf 44 = .ok (.goto 18, 3) := by decide +kernel
theorem dX6_goalOf_47 : decode cX6_goalOf 47 = .ok (.aload_n 0, 1) := by decide +kernel
theorem dX6_goalOf_48 : decode cX6_goalOf 48 = .ok (.getfield 7, 3) := by decide +kernel
theorem dX6_goalOf_51 : decode cX6_goalOf 51 = .ok (.sipush 368, 3) := by decide +kernel
theorem dX6_goalOf_54 : decode cX6_goalOf 54 = .ok (.bipush 6, 2) := by decide +kernel
theorem dX6_goalOf_56 : decode cX6_goalOf 56 = .ok (.iload_n 3, 1) := by decide +kernel
theorem dX6_goalOf_57 : decode cX6_goalOf 57 = .ok (.imul, 1) := by decide +kernel
theorem dX6_goalOf_58 : decode cX6_goalOf 58 = .ok (.iadd, 1) := by decide +kernel
theorem dX6_goalOf_59 : decode cX6_goalOf 59 = .ok (.iload_n 2, 1) := by decide +kernel
theorem dX6_goalOf_60 : decode cX6_goalOf 60 = .ok (.iadd, 1) := by decide +kernel
theorem dX6_goalOf_61 : decode cX6_goalOf 61 = .ok (.iaload, 1) := by decide +kernel
theorem dX6_goalOf_62 : decode cX6_goalOf 62 = .ok (.ireturn, 1) := by decide +kernel
theorem dX6_wayTo_0 : decode cX6_wayTo 0 = .ok (.aload_n 0, 1) := by decide +kernel
theorem dX6_wayTo_1 : decode cX6_wayTo 1 = .ok (.aload_n 0, 1) := by decide +kernel
theorem dX6_wayTo_2 : decode cX6_wayTo 2 = .ok (.iload_n 1, 1) := by decide +kernel
theorem dX6_wayTo_3 : decode cX6_wayTo 3 = .ok (.iload_n 2, 1) := by decide +kernel
theorem dX6_wayTo_4 : decode cX6_wayTo 4 = .ok (.invokevirtual 203, 3) := by decide +kernel
theorem dX6_wayTo_7 : decode cX6_wayTo 7 = .ok (.iload_n 1, 1) := by decide +kernel
theorem dX6_wayTo_8 : decode cX6_wayTo 8 = .ok (.invokestatic 197, 3) := by decide +kernel
theorem dX6_wayTo_11 : decode cX6_wayTo 11 = .ok (.iload_n 1, 1) := by decide +kernel
theorem dX6_wayTo_12 : decode cX6_wayTo 12 = .ok (.invokestatic 206, 3) := by decide +kernel
theorem dX6_wayTo_15 : decode cX6_wayTo 15 = .ok (.invokevirtual 209, 3) := by decide +kernel
theorem dX6_wayTo_18 : decode cX6_wayTo 18 = .ok (.ireturn, 1) := by decide +kernel
theorem dX6_openWays_0 : decode cX6_openWays 0 = .ok (.iconst 0, 1) := by decide +kernel
theorem dX6_openWays_1 : decode cX6_openWays 1 = .ok (.istore_n 2, 1) := by decide +kernel
theorem dX6_openWays_2 : decode cX6_openWays 2 = .ok (.iconst 0, 1) := by decide +kernel
theorem dX6_openWays_3 : decode cX6_openWays 3 = .ok (.istore_n 3, 1) := by decide +kernel
theorem dX6_openWays_4 : decode cX6_openWays 4 = .ok (.iload_n 3, 1) := by decide +kernel
theorem dX6_openWays_5 : decode cX6_openWays 5 = .ok (.aload_n 0, 1) := by decide +kernel
theorem dX6_openWays_6 : decode cX6_openWays 6 = .ok (.iload_n 1, 1) := by decide +kernel
theorem dX6_openWays_7 : decode cX6_openWays 7 = .ok (.invokevirtual 212, 3) := by decide +kernel
theorem dX6_openWays_10 : decode cX6_openWays 10 = .ok (.if_icmp .ge 23, 3) := by decide +kernel
theorem dX6_openWays_13 : decode cX6_openWays 13 = .ok (.iload_n 2, 1) := by decide +kernel
theorem dX6_openWays_14 : decode cX6_openWays 14 = .ok (.aload_n 0, 1) := by decide +kernel
theorem dX6_openWays_15 : decode cX6_openWays 15 = .ok (.iload_n 1, 1) := by decide +kernel
theorem dX6_openWays_16 : decode cX6_openWays 16 = .ok (.iload_n 3, 1) := by decide +kernel
theorem dX6_openWays_17 : decode cX6_openWays 17 = .ok (.invokevirtual 215, 3) := by decide +kernel
theorem dX6_openWays_20 : decode cX6_openWays 20 = .ok (.invokestatic 218, 3) := by decide +kernel
theorem dX6_openWays_23 : decode cX6_openWays 23 = .ok (.iload_n 3, 1) := by decide +kernel
theorem dX6_openWays_24 : decode cX6_openWays 24 = .ok (.ishl, 1) := by decide +kernel
theorem dX6_openWays_25 : decode cX6_openWays 25 = .ok (.ior, 1) := by decide +kernel
theorem dX6_openWays_26 : decode cX6_openWays 26 = .ok (.istore_n 2, 1) := by decide +kernel
theorem dX6_openWays_27 : decode cX6_openWays 27 = .ok (.iinc 3 1, 3) := by decide +kernel
theorem dX6_openWays_30 : decode cX6_openWays 30 = .ok (.goto (-26), 3) := by decide +kernel
theorem dX6_openWays_33 : decode cX6_openWays 33 = .ok (.iload_n 2, 1) := by decide +kernel
theorem dX6_openWays_34 : decode cX6_openWays 34 = .ok (.ireturn, 1) := by decide +kernel
theorem dX6_standsAt_0 : decode cX6_standsAt 0 = .ok (.aload_n 0, 1) := by decide +kernel
theorem dX6_standsAt_1 : decode cX6_standsAt 1 = .ok (.getfield 7, 3) := by decide +kernel
theorem dX6_standsAt_4 : decode cX6_standsAt 4 = .ok (.bipush 8, 2) := by decide +kernel
theorem dX6_standsAt_6 : decode cX6_standsAt 6 = .ok (.iload_n 1, 1) := by decide +kernel
theorem dX6_standsAt_7 : decode cX6_standsAt 7 = .ok (.invokestatic 194, 3) := by decide +kernel
theorem dX6_standsAt_10 : decode cX6_standsAt 10 = .ok (.iadd, 1) := by decide +kernel
theorem dX6_standsAt_11 : decode cX6_standsAt 11 = .ok (.iaload, 1) := by decide +kernel
theorem dX6_standsAt_12 : decode cX6_standsAt 12 = .ok (.iconst 1, 1) := by decide +kernel
theorem dX6_standsAt_13 : decode cX6_standsAt 13 = .ok (.if_icmp .ne 7, 3) := by decide +kernel
theorem dX6_standsAt_16 : decode cX6_standsAt 16 = .ok (.iconst 1, 1) := by decide +kernel
theorem dX6_standsAt_17 : decode cX6_standsAt 17 = .ok (.goto 16, 3) := by decide +kernel
theorem dX6_standsAt_20 : decode cX6_standsAt 20 = .ok (.aload_n 0, 1) := by decide +kernel
theorem dX6_standsAt_21 : decode cX6_standsAt 21 = .ok (.iload_n 1, 1) := by decide +kernel
theorem dX6_standsAt_22 : decode cX6_standsAt 22 = .ok (.invokevirtual 222, 3) := by decide +kernel
theorem dX6_standsAt_25 : decode cX6_standsAt 25 = .ok (.ifCond .ne 7, 3) := by decide +kernel
theorem dX6_standsAt_28 : decode cX6_standsAt 28 = .ok (.iconst 3, 1) := by decide +kernel
theorem dX6_standsAt_29 : decode cX6_standsAt 29 = .ok (.goto 4, 3) := by decide +kernel
theorem dX6_standsAt_32 : decode cX6_standsAt 32 = .ok (.iconst 0, 1) := by decide +kernel
theorem dX6_standsAt_33 : decode cX6_standsAt 33 = .ok (.ireturn, 1) := by decide +kernel
theorem dX6_beginSpread_0 : decode cX6_beginSpread 0 = .ok (.iconst 0, 1) := by decide +kernel
theorem dX6_beginSpread_1 : decode cX6_beginSpread 1 = .ok (.istore_n 1, 1) := by decide +kernel
theorem dX6_beginSpread_2 : decode cX6_beginSpread 2 = .ok (.iload_n 1, 1) := by decide +kernel
theorem dX6_beginSpread_3 : decode cX6_beginSpread 3 = .ok (.aload_n 0, 1) := by decide +kernel
theorem dX6_beginSpread_4 : decode cX6_beginSpread 4 = .ok (.getfield 173, 3) := by decide +kernel
theorem dX6_beginSpread_7 : decode cX6_beginSpread 7 = .ok (.if_icmp .ge 21, 3) := by decide +kernel
theorem dX6_beginSpread_10 : decode cX6_beginSpread 10 = .ok (.aload_n 0, 1) := by decide +kernel
theorem dX6_beginSpread_11 : decode cX6_beginSpread 11 = .ok (.getfield 43, 3) := by decide +kernel
theorem dX6_beginSpread_14 : decode cX6_beginSpread 14 = .ok (.aload_n 0, 1) := by decide +kernel
theorem dX6_beginSpread_15 : decode cX6_beginSpread 15 = .ok (.getfield 40, 3) := by decide +kernel
theorem dX6_beginSpread_18 : decode cX6_beginSpread 18 = .ok (.iload_n 1, 1) := by decide +kernel
theorem dX6_beginSpread_19 : decode cX6_beginSpread 19 = .ok (.iaload, 1) := by decide +kernel
theorem dX6_beginSpread_20 : decode cX6_beginSpread 20 = .ok (.iconst 0, 1) := by decide +kernel
theorem dX6_beginSpread_21 : decode cX6_beginSpread 21 = .ok (.iastore, 1) := by decide +kernel
theorem dX6_beginSpread_22 : decode cX6_beginSpread 22 = .ok (.iinc 1 1, 3) := by decide +kernel
theorem dX6_beginSpread_25 : decode cX6_beginSpread 25 = .ok (.goto (-23), 3) := by decide +kernel
theorem dX6_beginSpread_28 : decode cX6_beginSpread 28 = .ok (.aload_n 0, 1) := by decide +kernel
theorem dX6_beginSpread_29 : decode cX6_beginSpread 29 = .ok (.iconst 0, 1) := by decide +kernel
theorem dX6_beginSpread_30 : decode cX6_beginSpread 30 = .ok (.putfield 173, 3) := by decide +kernel
theorem dX6_beginSpread_33 : decode cX6_beginSpread 33 = .ok (.aload_n 0, 1) := by decide +kernel
theorem dX6_beginSpread_34 : decode cX6_beginSpread 34 = .ok (.iconst 0, 1) := by decide +kernel
theorem dX6_beginSpread_35 : decode cX6_beginSpread 35 = .ok (.putfield 225, 3) := by decide +kernel
theorem dX6_beginSpread_38 : decode cX6_beginSpread 38 = .ok (.return_, 1) := by decide +kernel
theorem dX6_reach_0 : decode cX6_reach 0 = .ok (.iload_n 1, 1) := by decide +kernel
theorem dX6_reach_1 : decode cX6_reach 1 = .ok (.bipush (-2), 2) := by decide +kernel
theorem dX6_reach_3 : decode cX6_reach 3 = .ok (.if_icmp .eq 41, 3) := by decide +kernel
theorem dX6_reach_6 : decode cX6_reach 6 = .ok (.aload_n 0, 1) := by decide +kernel
theorem dX6_reach_7 : decode cX6_reach 7 = .ok (.getfield 43, 3) := by decide +kernel
theorem dX6_reach_10 : decode cX6_reach 10 = .ok (.iload_n 1, 1) := by decide +kernel
theorem dX6_reach_11 : decode cX6_reach 11 = .ok (.iaload, 1) := by decide +kernel
theorem dX6_reach_12 : decode cX6_reach 12 = .ok (.ifCond .ne 32, 3) := by decide +kernel
theorem dX6_reach_15 : decode cX6_reach 15 = .ok (.aload_n 0, 1) := by decide +kernel
theorem dX6_reach_16 : decode cX6_reach 16 = .ok (.getfield 43, 3) := by decide +kernel
theorem dX6_reach_19 : decode cX6_reach 19 = .ok (.iload_n 1, 1) := by decide +kernel
theorem dX6_reach_20 : decode cX6_reach 20 = .ok (.iload_n 2, 1) := by decide +kernel
theorem dX6_reach_21 : decode cX6_reach 21 = .ok (.iconst 1, 1) := by decide +kernel
theorem dX6_reach_22 : decode cX6_reach 22 = .ok (.iadd, 1) := by decide +kernel
theorem dX6_reach_23 : decode cX6_reach 23 = .ok (.iastore, 1) := by decide +kernel
theorem dX6_reach_24 : decode cX6_reach 24 = .ok (.aload_n 0, 1) := by decide +kernel
theorem dX6_reach_25 : decode cX6_reach 25 = .ok (.getfield 40, 3) := by decide +kernel
theorem dX6_reach_28 : decode cX6_reach 28 = .ok (.aload_n 0, 1) := by decide +kernel
theorem dX6_reach_29 : decode cX6_reach 29 = .ok (.getfield 173, 3) := by decide +kernel
theorem dX6_reach_32 : decode cX6_reach 32 = .ok (.iload_n 1, 1) := by decide +kernel
theorem dX6_reach_33 : decode cX6_reach 33 = .ok (.iastore, 1) := by decide +kernel
theorem dX6_reach_34 : decode cX6_reach 34 = .ok (.aload_n 0, 1) := by decide +kernel
theorem dX6_reach_35 : decode cX6_reach 35 = .ok (.dup, 1) := by decide +kernel
theorem dX6_reach_36 : decode cX6_reach 36 = .ok (.getfield 173, 3) := by decide +kernel
theorem dX6_reach_39 : decode cX6_reach 39 = .ok (.iconst 1, 1) := by decide +kernel
theorem dX6_reach_40 : decode cX6_reach 40 = .ok (.iadd, 1) := by decide +kernel
theorem dX6_reach_41 : decode cX6_reach 41 = .ok (.putfield 173, 3) := by decide +kernel
theorem dX6_reach_44 : decode cX6_reach 44 = .ok (.return_, 1) := by decide +kernel
theorem dX6_spreadAll_0 : decode cX6_spreadAll 0 = .ok (.iconst 0, 1) := by decide +kernel
theorem dX6_spreadAll_1 : decode cX6_spreadAll 1 = .ok (.istore_n 1, 1) := by decide +kernel
theorem dX6_spreadAll_2 : decode cX6_spreadAll 2 = .ok (.iload_n 1, 1) := by decide +kernel
theorem dX6_spreadAll_3 : decode cX6_spreadAll 3 = .ok (.aload_n 0, 1) := by decide +kernel
theorem dX6_spreadAll_4 : decode cX6_spreadAll 4 = .ok (.getfield 173, 3) := by decide +kernel
theorem dX6_spreadAll_7 : decode cX6_spreadAll 7 = .ok (.if_icmp .ge 111, 3) := by decide +kernel
theorem dX6_spreadAll_10 : decode cX6_spreadAll 10 = .ok (.aload_n 0, 1) := by decide +kernel
theorem dX6_spreadAll_11 : decode cX6_spreadAll 11 = .ok (.getfield 40, 3) := by decide +kernel
theorem dX6_spreadAll_14 : decode cX6_spreadAll 14 = .ok (.iload_n 1, 1) := by decide +kernel
theorem dX6_spreadAll_15 : decode cX6_spreadAll 15 = .ok (.iaload, 1) := by decide +kernel
theorem dX6_spreadAll_16 : decode cX6_spreadAll 16 = .ok (.istore_n 2, 1) := by decide +kernel
theorem dX6_spreadAll_17 : decode cX6_spreadAll 17 = .ok (.iconst 0, 1) := by decide +kernel
theorem dX6_spreadAll_18 : decode cX6_spreadAll 18 = .ok (.istore_n 3, 1) := by decide +kernel
theorem dX6_spreadAll_19 : decode cX6_spreadAll 19 = .ok (.iload_n 3, 1) := by decide +kernel
theorem dX6_spreadAll_20 : decode cX6_spreadAll 20 = .ok (.aload_n 0, 1) := by decide +kernel
theorem dX6_spreadAll_21 : decode cX6_spreadAll 21 = .ok (.iload_n 2, 1) := by decide +kernel
theorem dX6_spreadAll_22 : decode cX6_spreadAll 22 = .ok (.invokevirtual 212, 3) := by decide +kernel
theorem dX6_spreadAll_25 : decode cX6_spreadAll 25 = .ok (.if_icmp .ge 87, 3) := by decide +kernel
theorem dX6_spreadAll_28 : decode cX6_spreadAll 28 = .ok (.aload_n 0, 1) := by decide +kernel
theorem dX6_spreadAll_29 : decode cX6_spreadAll 29 = .ok (.iload_n 2, 1) := by decide +kernel
theorem dX6_spreadAll_30 : decode cX6_spreadAll 30 = .ok (.invokevirtual 228, 3) := by decide +kernel
theorem dX6_spreadAll_33 : decode cX6_spreadAll 33 = .ok (.ifCond .ne 79, 3) := by decide +kernel
theorem dX6_spreadAll_36 : decode cX6_spreadAll 36 = .ok (.aload_n 0, 1) := by decide +kernel
theorem dX6_spreadAll_37 : decode cX6_spreadAll 37 = .ok (.iload_n 2, 1) := by decide +kernel
theorem dX6_spreadAll_38 : decode cX6_spreadAll 38 = .ok (.iload_n 3, 1) := by decide +kernel
theorem dX6_spreadAll_39 : decode cX6_spreadAll 39 = .ok (.invokevirtual 215, 3) := by decide +kernel
theorem dX6_spreadAll_42 : decode cX6_spreadAll 42 = .ok (.ifCond .eq 64, 3) := by decide +kernel
theorem dX6_spreadAll_45 : decode cX6_spreadAll 45 = .ok (.aload_n 0, 1) := by decide +kernel
theorem dX6_spreadAll_46 : decode cX6_spreadAll 46 = .ok (.iload_n 2, 1) := by decide +kernel
theorem dX6_spreadAll_47 : decode cX6_spreadAll 47 = .ok (.iload_n 3, 1) := by decide +kernel
theorem dX6_spreadAll_48 : decode cX6_spreadAll 48 = .ok (.invokevirtual 231, 3) := by decide +kernel
theorem dX6_spreadAll_51 : decode cX6_spreadAll 51 = .ok (.istore 4, 2) := by decide +kernel
theorem dX6_spreadAll_53 : decode cX6_spreadAll 53 = .ok (.aload_n 0, 1) := by decide +kernel
theorem dX6_spreadAll_54 : decode cX6_spreadAll 54 = .ok (.iload_n 2, 1) := by decide +kernel
theorem dX6_spreadAll_55 : decode cX6_spreadAll 55 = .ok (.iload_n 3, 1) := by decide +kernel
theorem dX6_spreadAll_56 : decode cX6_spreadAll 56 = .ok (.invokevirtual 203, 3) := by decide +kernel
theorem dX6_spreadAll_59 : decode cX6_spreadAll 59 = .ok (.istore 5, 2) := by decide +kernel
theorem dX6_spreadAll_61 : decode cX6_spreadAll 61 = .ok (.aload_n 0, 1) := by decide +kernel
theorem dX6_spreadAll_62 : decode cX6_spreadAll 62 = .ok (.dup, 1) := by decide +kernel
theorem dX6_spreadAll_63 : decode cX6_spreadAll 63 = .ok (.getfield 225, 3) := by decide +kernel
theorem dX6_spreadAll_66 : decode cX6_spreadAll 66 = .ok (.iload 4, 2) := by decide +kernel
theorem dX6_spreadAll_68 : decode cX6_spreadAll 68 = .ok (.bipush (-2), 2) := by decide +kernel
theorem dX6_spreadAll_70 : decode cX6_spreadAll 70 = .ok (.if_icmp .ne 19, 3) := by decide +kernel
theorem dX6_spreadAll_73 : decode cX6_spreadAll 73 = .ok (.iload 5, 2) := by decide +kernel
theorem dX6_spreadAll_75 : decode cX6_spreadAll 75 = .ok (.aload_n 0, 1) := by decide +kernel
theorem dX6_spreadAll_76 : decode cX6_spreadAll 76 = .ok (.getfield 33, 3) := by decide +kernel
theorem dX6_spreadAll_79 : decode cX6_spreadAll 79 = .ok (.if_icmp .eq 10, 3) := by decide +kernel
theorem dX6_spreadAll_82 : decode cX6_spreadAll 82 = .ok (.iconst 1, 1) := by decide +kernel
theorem dX6_spreadAll_83 : decode cX6_spreadAll 83 = .ok (.iload 5, 2) := by decide +kernel
theorem dX6_spreadAll_85 : decode cX6_spreadAll 85 = .ok (.ishl, 1) := by decide +kernel
theorem dX6_spreadAll_86 : decode cX6_spreadAll 86 = .ok (.goto 4, 3) := by decide +kernel
theorem dX6_spreadAll_89 : decode cX6_spreadAll 89 = .ok (.iconst 0, 1) := by decide +kernel
theorem dX6_spreadAll_90 : decode cX6_spreadAll 90 = .ok (.ior, 1) := by decide +kernel
theorem dX6_spreadAll_91 : decode cX6_spreadAll 91 = .ok (.putfield 225, 3) := by decide +kernel
theorem dX6_spreadAll_94 : decode cX6_spreadAll 94 = .ok (.aload_n 0, 1) := by decide +kernel
theorem dX6_spreadAll_95 : decode cX6_spreadAll 95 = .ok (.iload 4, 2) := by decide +kernel
theorem dX6_spreadAll_97 : decode cX6_spreadAll 97 = .ok (.aload_n 0, 1) := by decide +kernel
theorem dX6_spreadAll_98 : decode cX6_spreadAll 98 = .ok (.getfield 43, 3) := by decide +kernel
theorem dX6_spreadAll_101 : decode cX6_spreadAll 101 = .ok (.iload_n 2, 1) := by decide +kernel
theorem dX6_spreadAll_102 : decode cX6_spreadAll 102 = .ok (.iaload, 1) := by decide +kernel
theorem dX6_spreadAll_103 : decode cX6_spreadAll 103 = .ok (.invokevirtual 234, 3) := by decide +kernel
theorem dX6_spreadAll_106 : decode cX6_spreadAll 106 = .ok (.iinc 3 1, 3) := by decide +kernel
theorem dX6_spreadAll_109 : decode cX6_spreadAll 109 = .ok (.goto (-90), 3) := by decide +kernel
theorem dX6_spreadAll_112 : decode cX6_spreadAll 112 = .ok (.iinc 1 1, 3) := by decide +kernel
theorem dX6_spreadAll_115 : decode cX6_spreadAll 115 = .ok (.goto (-113), 3) := by decide +kernel
theorem dX6_spreadAll_118 : decode cX6_spreadAll 118 = .ok (.return_, 1) := by decide +kernel
theorem dX6_spreadFrom_0 : decode cX6_spreadFrom 0 = .ok (.aload_n 0, 1) := by decide +kernel
theorem dX6_spreadFrom_1 : decode cX6_spreadFrom 1 = .ok (.invokevirtual 238, 3) := by decide +kernel
theorem dX6_spreadFrom_4 : decode cX6_spreadFrom 4 = .ok (.aload_n 0, 1) := by decide +kernel
theorem dX6_spreadFrom_5 : decode cX6_spreadFrom 5 = .ok (.iload_n 1, 1) := by decide +kernel
theorem dX6_spreadFrom_6 : decode cX6_spreadFrom 6 = .ok (.iconst 0, 1) := by decide +kernel
theorem dX6_spreadFrom_7 : decode cX6_spreadFrom 7 = .ok (.invokevirtual 234, 3) := by decide +kernel
theorem dX6_spreadFrom_10 : decode cX6_spreadFrom 10 = .ok (.aload_n 0, 1) := by decide +kernel
theorem dX6_spreadFrom_11 : decode cX6_spreadFrom 11 = .ok (.invokevirtual 241, 3) := by decide +kernel
theorem dX6_spreadFrom_14 : decode cX6_spreadFrom 14 = .ok (.return_, 1) := by decide +kernel
theorem dX6_spreadFromBeginning_0 : decode cX6_spreadFromBeginning 0 = .ok (.aload_n 0, 1) := by decide +kernel
theorem dX6_spreadFromBeginning_1 : decode cX6_spreadFromBeginning 1 = .ok (.invokevirtual 238, 3) := by decide +kernel
theorem dX6_spreadFromBeginning_4 : decode cX6_spreadFromBeginning 4 = .ok (.aload_n 0, 1) := by decide +kernel
theorem dX6_spreadFromBeginning_5 : decode cX6_spreadFromBeginning 5 = .ok (.getfield 7, 3) := by decide +kernel
theorem dX6_spreadFromBeginning_8 : decode cX6_spreadFromBeginning 8 = .ok (.iconst 0, 1) := by decide +kernel
theorem dX6_spreadFromBeginning_9 : decode cX6_spreadFromBeginning 9 = .ok (.iaload, 1) := by decide +kernel
theorem dX6_spreadFromBeginning_10 : decode cX6_spreadFromBeginning 10 = .ok (.ifCond .le 48, 3) := by decide +kernel
theorem dX6_spreadFromBeginning_13 : decode cX6_spreadFromBeginning 13 = .ok (.aload_n 0, 1) := by decide +kernel
theorem dX6_spreadFromBeginning_14 : decode cX6_spreadFromBeginning 14 = .ok (.iconst 0, 1) := by decide +kernel
theorem dX6_spreadFromBeginning_15 : decode cX6_spreadFromBeginning 15 = .ok (.iconst 0, 1) := by decide +kernel
theorem dX6_spreadFromBeginning_16 : decode cX6_spreadFromBeginning 16 = .ok (.aload_n 0, 1) := by decide +kernel
theorem dX6_spreadFromBeginning_17 : decode cX6_spreadFromBeginning 17 = .ok (.getfield 7, 3) := by decide +kernel
theorem dX6_spreadFromBeginning_20 : decode cX6_spreadFromBeginning 20 = .ok (.iconst 1, 1) := by decide +kernel
theorem dX6_spreadFromBeginning_21 : decode cX6_spreadFromBeginning 21 = .ok (.iaload, 1) := by decide +kernel
theorem dX6_spreadFromBeginning_22 : decode cX6_spreadFromBeginning 22 = .ok (.invokevirtual 209, 3) := by decide +kernel
theorem dX6_spreadFromBeginning_25 : decode cX6_spreadFromBeginning 25 = .ok (.istore_n 1, 1) := by decide +kernel
theorem dX6_spreadFromBeginning_26 : decode cX6_spreadFromBeginning 26 = .ok (.aload_n 0, 1) := by decide +kernel
theorem dX6_spreadFromBeginning_27 : decode cX6_spreadFromBeginning 27 = .ok (.iload_n 1, 1) := by decide +kernel
theorem dX6_spreadFromBeginning_28 : decode cX6_spreadFromBeginning 28 = .ok (.bipush (-2), 2) := by decide +kernel
theorem dX6_spreadFromBeginning_30 : decode cX6_spreadFromBeginning 30 = .ok (.if_icmp .ne 14, 3) := by decide +kernel
theorem dX6_spreadFromBeginning_33 : decode cX6_spreadFromBeginning 33 = .ok (.aload_n 0, 1) := by decide +kernel
theorem dX6_spreadFromBeginning_34 : decode cX6_spreadFromBeginning 34 = .ok (.getfield 33, 3) := by decide +kernel
theorem dX6_spreadFromBeginning_37 : decode cX6_spreadFromBeginning 37 = .ok (.ifCond .eq 7, 3) := by decide +kernel
theorem dX6_spreadFromBeginning_40 : decode cX6_spreadFromBeginning 40 = .ok (.iconst 1, 1) := by decide +kernel
theorem dX6_spreadFromBeginning_41 : decode cX6_spreadFromBeginning 41 = .ok (.goto 4, 3) := by decide +kernel
theorem dX6_spreadFromBeginning_44 : decode cX6_spreadFromBeginning 44 = .ok (.iconst 0, 1) := by decide +kernel
theorem dX6_spreadFromBeginning_45 : decode cX6_spreadFromBeginning 45 = .ok (.putfield 225, 3) := by decide +kernel
theorem dX6_spreadFromBeginning_48 : decode cX6_spreadFromBeginning 48 = .ok (.aload_n 0, 1) := by decide +kernel
theorem dX6_spreadFromBeginning_49 : decode cX6_spreadFromBeginning 49 = .ok (.iload_n 1, 1) := by decide +kernel
theorem dX6_spreadFromBeginning_50 : decode cX6_spreadFromBeginning 50 = .ok (.iconst 0, 1) := by decide +kernel
theorem dX6_spreadFromBeginning_51 : decode cX6_spreadFromBeginning 51 = .ok (.invokevirtual 234, 3) := by decide +kernel
theorem dX6_spreadFromBeginning_54 : decode cX6_spreadFromBeginning 54 = .ok (.aload_n 0, 1) := by decide +kernel
theorem dX6_spreadFromBeginning_55 : decode cX6_spreadFromBeginning 55 = .ok (.invokevirtual 241, 3) := by decide +kernel
theorem dX6_spreadFromBeginning_58 : decode cX6_spreadFromBeginning 58 = .ok (.return_, 1) := by decide +kernel
theorem dX6_hasWon_0 : decode cX6_hasWon 0 = .ok (.iconst 0, 1) := by decide +kernel
theorem dX6_hasWon_1 : decode cX6_hasWon 1 = .ok (.istore_n 1, 1) := by decide +kernel
theorem dX6_hasWon_2 : decode cX6_hasWon 2 = .ok (.iconst 0, 1) := by decide +kernel
theorem dX6_hasWon_3 : decode cX6_hasWon 3 = .ok (.istore_n 2, 1) := by decide +kernel
theorem dX6_hasWon_4 : decode cX6_hasWon 4 = .ok (.iload_n 2, 1) := by decide +kernel
theorem dX6_hasWon_5 : decode cX6_hasWon 5 = .ok (.aload_n 0, 1) := by decide +kernel
theorem dX6_hasWon_6 : decode cX6_hasWon 6 = .ok (.getfield 173, 3) := by decide +kernel
theorem dX6_hasWon_9 : decode cX6_hasWon 9 = .ok (.if_icmp .ge 33, 3) := by decide +kernel
theorem dX6_hasWon_12 : decode cX6_hasWon 12 = .ok (.iload_n 1, 1) := by decide +kernel
theorem dX6_hasWon_13 : decode cX6_hasWon 13 = .ok (.ifCond .ne 17, 3) := by decide +kernel
theorem dX6_hasWon_16 : decode cX6_hasWon 16 = .ok (.aload_n 0, 1) := by decide +kernel
theorem dX6_hasWon_17 : decode cX6_hasWon 17 = .ok (.aload_n 0, 1) := by decide +kernel
theorem dX6_hasWon_18 : decode cX6_hasWon 18 = .ok (.getfield 40, 3) := by decide +kernel
theorem dX6_hasWon_21 : decode cX6_hasWon 21 = .ok (.iload_n 2, 1) := by decide +kernel
theorem dX6_hasWon_22 : decode cX6_hasWon 22 = .ok (.iaload, 1) := by decide +kernel
theorem dX6_hasWon_23 : decode cX6_hasWon 23 = .ok (.invokevirtual 228, 3) := by decide +kernel
theorem dX6_hasWon_26 : decode cX6_hasWon 26 = .ok (.iconst 1, 1) := by decide +kernel
theorem dX6_hasWon_27 : decode cX6_hasWon 27 = .ok (.if_icmp .ne 7, 3) := by decide +kernel
theorem dX6_hasWon_30 : decode cX6_hasWon 30 = .ok (.iconst 1, 1) := by decide +kernel
theorem dX6_hasWon_31 : decode cX6_hasWon 31 = .ok (.goto 4, 3) := by decide +kernel
theorem dX6_hasWon_34 : decode cX6_hasWon 34 = .ok (.iconst 0, 1) := by decide +kernel
theorem dX6_hasWon_35 : decode cX6_hasWon 35 = .ok (.istore_n 1, 1) := by decide +kernel
theorem dX6_hasWon_36 : decode cX6_hasWon 36 = .ok (.iinc 2 1, 3) := by decide +kernel
theorem dX6_hasWon_39 : decode cX6_hasWon 39 = .ok (.goto (-35), 3) := by decide +kernel
theorem dX6_hasWon_42 : decode cX6_hasWon 42 = .ok (.iload_n 1, 1) := by decide +kernel
theorem dX6_hasWon_43 : decode cX6_hasWon 43 = .ok (.ireturn, 1) := by decide +kernel
theorem dX6_stands_0 : decode cX6_stands 0 = .ok (.aload_n 0, 1) := by decide +kernel
theorem dX6_stands_1 : decode cX6_stands 1 = .ok (.getfield 7, 3) := by decide +kernel
theorem dX6_stands_4 : decode cX6_stands 4 = .ok (.iconst 3, 1) := by decide +kernel
theorem dX6_stands_5 : decode cX6_stands 5 = .ok (.iaload, 1) := by decide +kernel
theorem dX6_stands_6 : decode cX6_stands 6 = .ok (.istore_n 1, 1) := by decide +kernel
theorem dX6_stands_7 : decode cX6_stands 7 = .ok (.aload_n 0, 1) := by decide +kernel
theorem dX6_stands_8 : decode cX6_stands 8 = .ok (.getfield 7, 3) := by decide +kernel
theorem dX6_stands_11 : decode cX6_stands 11 = .ok (.iconst 5, 1) := by decide +kernel
theorem dX6_stands_12 : decode cX6_stands 12 = .ok (.iaload, 1) := by decide +kernel
theorem dX6_stands_13 : decode cX6_stands 13 = .ok (.ifCond .eq 16, 3) := by decide +kernel
theorem dX6_stands_16 : decode cX6_stands 16 = .ok (.aload_n 0, 1) := by decide +kernel
theorem dX6_stands_17 : decode cX6_stands 17 = .ok (.getfield 7, 3) := by decide +kernel
theorem dX6_stands_20 : decode cX6_stands 20 = .ok (.bipush 8, 2) := by decide +kernel
theorem dX6_stands_22 : decode cX6_stands 22 = .ok (.iload_n 1, 1) := by decide +kernel
theorem dX6_stands_23 : decode cX6_stands 23 = .ok (.iadd, 1) := by decide +kernel
theorem dX6_stands_24 : decode cX6_stands 24 = .ok (.iaload, 1) := by decide +kernel
theorem dX6_stands_25 : decode cX6_stands 25 = .ok (.iconst 2, 1) := by decide +kernel
theorem dX6_stands_26 : decode cX6_stands 26 = .ok (.if_icmp .ne 5, 3) := by decide +kernel
theorem dX6_stands_29 : decode cX6_stands 29 = .ok (.iconst 2, 1) := by decide +kernel
theorem dX6_stands_30 : decode cX6_stands 30 = .ok (.ireturn, 1) := by decide +kernel
theorem dX6_stands_31 : decode cX6_stands 31 = .ok (.aload_n 0, 1) := by decide +kernel
theorem dX6_stands_32 : decode cX6_stands 32 = .ok (.iload_n 1, 1) := by decide +kernel
theorem dX6_stands_33 : decode cX6_stands 33 = .ok (.aload_n 0, 1) := by decide +kernel
theorem dX6_stands_34 : decode cX6_stands 34 = .ok (.getfield 7, 3) := by decide +kernel
theorem dX6_stands_37 : decode cX6_stands 37 = .ok (.iconst 4, 1) := by decide +kernel
theorem dX6_stands_38 : decode cX6_stands 38 = .ok (.iaload, 1) := by decide +kernel
theorem dX6_stands_39 : decode cX6_stands 39 = .ok (.aload_n 0, 1) := by decide +kernel
theorem dX6_stands_40 : decode cX6_stands 40 = .ok (.getfield 7, 3) := by decide +kernel
theorem dX6_stands_43 : decode cX6_stands 43 = .ok (.iconst 5, 1) := by decide +kernel
theorem dX6_stands_44 : decode cX6_stands 44 = .ok (.iaload, 1) := by decide +kernel
theorem dX6_stands_45 : decode cX6_stands 45 = .ok (.invokestatic 186, 3) := by decide +kernel
theorem dX6_stands_48 : decode cX6_stands 48 = .ok (.invokevirtual 228, 3) := by decide +kernel
theorem dX6_stands_51 : decode cX6_stands 51 = .ok (.ireturn, 1) := by decide +kernel
theorem dX6_enter_0 : decode cX6_enter 0 = .ok (.aload_n 0, 1) := by decide +kernel
theorem dX6_enter_1 : decode cX6_enter 1 = .ok (.iload_n 1, 1) := by decide +kernel
theorem dX6_enter_2 : decode cX6_enter 2 = .ok (.aload_n 0, 1) := by decide +kernel
theorem dX6_enter_3 : decode cX6_enter 3 = .ok (.getfield 7, 3) := by decide +kernel
theorem dX6_enter_6 : decode cX6_enter 6 = .ok (.iconst 4, 1) := by decide +kernel
theorem dX6_enter_7 : decode cX6_enter 7 = .ok (.iaload, 1) := by decide +kernel
theorem dX6_enter_8 : decode cX6_enter 8 = .ok (.aload_n 0, 1) := by decide +kernel
theorem dX6_enter_9 : decode cX6_enter 9 = .ok (.getfield 7, 3) := by decide +kernel
theorem dX6_enter_12 : decode cX6_enter 12 = .ok (.iconst 5, 1) := by decide +kernel
theorem dX6_enter_13 : decode cX6_enter 13 = .ok (.iaload, 1) := by decide +kernel
theorem dX6_enter_14 : decode cX6_enter 14 = .ok (.invokevirtual 182, 3) := by decide +kernel
theorem dX6_enter_17 : decode cX6_enter 17 = .ok (.istore_n 2, 1) := by decide +kernel
theorem dX6_enter_18 : decode cX6_enter 18 = .ok (.aload_n 0, 1) := by decide +kernel
theorem dX6_enter_19 : decode cX6_enter 19 = .ok (.getfield 7, 3) := by decide +kernel
theorem dX6_enter_22 : decode cX6_enter 22 = .ok (.iconst 4, 1) := by decide +kernel
theorem dX6_enter_23 : decode cX6_enter 23 = .ok (.aload_n 0, 1) := by decide +kernel
theorem dX6_enter_24 : decode cX6_enter 24 = .ok (.getfield 176, 3) := by decide +kernel
theorem dX6_enter_27 : decode cX6_enter 27 = .ok (.iastore, 1) := by decide +kernel
theorem dX6_enter_28 : decode cX6_enter 28 = .ok (.aload_n 0, 1) := by decide +kernel
theorem dX6_enter_29 : decode cX6_enter 29 = .ok (.getfield 7, 3) := by decide +kernel
theorem dX6_enter_32 : decode cX6_enter 32 = .ok (.iconst 5, 1) := by decide +kernel
theorem dX6_enter_33 : decode cX6_enter 33 = .ok (.aload_n 0, 1) := by decide +kernel
theorem dX6_enter_34 : decode cX6_enter 34 = .ok (.getfield 179, 3) := by decide +kernel
theorem dX6_enter_37 : decode cX6_enter 37 = .ok (.iastore, 1) := by decide +kernel
theorem dX6_enter_38 : decode cX6_enter 38 = .ok (.aload_n 0, 1) := by decide +kernel
theorem dX6_enter_39 : decode cX6_enter 39 = .ok (.getfield 7, 3) := by decide +kernel
theorem dX6_enter_42 : decode cX6_enter 42 = .ok (.iconst 3, 1) := by decide +kernel
theorem dX6_enter_43 : decode cX6_enter 43 = .ok (.iload_n 1, 1) := by decide +kernel
theorem dX6_enter_44 : decode cX6_enter 44 = .ok (.iastore, 1) := by decide +kernel
theorem dX6_enter_45 : decode cX6_enter 45 = .ok (.return_, 1) := by decide +kernel
theorem dX6_begins_0 : decode cX6_begins 0 = .ok (.aload_n 0, 1) := by decide +kernel
theorem dX6_begins_1 : decode cX6_begins 1 = .ok (.getfield 7, 3) := by decide +kernel
theorem dX6_begins_4 : decode cX6_begins 4 = .ok (.iconst 4, 1) := by decide +kernel
theorem dX6_begins_5 : decode cX6_begins 5 = .ok (.iconst 0, 1) := by decide +kernel
theorem dX6_begins_6 : decode cX6_begins 6 = .ok (.iastore, 1) := by decide +kernel
theorem dX6_begins_7 : decode cX6_begins 7 = .ok (.aload_n 0, 1) := by decide +kernel
theorem dX6_begins_8 : decode cX6_begins 8 = .ok (.getfield 7, 3) := by decide +kernel
theorem dX6_begins_11 : decode cX6_begins 11 = .ok (.iconst 5, 1) := by decide +kernel
theorem dX6_begins_12 : decode cX6_begins 12 = .ok (.aload_n 0, 1) := by decide +kernel
theorem dX6_begins_13 : decode cX6_begins 13 = .ok (.getfield 7, 3) := by decide +kernel
theorem dX6_begins_16 : decode cX6_begins 16 = .ok (.iconst 1, 1) := by decide +kernel
theorem dX6_begins_17 : decode cX6_begins 17 = .ok (.iaload, 1) := by decide +kernel
theorem dX6_begins_18 : decode cX6_begins 18 = .ok (.iastore, 1) := by decide +kernel
theorem dX6_begins_19 : decode cX6_begins 19 = .ok (.aload_n 0, 1) := by decide +kernel
theorem dX6_begins_20 : decode cX6_begins 20 = .ok (.getfield 7, 3) := by decide +kernel
theorem dX6_begins_23 : decode cX6_begins 23 = .ok (.bipush 6, 2) := by decide +kernel
theorem dX6_begins_25 : decode cX6_begins 25 = .ok (.iconst 0, 1) := by decide +kernel
theorem dX6_begins_26 : decode cX6_begins 26 = .ok (.iastore, 1) := by decide +kernel
theorem dX6_begins_27 : decode cX6_begins 27 = .ok (.iconst 0, 1) := by decide +kernel
theorem dX6_begins_28 : decode cX6_begins 28 = .ok (.istore_n 1, 1) := by decide +kernel
theorem dX6_begins_29 : decode cX6_begins 29 = .ok (.iload_n 1, 1) := by decide +kernel
theorem dX6_begins_30 : decode cX6_begins 30 = .ok (.sipush 576, 3) := by decide +kernel
theorem dX6_begins_33 : decode cX6_begins 33 = .ok (.if_icmp .ge 20, 3) := by decide +kernel
theorem dX6_begins_36 : decode cX6_begins 36 = .ok (.aload_n 0, 1) := by decide +kernel
theorem dX6_begins_37 : decode cX6_begins 37 = .ok (.getfield 7, 3) := by decide +kernel
theorem dX6_begins_40 : decode cX6_begins 40 = .ok (.sipush 800, 3) := by decide +kernel
theorem dX6_begins_43 : decode cX6_begins 43 = .ok (.iload_n 1, 1) := by decide +kernel
theorem dX6_begins_44 : decode cX6_begins 44 = .ok (.iadd, 1) := by decide +kernel
theorem dX6_begins_45 : decode cX6_begins 45 = .ok (.iconst 0, 1) := by decide +kernel
theorem dX6_begins_46 : decode cX6_begins 46 = .ok (.iastore, 1) := by decide +kernel
theorem dX6_begins_47 : decode cX6_begins 47 = .ok (.iinc 1 1, 3) := by decide +kernel
theorem dX6_begins_50 : decode cX6_begins 50 = .ok (.goto (-21), 3) := by decide +kernel
theorem dX6_begins_53 : decode cX6_begins 53 = .ok (.aload_n 0, 1) := by decide +kernel
theorem dX6_begins_54 : decode cX6_begins 54 = .ok (.iconst 0, 1) := by decide +kernel
theorem dX6_begins_55 : decode cX6_begins 55 = .ok (.invokevirtual 244, 3) := by decide +kernel
theorem dX6_begins_58 : decode cX6_begins 58 = .ok (.return_, 1) := by decide +kernel
theorem dX6_begin_0 : decode cX6_begin 0 = .ok (.aload_n 0, 1) := by decide +kernel
theorem dX6_begin_1 : decode cX6_begin 1 = .ok (.getfield 7, 3) := by decide +kernel
theorem dX6_begin_4 : decode cX6_begin 4 = .ok (.iconst 0, 1) := by decide +kernel
theorem dX6_begin_5 : decode cX6_begin 5 = .ok (.iaload, 1) := by decide +kernel
theorem dX6_begin_6 : decode cX6_begin 6 = .ok (.ifCond .ne 6, 3) := by decide +kernel
theorem dX6_begin_9 : decode cX6_begin 9 = .ok (.ldc 166, 2) := by decide +kernel
theorem dX6_begin_11 : decode cX6_begin 11 = .ok (.ireturn, 1) := by decide +kernel
theorem dX6_begin_12 : decode cX6_begin 12 = .ok (.aload_n 0, 1) := by decide +kernel
theorem dX6_begin_13 : decode cX6_begin 13 = .ok (.invokevirtual 247, 3) := by decide +kernel
theorem dX6_begin_16 : decode cX6_begin 16 = .ok (.aload_n 0, 1) := by decide +kernel
theorem dX6_begin_17 : decode cX6_begin 17 = .ok (.invokevirtual 250, 3) := by decide +kernel
theorem dX6_begin_20 : decode cX6_begin 20 = .ok (.ireturn, 1) := by decide +kernel
theorem dX6_goTo_0 : decode cX6_goTo 0 = .ok (.aload_n 0, 1) := by decide +kernel
theorem dX6_goTo_1 : decode cX6_goTo 1 = .ok (.getfield 7, 3) := by decide +kernel
theorem dX6_goTo_4 : decode cX6_goTo 4 = .ok (.sipush 800, 3) := by decide +kernel
theorem dX6_goTo_7 : decode cX6_goTo 7 = .ok (.bipush 24, 2) := by decide +kernel
theorem dX6_goTo_9 : decode cX6_goTo 9 = .ok (.aload_n 0, 1) := by decide +kernel
theorem dX6_goTo_10 : decode cX6_goTo 10 = .ok (.getfield 7, 3) := by decide +kernel
theorem dX6_goTo_13 : decode cX6_goTo 13 = .ok (.iconst 3, 1) := by decide +kernel
theorem dX6_goTo_14 : decode cX6_goTo 14 = .ok (.iaload, 1) := by decide +kernel
theorem dX6_goTo_15 : decode cX6_goTo 15 = .ok (.imul, 1) := by decide +kernel
theorem dX6_goTo_16 : decode cX6_goTo 16 = .ok (.iadd, 1) := by decide +kernel
theorem dX6_goTo_17 : decode cX6_goTo 17 = .ok (.iload_n 1, 1) := by decide +kernel
theorem dX6_goTo_18 : decode cX6_goTo 18 = .ok (.iadd, 1) := by decide +kernel
theorem dX6_goTo_19 : decode cX6_goTo 19 = .ok (.dup2, 1) := by decide +kernel
theorem dX6_goTo_20 : decode cX6_goTo 20 = .ok (.iaload, 1) := by decide +kernel
theorem dX6_goTo_21 : decode cX6_goTo 21 = .ok (.iconst 1, 1) := by decide +kernel
theorem dX6_goTo_22 : decode cX6_goTo 22 = .ok (.iadd, 1) := by decide +kernel
theorem dX6_goTo_23 : decode cX6_goTo 23 = .ok (.iastore, 1) := by decide +kernel
theorem dX6_goTo_24 : decode cX6_goTo 24 = .ok (.aload_n 0, 1) := by decide +kernel
theorem dX6_goTo_25 : decode cX6_goTo 25 = .ok (.getfield 7, 3) := by decide +kernel
theorem dX6_goTo_28 : decode cX6_goTo 28 = .ok (.bipush 6, 2) := by decide +kernel
theorem dX6_goTo_30 : decode cX6_goTo 30 = .ok (.dup2, 1) := by decide +kernel
theorem dX6_goTo_31 : decode cX6_goTo 31 = .ok (.iaload, 1) := by decide +kernel
theorem dX6_goTo_32 : decode cX6_goTo 32 = .ok (.iconst 1, 1) := by decide +kernel
theorem dX6_goTo_33 : decode cX6_goTo 33 = .ok (.iadd, 1) := by decide +kernel
theorem dX6_goTo_34 : decode cX6_goTo 34 = .ok (.iastore, 1) := by decide +kernel
theorem dX6_goTo_35 : decode cX6_goTo 35 = .ok (.aload_n 0, 1) := by decide +kernel
theorem dX6_goTo_36 : decode cX6_goTo 36 = .ok (.iload_n 1, 1) := by decide +kernel
theorem dX6_goTo_37 : decode cX6_goTo 37 = .ok (.invokevirtual 244, 3) := by decide +kernel
theorem dX6_goTo_40 : decode cX6_goTo 40 = .ok (.return_, 1) := by decide +kernel
theorem dX6_choose_0 : decode cX6_choose 0 = .ok (.aload_n 0, 1) := by decide +kernel
theorem dX6_choose_1 : decode cX6_choose 1 = .ok (.getfield 7, 3) := by decide +kernel
theorem dX6_choose_4 : decode cX6_choose 4 = .ok (.iconst 3, 1) := by decide +kernel
theorem dX6_choose_5 : decode cX6_choose 5 = .ok (.iaload, 1) := by decide +kernel
theorem dX6_choose_6 : decode cX6_choose 6 = .ok (.ifCond .ge 6, 3) := by decide +kernel
theorem dX6_choose_9 : decode cX6_choose 9 = .ok (.ldc 166, 2) := by decide +kernel
theorem dX6_choose_11 : decode cX6_choose 11 = .ok (.ireturn, 1) := by decide +kernel
theorem dX6_choose_12 : decode cX6_choose 12 = .ok (.aload_n 0, 1) := by decide +kernel
theorem dX6_choose_13 : decode cX6_choose 13 = .ok (.getfield 7, 3) := by decide +kernel
theorem dX6_choose_16 : decode cX6_choose 16 = .ok (.iconst 3, 1) := by decide +kernel
theorem dX6_choose_17 : decode cX6_choose 17 = .ok (.iaload, 1) := by decide +kernel
theorem dX6_choose_18 : decode cX6_choose 18 = .ok (.istore_n 2, 1) := by decide +kernel
theorem dX6_choose_19 : decode cX6_choose 19 = .ok (.iload_n 1, 1) := by decide +kernel
theorem dX6_choose_20 : decode cX6_choose 20 = .ok (.i2l, 1) := by decide +kernel
theorem dX6_choose_21 : decode cX6_choose 21 = .ok (.lconst 0, 1) := by decide +kernel
theorem dX6_choose_22 : decode cX6_choose 22 = .ok (.aload_n 0, 1) := by decide +kernel
theorem dX6_choose_23 : decode cX6_choose 23 = .ok (.getfield 7, 3) := by decide +kernel
theorem dX6_choose_26 : decode cX6_choose 26 = .ok (.bipush 56, 2) := by decide +kernel
theorem dX6_choose_28 : decode cX6_choose 28 = .ok (.iload_n 2, 1) := by decide +kernel
theorem dX6_choose_29 : decode cX6_choose 29 = .ok (.iadd, 1) := by decide +kernel
theorem dX6_choose_30 : decode cX6_choose 30 = .ok (.iaload, 1) := by decide +kernel
theorem dX6_choose_31 : decode cX6_choose 31 = .ok (.iconst 1, 1) := by decide +kernel
theorem dX6_choose_32 : decode cX6_choose 32 = .ok (.isub, 1) := by decide +kernel
theorem dX6_choose_33 : decode cX6_choose 33 = .ok (.i2l, 1) := by decide +kernel
theorem dX6_choose_34 : decode cX6_choose 34 = .ok (.invokestatic 66, 3) := by decide +kernel
theorem dX6_choose_37 : decode cX6_choose 37 = .ok (.ifCond .ne 6, 3) := by decide +kernel
theorem dX6_choose_40 : decode cX6_choose 40 = .ok (.ldc 156, 2) := by decide +kernel
theorem dX6_choose_42 : decode cX6_choose 42 = .ok (.ireturn, 1) := by decide +kernel
theorem dX6_choose_43 : decode cX6_choose 43 = .ok (.aload_n 0, 1) := by decide +kernel
theorem dX6_choose_44 : decode cX6_choose 44 = .ok (.invokevirtual 250, 3) := by decide +kernel
theorem dX6_choose_47 : decode cX6_choose 47 = .ok (.ifCond .ne 18, 3) := by decide +kernel
theorem dX6_choose_50 : decode cX6_choose 50 = .ok (.aload_n 0, 1) := by decide +kernel
theorem dX6_choose_51 : decode cX6_choose 51 = .ok (.iload_n 2, 1) := by decide +kernel
theorem dX6_choose_52 : decode cX6_choose 52 = .ok (.iload_n 1, 1) := by decide +kernel
theorem dX6_choose_53 : decode cX6_choose 53 = .ok (.aload_n 0, 1) := by decide +kernel
theorem dX6_choose_54 : decode cX6_choose 54 = .ok (.getfield 7, 3) := by decide +kernel
theorem dX6_choose_57 : decode cX6_choose 57 = .ok (.iconst 4, 1) := by decide +kernel
theorem dX6_choose_58 : decode cX6_choose 58 = .ok (.iaload, 1) := by decide +kernel
theorem dX6_choose_59 : decode cX6_choose 59 = .ok (.invokevirtual 200, 3) := by decide +kernel
theorem dX6_choose_62 : decode cX6_choose 62 = .ok (.ifCond .ne 6, 3) := by decide +kernel
theorem dX6_choose_65 : decode cX6_choose 65 = .ok (.ldc 166, 2) := by decide +kernel
theorem dX6_choose_67 : decode cX6_choose 67 = .ok (.ireturn, 1) := by decide +kernel
theorem dX6_choose_68 : decode cX6_choose 68 = .ok (.aload_n 0, 1) := by decide +kernel
theorem dX6_choose_69 : decode cX6_choose 69 = .ok (.aload_n 0, 1) := by decide +kernel
theorem dX6_choose_70 : decode cX6_choose 70 = .ok (.getfield 7, 3) := by decide +kernel
theorem dX6_choose_73 : decode cX6_choose 73 = .ok (.sipush 368, 3) := by decide +kernel
theorem dX6_choose_76 : decode cX6_choose 76 = .ok (.bipush 6, 2) := by decide +kernel
theorem dX6_choose_78 : decode cX6_choose 78 = .ok (.iload_n 2, 1) := by decide +kernel
theorem dX6_choose_79 : decode cX6_choose 79 = .ok (.imul, 1) := by decide +kernel
theorem dX6_choose_80 : decode cX6_choose 80 = .ok (.iadd, 1) := by decide +kernel
theorem dX6_choose_81 : decode cX6_choose 81 = .ok (.iload_n 1, 1) := by decide +kernel
theorem dX6_choose_82 : decode cX6_choose 82 = .ok (.iadd, 1) := by decide +kernel
theorem dX6_choose_83 : decode cX6_choose 83 = .ok (.iaload, 1) := by decide +kernel
theorem dX6_choose_84 : decode cX6_choose 84 = .ok (.invokevirtual 253, 3) := by decide +kernel
theorem dX6_choose_87 : decode cX6_choose 87 = .ok (.aload_n 0, 1) := by decide +kernel
theorem dX6_choose_88 : decode cX6_choose 88 = .ok (.invokevirtual 250, 3) := by decide +kernel
theorem dX6_choose_91 : decode cX6_choose 91 = .ok (.ireturn, 1) := by decide +kernel
theorem dX6_draw_0 : decode cX6_draw 0 = .ok (.aload_n 0, 1) := by decide +kernel
theorem dX6_draw_1 : decode cX6_draw 1 = .ok (.getfield 7, 3) := by decide +kernel
theorem dX6_draw_4 : decode cX6_draw 4 = .ok (.iconst 2, 1) := by decide +kernel
theorem dX6_draw_5 : decode cX6_draw 5 = .ok (.aload_n 0, 1) := by decide +kernel
theorem dX6_draw_6 : decode cX6_draw 6 = .ok (.getfield 7, 3) := by decide +kernel
theorem dX6_draw_9 : decode cX6_draw 9 = .ok (.iconst 2, 1) := by decide +kernel
theorem dX6_draw_10 : decode cX6_draw 10 = .ok (.iaload, 1) := by decide +kernel
theorem dX6_draw_11 : decode cX6_draw 11 = .ok (.i2l, 1) := by decide +kernel
theorem dX6_draw_12 : decode cX6_draw 12 = .ok (.ldc2_w 256, 3) := by decide +kernel
theorem dX6_draw_15 : decode cX6_draw 15 = .ok (.lmul, 1) := by decide +kernel
theorem dX6_draw_16 : decode cX6_draw 16 = .ok (.ldc2_w 258, 3) := by decide +kernel
theorem dX6_draw_19 : decode cX6_draw 19 = .ok (.ladd, 1) := by decide +kernel
theorem dX6_draw_20 : decode cX6_draw 20 = .ok (.ldc2_w 260, 3) := by decide +kernel
theorem dX6_draw_23 : decode cX6_draw 23 = .ok (.lrem, 1) := by decide +kernel
theorem dX6_draw_24 : decode cX6_draw 24 = .ok (.l2i, 1) := by decide +kernel
theorem dX6_draw_25 : decode cX6_draw 25 = .ok (.iastore, 1) := by decide +kernel
theorem dX6_draw_26 : decode cX6_draw 26 = .ok (.aload_n 0, 1) := by decide +kernel
theorem dX6_draw_27 : decode cX6_draw 27 = .ok (.getfield 7, 3) := by decide +kernel
theorem dX6_draw_30 : decode cX6_draw 30 = .ok (.iconst 2, 1) := by decide +kernel
theorem dX6_draw_31 : decode cX6_draw 31 = .ok (.iaload, 1) := by decide +kernel
theorem dX6_draw_32 : decode cX6_draw 32 = .ok (.ldc_w 262, 3) := by decide +kernel
theorem dX6_draw_35 : decode cX6_draw 35 = .ok (.idiv, 1) := by decide +kernel
theorem dX6_draw_36 : decode cX6_draw 36 = .ok (.iload_n 1, 1) := by decide +kernel
theorem dX6_draw_37 : decode cX6_draw 37 = .ok (.irem, 1) := by decide +kernel
theorem dX6_draw_38 : decode cX6_draw 38 = .ok (.ireturn, 1) := by decide +kernel
theorem dX6_rollBy_0 : decode cX6_rollBy 0 = .ok (.aload_n 0, 1) := by decide +kernel
theorem dX6_rollBy_1 : decode cX6_rollBy 1 = .ok (.getfield 7, 3) := by decide +kernel
theorem dX6_rollBy_4 : decode cX6_rollBy 4 = .ok (.iconst 3, 1) := by decide +kernel
theorem dX6_rollBy_5 : decode cX6_rollBy 5 = .ok (.iaload, 1) := by decide +kernel
theorem dX6_rollBy_6 : decode cX6_rollBy 6 = .ok (.istore_n 2, 1) := by decide +kernel
theorem dX6_rollBy_7 : decode cX6_rollBy 7 = .ok (.aload_n 0, 1) := by decide +kernel
theorem dX6_rollBy_8 : decode cX6_rollBy 8 = .ok (.iload_n 1, 1) := by decide +kernel
theorem dX6_rollBy_9 : decode cX6_rollBy 9 = .ok (.aload_n 0, 1) := by decide +kernel
theorem dX6_rollBy_10 : decode cX6_rollBy 10 = .ok (.getfield 7, 3) := by decide +kernel
theorem dX6_rollBy_13 : decode cX6_rollBy 13 = .ok (.bipush 80, 2) := by decide +kernel
theorem dX6_rollBy_15 : decode cX6_rollBy 15 = .ok (.iload_n 2, 1) := by decide +kernel
theorem dX6_rollBy_16 : decode cX6_rollBy 16 = .ok (.iadd, 1) := by decide +kernel
theorem dX6_rollBy_17 : decode cX6_rollBy 17 = .ok (.iaload, 1) := by decide +kernel
theorem dX6_rollBy_18 : decode cX6_rollBy 18 = .ok (.if_icmp .lt 15, 3) := by decide +kernel
theorem dX6_rollBy_21 : decode cX6_rollBy 21 = .ok (.aload_n 0, 1) := by decide +kernel
theorem dX6_rollBy_22 : decode cX6_rollBy 22 = .ok (.getfield 7, 3) := by decide +kernel
theorem dX6_rollBy_25 : decode cX6_rollBy 25 = .ok (.bipush 104, 2) := by decide +kernel
theorem dX6_rollBy_27 : decode cX6_rollBy 27 = .ok (.iload_n 2, 1) := by decide +kernel
theorem dX6_rollBy_28 : decode cX6_rollBy 28 = .ok (.iadd, 1) := by decide +kernel
theorem dX6_rollBy_29 : decode cX6_rollBy 29 = .ok (.iaload, 1) := by decide +kernel
theorem dX6_rollBy_30 : decode cX6_rollBy 30 = .ok (.goto 13, 3) := by decide +kernel
theorem dX6_rollBy_33 : decode cX6_rollBy 33 = .ok (.aload_n 0, 1) := by decide +kernel
theorem dX6_rollBy_34 : decode cX6_rollBy 34 = .ok (.getfield 7, 3) := by decide +kernel
theorem dX6_rollBy_37 : decode cX6_rollBy 37 = .ok (.sipush 128, 3) := by decide +kernel
theorem dX6_rollBy_40 : decode cX6_rollBy 40 = .ok (.iload_n 2, 1) := by decide +kernel
theorem dX6_rollBy_41 : decode cX6_rollBy 41 = .ok (.iadd, 1) := by decide +kernel
theorem dX6_rollBy_42 : decode cX6_rollBy 42 = .ok (.iaload, 1) := by decide +kernel
theorem dX6_rollBy_43 : decode cX6_rollBy 43 = .ok (.invokevirtual 253, 3) := by decide +kernel
theorem dX6_rollBy_46 : decode cX6_rollBy 46 = .ok (.return_, 1) := by decide +kernel
theorem dX6_roll_0 : decode cX6_roll 0 = .ok (.iload_n 1, 1) := by decide +kernel
theorem dX6_roll_1 : decode cX6_roll 1 = .ok (.iconst (-1), 1) := by decide +kernel
theorem dX6_roll_2 : decode cX6_roll 2 = .ok (.if_icmp .eq 18, 3) := by decide +kernel
theorem dX6_roll_5 : decode cX6_roll 5 = .ok (.iload_n 1, 1) := by decide +kernel
theorem dX6_roll_6 : decode cX6_roll 6 = .ok (.i2l, 1) := by decide +kernel
theorem dX6_roll_7 : decode cX6_roll 7 = .ok (.lconst 1, 1) := by decide +kernel
theorem dX6_roll_8 : decode cX6_roll 8 = .ok (.ldc2_w 263, 3) := by decide +kernel
theorem dX6_roll_11 : decode cX6_roll 11 = .ok (.invokestatic 66, 3) := by decide +kernel
theorem dX6_roll_14 : decode cX6_roll 14 = .ok (.ifCond .ne 6, 3) := by decide +kernel
theorem dX6_roll_17 : decode cX6_roll 17 = .ok (.ldc 70, 2) := by decide +kernel
theorem dX6_roll_19 : decode cX6_roll 19 = .ok (.ireturn, 1) := by decide +kernel
theorem dX6_roll_20 : decode cX6_roll 20 = .ok (.aload_n 0, 1) := by decide +kernel
theorem dX6_roll_21 : decode cX6_roll 21 = .ok (.getfield 7, 3) := by decide +kernel
theorem dX6_roll_24 : decode cX6_roll 24 = .ok (.iconst 3, 1) := by decide +kernel
theorem dX6_roll_25 : decode cX6_roll 25 = .ok (.iaload, 1) := by decide +kernel
theorem dX6_roll_26 : decode cX6_roll 26 = .ok (.ifCond .lt 28, 3) := by decide +kernel
theorem dX6_roll_29 : decode cX6_roll 29 = .ok (.aload_n 0, 1) := by decide +kernel
theorem dX6_roll_30 : decode cX6_roll 30 = .ok (.getfield 7, 3) := by decide +kernel
theorem dX6_roll_33 : decode cX6_roll 33 = .ok (.bipush 8, 2) := by decide +kernel
theorem dX6_roll_35 : decode cX6_roll 35 = .ok (.aload_n 0, 1) := by decide +kernel
theorem dX6_roll_36 : decode cX6_roll 36 = .ok (.getfield 7, 3) := by decide +kernel
theorem dX6_roll_39 : decode cX6_roll 39 = .ok (.iconst 3, 1) := by decide +kernel
theorem dX6_roll_40 : decode cX6_roll 40 = .ok (.iaload, 1) := by decide +kernel
theorem dX6_roll_41 : decode cX6_roll 41 = .ok (.iadd, 1) := by decide +kernel
theorem dX6_roll_42 : decode cX6_roll 42 = .ok (.iaload, 1) := by decide +kernel
theorem dX6_roll_43 : decode cX6_roll 43 = .ok (.iconst 3, 1) := by decide +kernel
theorem dX6_roll_44 : decode cX6_roll 44 = .ok (.if_icmp .ne 10, 3) := by decide +kernel
theorem dX6_roll_47 : decode cX6_roll 47 = .ok (.aload_n 0, 1) := by decide +kernel
theorem dX6_roll_48 : decode cX6_roll 48 = .ok (.invokevirtual 250, 3) := by decide +kernel
theorem dX6_roll_51 : decode cX6_roll 51 = .ok (.ifCond .eq 6, 3) := by decide +kernel
theorem dX6_roll_54 : decode cX6_roll 54 = .ok (.ldc 166, 2) := by decide +kernel
theorem dX6_roll_56 : decode cX6_roll 56 = .ok (.ireturn, 1) := by decide +kernel
theorem dX6_roll_57 : decode cX6_roll 57 = .ok (.aload_n 0, 1) := by decide +kernel
theorem dX6_roll_58 : decode cX6_roll 58 = .ok (.iload_n 1, 1) := by decide +kernel
theorem dX6_roll_59 : decode cX6_roll 59 = .ok (.iconst (-1), 1) := by decide +kernel
theorem dX6_roll_60 : decode cX6_roll 60 = .ok (.if_icmp .ne 14, 3) := by decide +kernel
theorem dX6_roll_63 : decode cX6_roll 63 = .ok (.aload_n 0, 1) := by decide +kernel
theorem dX6_roll_64 : decode cX6_roll 64 = .ok (.bipush 6, 2) := by decide +kernel
theorem dX6_roll_66 : decode cX6_roll 66 = .ok (.invokevirtual 265, 3) := by decide +kernel
theorem dX6_roll_69 : decode cX6_roll 69 = .ok (.iconst 1, 1) := by decide +kernel
theorem dX6_roll_70 : decode cX6_roll 70 = .ok (.iadd, 1) := by decide +kernel
theorem dX6_roll_71 : decode cX6_roll 71 = .ok (.goto 4, 3) := by decide +kernel
theorem dX6_roll_74 : decode cX6_roll 74 = .ok (.iload_n 1, 1) := by decide +kernel
theorem dX6_roll_75 : decode cX6_roll 75 = .ok (.invokevirtual 268, 3) := by decide +kernel
theorem dX6_roll_78 : decode cX6_roll 78 = .ok (.aload_n 0, 1) := by decide +kernel
theorem dX6_roll_79 : decode cX6_roll 79 = .ok (.invokevirtual 250, 3) := by decide +kernel
theorem dX6_roll_82 : decode cX6_roll 82 = .ok (.ireturn, 1) := by decide +kernel
theorem dX6_openNow_0 : decode cX6_openNow 0 = .ok (.iconst 0, 1) := by decide +kernel
theorem dX6_openNow_1 : decode cX6_openNow 1 = .ok (.istore_n 1, 1) := by decide +kernel
theorem dX6_openNow_2 : decode cX6_openNow 2 = .ok (.iconst 0, 1) := by decide +kernel
theorem dX6_openNow_3 : decode cX6_openNow 3 = .ok (.istore_n 2, 1) := by decide +kernel
theorem dX6_openNow_4 : decode cX6_openNow 4 = .ok (.iload_n 2, 1) := by decide +kernel
theorem dX6_openNow_5 : decode cX6_openNow 5 = .ok (.aload_n 0, 1) := by decide +kernel
theorem dX6_openNow_6 : decode cX6_openNow 6 = .ok (.getfield 7, 3) := by decide +kernel
theorem dX6_openNow_9 : decode cX6_openNow 9 = .ok (.bipush 56, 2) := by decide +kernel
theorem dX6_openNow_11 : decode cX6_openNow 11 = .ok (.aload_n 0, 1) := by decide +kernel
theorem dX6_openNow_12 : decode cX6_openNow 12 = .ok (.getfield 7, 3) := by decide +kernel
theorem dX6_openNow_15 : decode cX6_openNow 15 = .ok (.iconst 3, 1) := by decide +kernel
theorem dX6_openNow_16 : decode cX6_openNow 16 = .ok (.iaload, 1) := by decide +kernel
theorem dX6_openNow_17 : decode cX6_openNow 17 = .ok (.iadd, 1) := by decide +kernel
theorem dX6_openNow_18 : decode cX6_openNow 18 = .ok (.iaload, 1) := by decide +kernel
theorem dX6_openNow_19 : decode cX6_openNow 19 = .ok (.if_icmp .ge 41, 3) := by decide +kernel
theorem dX6_openNow_22 : decode cX6_openNow 22 = .ok (.aload_n 0, 1) := by decide +kernel
theorem dX6_openNow_23 : decode cX6_openNow 23 = .ok (.invokevirtual 250, 3) := by decide +kernel
theorem dX6_openNow_26 : decode cX6_openNow 26 = .ok (.ifCond .ne 34, 3) := by decide +kernel
theorem dX6_openNow_29 : decode cX6_openNow 29 = .ok (.iload_n 1, 1) := by decide +kernel
theorem dX6_openNow_30 : decode cX6_openNow 30 = .ok (.aload_n 0, 1) := by decide +kernel
theorem dX6_openNow_31 : decode cX6_openNow 31 = .ok (.aload_n 0, 1) := by decide +kernel
theorem dX6_openNow_32 : decode cX6_openNow 32 = .ok (.getfield 7, 3) := by decide +kernel
theorem dX6_openNow_35 : decode cX6_openNow 35 = .ok (.iconst 3, 1) := by decide +kernel
theorem dX6_openNow_36 : decode cX6_openNow 36 = .ok (.iaload, 1) := by decide +kernel
theorem dX6_openNow_37 : decode cX6_openNow 37 = .ok (.iload_n 2, 1) := by decide +kernel
theorem dX6_openNow_38 : decode cX6_openNow 38 = .ok (.aload_n 0, 1) := by decide +kernel
theorem dX6_openNow_39 : decode cX6_openNow 39 = .ok (.getfield 7, 3) := by decide +kernel
theorem dX6_openNow_42 : decode cX6_openNow 42 = .ok (.iconst 4, 1) := by decide +kernel
theorem dX6_openNow_43 : decode cX6_openNow 43 = .ok (.iaload, 1) := by decide +kernel
theorem dX6_openNow_44 : decode cX6_openNow 44 = .ok (.invokevirtual 200, 3) := by decide +kernel
theorem dX6_openNow_47 : decode cX6_openNow 47 = .ok (.invokestatic 218, 3) := by decide +kernel
theorem dX6_openNow_50 : decode cX6_openNow 50 = .ok (.iload_n 2, 1) := by decide +kernel
theorem dX6_openNow_51 : decode cX6_openNow 51 = .ok (.ishl, 1) := by decide +kernel
theorem dX6_openNow_52 : decode cX6_openNow 52 = .ok (.ior, 1) := by decide +kernel
theorem dX6_openNow_53 : decode cX6_openNow 53 = .ok (.istore_n 1, 1) := by decide +kernel
theorem dX6_openNow_54 : decode cX6_openNow 54 = .ok (.iinc 2 1, 3) := by decide +kernel
theorem dX6_openNow_57 : decode cX6_openNow 57 = .ok (.goto (-53), 3) := by decide +kernel
theorem dX6_openNow_60 : decode cX6_openNow 60 = .ok (.iload_n 1, 1) := by decide +kernel
theorem dX6_openNow_61 : decode cX6_openNow 61 = .ok (.ireturn, 1) := by decide +kernel
theorem dX6_now_0 : decode cX6_now 0 = .ok (.iload_n 1, 1) := by decide +kernel
theorem dX6_now_1 : decode cX6_now 1 = .ok (.i2l, 1) := by decide +kernel
theorem dX6_now_2 : decode cX6_now 2 = .ok (.lconst 0, 1) := by decide +kernel
theorem dX6_now_3 : decode cX6_now 3 = .ok (.ldc2_w 271, 3) := by decide +kernel
theorem dX6_now_6 : decode cX6_now 6 = .ok (.invokestatic 66, 3) := by decide +kernel
theorem dX6_now_9 : decode cX6_now 9 = .ok (.ifCond .ne 6, 3) := by decide +kernel
theorem dX6_now_12 : decode cX6_now 12 = .ok (.ldc 70, 2) := by decide +kernel
theorem dX6_now_14 : decode cX6_now 14 = .ok (.ireturn, 1) := by decide +kernel
theorem dX6_now_15 : decode cX6_now 15 = .ok (.aload_n 0, 1) := by decide +kernel
theorem dX6_now_16 : decode cX6_now 16 = .ok (.getfield 7, 3) := by decide +kernel
theorem dX6_now_19 : decode cX6_now 19 = .ok (.iconst 3, 1) := by decide +kernel
theorem dX6_now_20 : decode cX6_now 20 = .ok (.iaload, 1) := by decide +kernel
theorem dX6_now_21 : decode cX6_now 21 = .ok (.ifCond .ge 6, 3) := by decide +kernel
theorem dX6_now_24 : decode cX6_now 24 = .ok (.ldc 166, 2) := by decide +kernel
theorem dX6_now_26 : decode cX6_now 26 = .ok (.ireturn, 1) := by decide +kernel
theorem dX6_now_27 : decode cX6_now 27 = .ok (.iload_n 1, 1) := by decide +kernel
theorem dX6_now_28 : decode cX6_now 28 = .ok (.tableswitch 70 0 4 #[36, 43, 50, 57, 65], 36) := by decide +kernel
theorem dX6_now_64 : decode cX6_now 64 = .ok (.aload_n 0, 1) := by decide +kernel
theorem dX6_now_65 : decode cX6_now 65 = .ok (.getfield 7, 3) := by decide +kernel
theorem dX6_now_68 : decode cX6_now 68 = .ok (.iconst 3, 1) := by decide +kernel
theorem dX6_now_69 : decode cX6_now 69 = .ok (.iaload, 1) := by decide +kernel
theorem dX6_now_70 : decode cX6_now 70 = .ok (.ireturn, 1) := by decide +kernel
theorem dX6_now_71 : decode cX6_now 71 = .ok (.aload_n 0, 1) := by decide +kernel
theorem dX6_now_72 : decode cX6_now 72 = .ok (.getfield 7, 3) := by decide +kernel
theorem dX6_now_75 : decode cX6_now 75 = .ok (.iconst 4, 1) := by decide +kernel
theorem dX6_now_76 : decode cX6_now 76 = .ok (.iaload, 1) := by decide +kernel
theorem dX6_now_77 : decode cX6_now 77 = .ok (.ireturn, 1) := by decide +kernel
theorem dX6_now_78 : decode cX6_now 78 = .ok (.aload_n 0, 1) := by decide +kernel
theorem dX6_now_79 : decode cX6_now 79 = .ok (.getfield 7, 3) := by decide +kernel
theorem dX6_now_82 : decode cX6_now 82 = .ok (.iconst 5, 1) := by decide +kernel
theorem dX6_now_83 : decode cX6_now 83 = .ok (.iaload, 1) := by decide +kernel
theorem dX6_now_84 : decode cX6_now 84 = .ok (.ireturn, 1) := by decide +kernel
theorem dX6_now_85 : decode cX6_now 85 = .ok (.aload_n 0, 1) := by decide +kernel
theorem dX6_now_86 : decode cX6_now 86 = .ok (.getfield 7, 3) := by decide +kernel
theorem dX6_now_89 : decode cX6_now 89 = .ok (.bipush 6, 2) := by decide +kernel
theorem dX6_now_91 : decode cX6_now 91 = .ok (.iaload, 1) := by decide +kernel
theorem dX6_now_92 : decode cX6_now 92 = .ok (.ireturn, 1) := by decide +kernel
theorem dX6_now_93 : decode cX6_now 93 = .ok (.aload_n 0, 1) := by decide +kernel
theorem dX6_now_94 : decode cX6_now 94 = .ok (.invokevirtual 250, 3) := by decide +kernel
theorem dX6_now_97 : decode cX6_now 97 = .ok (.ireturn, 1) := by decide +kernel
theorem dX6_now_98 : decode cX6_now 98 = .ok (.aload_n 0, 1) := by decide +kernel
theorem dX6_now_99 : decode cX6_now 99 = .ok (.invokevirtual 273, 3) := by decide +kernel
theorem dX6_now_102 : decode cX6_now 102 = .ok (.ireturn, 1) := by decide +kernel
theorem dX6_oddsAt_0 : decode cX6_oddsAt 0 = .ok (.iload_n 1, 1) := by decide +kernel
theorem dX6_oddsAt_1 : decode cX6_oddsAt 1 = .ok (.bipush (-2), 2) := by decide +kernel
theorem dX6_oddsAt_3 : decode cX6_oddsAt 3 = .ok (.if_icmp .ne 7, 3) := by decide +kernel
theorem dX6_oddsAt_6 : decode cX6_oddsAt 6 = .ok (.iconst 0, 1) := by decide +kernel
theorem dX6_oddsAt_7 : decode cX6_oddsAt 7 = .ok (.goto 9, 3) := by decide +kernel
theorem dX6_oddsAt_10 : decode cX6_oddsAt 10 = .ok (.aload_n 0, 1) := by decide +kernel
theorem dX6_oddsAt_11 : decode cX6_oddsAt 11 = .ok (.getfield 52, 3) := by decide +kernel
theorem dX6_oddsAt_14 : decode cX6_oddsAt 14 = .ok (.iload_n 1, 1) := by decide +kernel
theorem dX6_oddsAt_15 : decode cX6_oddsAt 15 = .ok (.iaload, 1) := by decide +kernel
theorem dX6_oddsAt_16 : decode cX6_oddsAt 16 = .ok (.ireturn, 1) := by decide +kernel
theorem dX6_oddsOf_0 : decode cX6_oddsOf 0 = .ok (.aload_n 0, 1) := by decide +kernel
theorem dX6_oddsOf_1 : decode cX6_oddsOf 1 = .ok (.iload_n 1, 1) := by decide +kernel
theorem dX6_oddsOf_2 : decode cX6_oddsOf 2 = .ok (.invokevirtual 228, 3) := by decide +kernel
theorem dX6_oddsOf_5 : decode cX6_oddsOf 5 = .ok (.istore_n 2, 1) := by decide +kernel
theorem dX6_oddsOf_6 : decode cX6_oddsOf 6 = .ok (.iload_n 2, 1) := by decide +kernel
theorem dX6_oddsOf_7 : decode cX6_oddsOf 7 = .ok (.iconst 1, 1) := by decide +kernel
theorem dX6_oddsOf_8 : decode cX6_oddsOf 8 = .ok (.if_icmp .ne 7, 3) := by decide +kernel
theorem dX6_oddsOf_11 : decode cX6_oddsOf 11 = .ok (.ldc_w 276, 3) := by decide +kernel
theorem dX6_oddsOf_14 : decode cX6_oddsOf 14 = .ok (.ireturn, 1) := by decide +kernel
theorem dX6_oddsOf_15 : decode cX6_oddsOf 15 = .ok (.iload_n 1, 1) := by decide +kernel
theorem dX6_oddsOf_16 : decode cX6_oddsOf 16 = .ok (.invokestatic 194, 3) := by decide +kernel
theorem dX6_oddsOf_19 : decode cX6_oddsOf 19 = .ok (.istore_n 3, 1) := by decide +kernel
theorem dX6_oddsOf_20 : decode cX6_oddsOf 20 = .ok (.aload_n 0, 1) := by decide +kernel
theorem dX6_oddsOf_21 : decode cX6_oddsOf 21 = .ok (.getfield 7, 3) := by decide +kernel
theorem dX6_oddsOf_24 : decode cX6_oddsOf 24 = .ok (.bipush 8, 2) := by decide +kernel
theorem dX6_oddsOf_26 : decode cX6_oddsOf 26 = .ok (.iload_n 3, 1) := by decide +kernel
theorem dX6_oddsOf_27 : decode cX6_oddsOf 27 = .ok (.iadd, 1) := by decide +kernel
theorem dX6_oddsOf_28 : decode cX6_oddsOf 28 = .ok (.iaload, 1) := by decide +kernel
theorem dX6_oddsOf_29 : decode cX6_oddsOf 29 = .ok (.iconst 3, 1) := by decide +kernel
theorem dX6_oddsOf_30 : decode cX6_oddsOf 30 = .ok (.if_icmp .ne 57, 3) := by decide +kernel
theorem dX6_oddsOf_33 : decode cX6_oddsOf 33 = .ok (.aload_n 0, 1) := by decide +kernel
theorem dX6_oddsOf_34 : decode cX6_oddsOf 34 = .ok (.getfield 7, 3) := by decide +kernel
theorem dX6_oddsOf_37 : decode cX6_oddsOf 37 = .ok (.bipush 80, 2) := by decide +kernel
theorem dX6_oddsOf_39 : decode cX6_oddsOf 39 = .ok (.iload_n 3, 1) := by decide +kernel
theorem dX6_oddsOf_40 : decode cX6_oddsOf 40 = .ok (.iadd, 1) := by decide +kernel
theorem dX6_oddsOf_41 : decode cX6_oddsOf 41 = .ok (.iaload, 1) := by decide +kernel
theorem dX6_oddsOf_42 : decode cX6_oddsOf 42 = .ok (.istore 4, 2) := by decide +kernel
theorem dX6_oddsOf_44 : decode cX6_oddsOf 44 = .ok (.ldc2_w 161, 3) := by decide +kernel
theorem dX6_oddsOf_47 : decode cX6_oddsOf 47 = .ok (.iload 4, 2) := by decide +kernel
theorem dX6_oddsOf_49 : decode cX6_oddsOf 49 = .ok (.i2l, 1) := by decide +kernel
theorem dX6_oddsOf_50 : decode cX6_oddsOf 50 = .ok (.lsub, 1) := by decide +kernel
theorem dX6_oddsOf_51 : decode cX6_oddsOf 51 = .ok (.aload_n 0, 1) := by decide +kernel
theorem dX6_oddsOf_52 : decode cX6_oddsOf 52 = .ok (.aload_n 0, 1) := by decide +kernel
theorem dX6_oddsOf_53 : decode cX6_oddsOf 53 = .ok (.iload_n 1, 1) := by decide +kernel
theorem dX6_oddsOf_54 : decode cX6_oddsOf 54 = .ok (.iconst 0, 1) := by decide +kernel
theorem dX6_oddsOf_55 : decode cX6_oddsOf 55 = .ok (.invokevirtual 231, 3) := by decide +kernel
theorem dX6_oddsOf_58 : decode cX6_oddsOf 58 = .ok (.invokevirtual 277, 3) := by decide +kernel
theorem dX6_oddsOf_61 : decode cX6_oddsOf 61 = .ok (.i2l, 1) := by decide +kernel
theorem dX6_oddsOf_62 : decode cX6_oddsOf 62 = .ok (.lmul, 1) := by decide +kernel
theorem dX6_oddsOf_63 : decode cX6_oddsOf 63 = .ok (.iload 4, 2) := by decide +kernel
theorem dX6_oddsOf_65 : decode cX6_oddsOf 65 = .ok (.i2l, 1) := by decide +kernel
theorem dX6_oddsOf_66 : decode cX6_oddsOf 66 = .ok (.lconst 1, 1) := by decide +kernel
theorem dX6_oddsOf_67 : decode cX6_oddsOf 67 = .ok (.lsub, 1) := by decide +kernel
theorem dX6_oddsOf_68 : decode cX6_oddsOf 68 = .ok (.aload_n 0, 1) := by decide +kernel
theorem dX6_oddsOf_69 : decode cX6_oddsOf 69 = .ok (.aload_n 0, 1) := by decide +kernel
theorem dX6_oddsOf_70 : decode cX6_oddsOf 70 = .ok (.iload_n 1, 1) := by decide +kernel
theorem dX6_oddsOf_71 : decode cX6_oddsOf 71 = .ok (.iconst 1, 1) := by decide +kernel
theorem dX6_oddsOf_72 : decode cX6_oddsOf 72 = .ok (.invokevirtual 231, 3) := by decide +kernel
theorem dX6_oddsOf_75 : decode cX6_oddsOf 75 = .ok (.invokevirtual 277, 3) := by decide +kernel
theorem dX6_oddsOf_78 : decode cX6_oddsOf 78 = .ok (.i2l, 1) := by decide +kernel
theorem dX6_oddsOf_79 : decode cX6_oddsOf 79 = .ok (.lmul, 1) := by decide +kernel
theorem dX6_oddsOf_80 : decode cX6_oddsOf 80 = .ok (.ladd, 1) := by decide +kernel
theorem dX6_oddsOf_81 : decode cX6_oddsOf 81 = .ok (.ldc2_w 263, 3) := by decide +kernel
theorem dX6_oddsOf_84 : decode cX6_oddsOf 84 = .ok (.ldiv, 1) := by decide +kernel
theorem dX6_oddsOf_85 : decode cX6_oddsOf 85 = .ok (.l2i, 1) := by decide +kernel
theorem dX6_oddsOf_86 : decode cX6_oddsOf 86 = .ok (.ireturn, 1) := by decide +kernel
theorem dX6_oddsOf_87 : decode cX6_oddsOf 87 = .ok (.iconst 0, 1) := by decide +kernel
theorem dX6_oddsOf_88 : decode cX6_oddsOf 88 = .ok (.istore 4, 2) := by decide +kernel
theorem dX6_oddsOf_90 : decode cX6_oddsOf 90 = .ok (.iconst 0, 1) := by decide +kernel
theorem dX6_oddsOf_91 : decode cX6_oddsOf 91 = .ok (.istore 5, 2) := by decide +kernel
theorem dX6_oddsOf_93 : decode cX6_oddsOf 93 = .ok (.iload 5, 2) := by decide +kernel
theorem dX6_oddsOf_95 : decode cX6_oddsOf 95 = .ok (.aload_n 0, 1) := by decide +kernel
theorem dX6_oddsOf_96 : decode cX6_oddsOf 96 = .ok (.iload_n 1, 1) := by decide +kernel
theorem dX6_oddsOf_97 : decode cX6_oddsOf 97 = .ok (.invokevirtual 212, 3) := by decide +kernel
theorem dX6_oddsOf_100 : decode cX6_oddsOf 100 = .ok (.if_icmp .ge 52, 3) := by decide +kernel
theorem dX6_oddsOf_103 : decode cX6_oddsOf 103 = .ok (.aload_n 0, 1) := by decide +kernel
theorem dX6_oddsOf_104 : decode cX6_oddsOf 104 = .ok (.iload_n 1, 1) := by decide +kernel
theorem dX6_oddsOf_105 : decode cX6_oddsOf 105 = .ok (.iload 5, 2) := by decide +kernel
theorem dX6_oddsOf_107 : decode cX6_oddsOf 107 = .ok (.invokevirtual 215, 3) := by decide +kernel
theorem dX6_oddsOf_110 : decode cX6_oddsOf 110 = .ok (.ifCond .eq 17, 3) := by decide +kernel
theorem dX6_oddsOf_113 : decode cX6_oddsOf 113 = .ok (.aload_n 0, 1) := by decide +kernel
theorem dX6_oddsOf_114 : decode cX6_oddsOf 114 = .ok (.aload_n 0, 1) := by decide +kernel
theorem dX6_oddsOf_115 : decode cX6_oddsOf 115 = .ok (.iload_n 1, 1) := by decide +kernel
theorem dX6_oddsOf_116 : decode cX6_oddsOf 116 = .ok (.iload 5, 2) := by decide +kernel
theorem dX6_oddsOf_118 : decode cX6_oddsOf 118 = .ok (.invokevirtual 231, 3) := by decide +kernel
theorem dX6_oddsOf_121 : decode cX6_oddsOf 121 = .ok (.invokevirtual 277, 3) := by decide +kernel
theorem dX6_oddsOf_124 : decode cX6_oddsOf 124 = .ok (.goto 4, 3) := by decide +kernel
theorem dX6_oddsOf_127 : decode cX6_oddsOf 127 = .ok (.iconst 0, 1) := by decide +kernel
theorem dX6_oddsOf_128 : decode cX6_oddsOf 128 = .ok (.istore 6, 2) := by decide +kernel
theorem dX6_oddsOf_130 : decode cX6_oddsOf 130 = .ok (.iload 6, 2) := by decide +kernel
theorem dX6_oddsOf_132 : decode cX6_oddsOf 132 = .ok (.iload 4, 2) := by decide +kernel
theorem dX6_oddsOf_134 : decode cX6_oddsOf 134 = .ok (.if_icmp .le 8, 3) := by decide +kernel
theorem dX6_oddsOf_137 : decode cX6_oddsOf 137 = .ok (.iload 6, 2) := by decide +kernel
theorem dX6_oddsOf_139 : decode cX6_oddsOf 139 = .ok (.goto 5, 3) := by decide +kernel
theorem dX6_oddsOf_142 : decode cX6_oddsOf 142 = .ok (.iload 4, 2) := by decide +kernel
theorem dX6_oddsOf_144 : decode cX6_oddsOf 144 = .ok (.istore 4, 2) := by decide +kernel
theorem dX6_oddsOf_146 : decode cX6_oddsOf 146 = .ok (.iinc 5 1, 3) := by decide +kernel
theorem dX6_oddsOf_149 : decode cX6_oddsOf 149 = .ok (.goto (-56), 3) := by decide +kernel
theorem dX6_oddsOf_152 : decode cX6_oddsOf 152 = .ok (.iload 4, 2) := by decide +kernel
theorem dX6_oddsOf_154 : decode cX6_oddsOf 154 = .ok (.ireturn, 1) := by decide +kernel
theorem dX6_findOdds_0 : decode cX6_findOdds 0 = .ok (.iconst 0, 1) := by decide +kernel
theorem dX6_findOdds_1 : decode cX6_findOdds 1 = .ok (.istore_n 2, 1) := by decide +kernel
theorem dX6_findOdds_2 : decode cX6_findOdds 2 = .ok (.iload_n 2, 1) := by decide +kernel
theorem dX6_findOdds_3 : decode cX6_findOdds 3 = .ok (.aload_n 0, 1) := by decide +kernel
theorem dX6_findOdds_4 : decode cX6_findOdds 4 = .ok (.getfield 173, 3) := by decide +kernel
theorem dX6_findOdds_7 : decode cX6_findOdds 7 = .ok (.if_icmp .ge 41, 3) := by decide +kernel
theorem dX6_findOdds_10 : decode cX6_findOdds 10 = .ok (.aload_n 0, 1) := by decide +kernel
theorem dX6_findOdds_11 : decode cX6_findOdds 11 = .ok (.getfield 52, 3) := by decide +kernel
theorem dX6_findOdds_14 : decode cX6_findOdds 14 = .ok (.aload_n 0, 1) := by decide +kernel
theorem dX6_findOdds_15 : decode cX6_findOdds 15 = .ok (.getfield 40, 3) := by decide +kernel
theorem dX6_findOdds_18 : decode cX6_findOdds 18 = .ok (.iload_n 2, 1) := by decide +kernel
theorem dX6_findOdds_19 : decode cX6_findOdds 19 = .ok (.iaload, 1) := by decide +kernel
theorem dX6_findOdds_20 : decode cX6_findOdds 20 = .ok (.aload_n 0, 1) := by decide +kernel
theorem dX6_findOdds_21 : decode cX6_findOdds 21 = .ok (.aload_n 0, 1) := by decide +kernel
theorem dX6_findOdds_22 : decode cX6_findOdds 22 = .ok (.getfield 40, 3) := by decide +kernel
theorem dX6_findOdds_25 : decode cX6_findOdds 25 = .ok (.iload_n 2, 1) := by decide +kernel
theorem dX6_findOdds_26 : decode cX6_findOdds 26 = .ok (.iaload, 1) := by decide +kernel
theorem dX6_findOdds_27 : decode cX6_findOdds 27 = .ok (.invokevirtual 228, 3) := by decide +kernel
theorem dX6_findOdds_30 : decode cX6_findOdds 30 = .ok (.iconst 1, 1) := by decide +kernel
theorem dX6_findOdds_31 : decode cX6_findOdds 31 = .ok (.if_icmp .ne 9, 3) := by decide +kernel
theorem dX6_findOdds_34 : decode cX6_findOdds 34 = .ok (.ldc_w 276, 3) := by decide +kernel
theorem dX6_findOdds_37 : decode cX6_findOdds 37 = .ok (.goto 4, 3) := by decide +kernel
theorem dX6_findOdds_40 : decode cX6_findOdds 40 = .ok (.iconst 0, 1) := by decide +kernel
theorem dX6_findOdds_41 : decode cX6_findOdds 41 = .ok (.iastore, 1) := by decide +kernel
theorem dX6_findOdds_42 : decode cX6_findOdds 42 = .ok (.iinc 2 1, 3) := by decide +kernel
theorem dX6_findOdds_45 : decode cX6_findOdds 45 = .ok (.goto (-43), 3) := by decide +kernel
theorem dX6_findOdds_48 : decode cX6_findOdds 48 = .ok (.iconst 0, 1) := by decide +kernel
theorem dX6_findOdds_49 : decode cX6_findOdds 49 = .ok (.istore_n 2, 1) := by decide +kernel
theorem dX6_findOdds_50 : decode cX6_findOdds 50 = .ok (.iload_n 2, 1) := by decide +kernel
theorem dX6_findOdds_51 : decode cX6_findOdds 51 = .ok (.iload_n 1, 1) := by decide +kernel
theorem dX6_findOdds_52 : decode cX6_findOdds 52 = .ok (.if_icmp .ge 84, 3) := by decide +kernel
theorem dX6_findOdds_55 : decode cX6_findOdds 55 = .ok (.iconst 0, 1) := by decide +kernel
theorem dX6_findOdds_56 : decode cX6_findOdds 56 = .ok (.istore_n 3, 1) := by decide +kernel
theorem dX6_findOdds_57 : decode cX6_findOdds 57 = .ok (.iload_n 3, 1) := by decide +kernel
theorem dX6_findOdds_58 : decode cX6_findOdds 58 = .ok (.aload_n 0, 1) := by decide +kernel
theorem dX6_findOdds_59 : decode cX6_findOdds 59 = .ok (.getfield 173, 3) := by decide +kernel
theorem dX6_findOdds_62 : decode cX6_findOdds 62 = .ok (.if_icmp .ge 30, 3) := by decide +kernel
theorem dX6_findOdds_65 : decode cX6_findOdds 65 = .ok (.aload_n 0, 1) := by decide +kernel
theorem dX6_findOdds_66 : decode cX6_findOdds 66 = .ok (.getfield 49, 3) := by decide +kernel
theorem dX6_findOdds_69 : decode cX6_findOdds 69 = .ok (.aload_n 0, 1) := by decide +kernel
theorem dX6_findOdds_70 : decode cX6_findOdds 70 = .ok (.getfield 40, 3) := by decide +kernel
theorem dX6_findOdds_73 : decode cX6_findOdds 73 = .ok (.iload_n 3, 1) := by decide +kernel
theorem dX6_findOdds_74 : decode cX6_findOdds 74 = .ok (.iaload, 1) := by decide +kernel
theorem dX6_findOdds_75 : decode cX6_findOdds 75 = .ok (.aload_n 0, 1) := by decide +kernel
theorem dX6_findOdds_76 : decode cX6_findOdds 76 = .ok (.aload_n 0, 1) := by decide +kernel
theorem dX6_findOdds_77 : decode cX6_findOdds 77 = .ok (.getfield 40, 3) := by decide +kernel
theorem dX6_findOdds_80 : decode cX6_findOdds 80 = .ok (.iload_n 3, 1) := by decide +kernel
theorem dX6_findOdds_81 : decode cX6_findOdds 81 = .ok (.iaload, 1) := by decide +kernel
theorem dX6_findOdds_82 : decode cX6_findOdds 82 = .ok (.invokevirtual 280, 3) := by decide +kernel
theorem dX6_findOdds_85 : decode cX6_findOdds 85 = .ok (.iastore, 1) := by decide +kernel
theorem dX6_findOdds_86 : decode cX6_findOdds 86 = .ok (.iinc 3 1, 3) := by decide +kernel
theorem dX6_findOdds_89 : decode cX6_findOdds 89 = .ok (.goto (-32), 3) := by decide +kernel
theorem dX6_findOdds_92 : decode cX6_findOdds 92 = .ok (.iconst 0, 1) := by decide +kernel
theorem dX6_findOdds_93 : decode cX6_findOdds 93 = .ok (.istore_n 3, 1) := by decide +kernel
theorem dX6_findOdds_94 : decode cX6_findOdds 94 = .ok (.iload_n 3, 1) := by decide +kernel
theorem dX6_findOdds_95 : decode cX6_findOdds 95 = .ok (.aload_n 0, 1) := by decide +kernel
theorem dX6_findOdds_96 : decode cX6_findOdds 96 = .ok (.getfield 173, 3) := by decide +kernel
theorem dX6_findOdds_99 : decode cX6_findOdds 99 = .ok (.if_icmp .ge 31, 3) := by decide +kernel
theorem dX6_findOdds_102 : decode cX6_findOdds 102 = .ok (.aload_n 0, 1) := by decide +kernel
theorem dX6_findOdds_103 : decode cX6_findOdds 103 = .ok (.getfield 52, 3) := by decide +kernel
theorem dX6_findOdds_106 : decode cX6_findOdds 106 = .ok (.aload_n 0, 1) := by decide +kernel
theorem dX6_findOdds_107 : decode cX6_findOdds 107 = .ok (.getfield 40, 3) := by decide +kernel
theorem dX6_findOdds_110 : decode cX6_findOdds 110 = .ok (.iload_n 3, 1) := by decide +kernel
theorem dX6_findOdds_111 : decode cX6_findOdds 111 = .ok (.iaload, 1) := by decide +kernel
theorem dX6_findOdds_112 : decode cX6_findOdds 112 = .ok (.aload_n 0, 1) := by decide +kernel
theorem dX6_findOdds_113 : decode cX6_findOdds 113 = .ok (.getfield 49, 3) := by decide +kernel
theorem dX6_findOdds_116 : decode cX6_findOdds 116 = .ok (.aload_n 0, 1) := by decide +kernel
theorem dX6_findOdds_117 : decode cX6_findOdds 117 = .ok (.getfield 40, 3) := by decide +kernel
theorem dX6_findOdds_120 : decode cX6_findOdds 120 = .ok (.iload_n 3, 1) := by decide +kernel
theorem dX6_findOdds_121 : decode cX6_findOdds 121 = .ok (.iaload, 1) := by decide +kernel
theorem dX6_findOdds_122 : decode cX6_findOdds 122 = .ok (.iaload, 1) := by decide +kernel
theorem dX6_findOdds_123 : decode cX6_findOdds 123 = .ok (.iastore, 1) := by decide +kernel
theorem dX6_findOdds_124 : decode cX6_findOdds 124 = .ok (.iinc 3 1, 3) := by decide +kernel
theorem dX6_findOdds_127 : decode cX6_findOdds 127 = .ok (.goto (-33), 3) := by decide +kernel
theorem dX6_findOdds_130 : decode cX6_findOdds 130 = .ok (.iinc 2 1, 3) := by decide +kernel
theorem dX6_findOdds_133 : decode cX6_findOdds 133 = .ok (.goto (-83), 3) := by decide +kernel
theorem dX6_findOdds_136 : decode cX6_findOdds 136 = .ok (.return_, 1) := by decide +kernel
theorem dX6_nowState_0 : decode cX6_nowState 0 = .ok (.aload_n 0, 1) := by decide +kernel
theorem dX6_nowState_1 : decode cX6_nowState 1 = .ok (.invokevirtual 250, 3) := by decide +kernel
theorem dX6_nowState_4 : decode cX6_nowState 4 = .ok (.iconst 2, 1) := by decide +kernel
theorem dX6_nowState_5 : decode cX6_nowState 5 = .ok (.if_icmp .ne 8, 3) := by decide +kernel
theorem dX6_nowState_8 : decode cX6_nowState 8 = .ok (.bipush (-2), 2) := by decide +kernel
theorem dX6_nowState_10 : decode cX6_nowState 10 = .ok (.goto 24, 3) := by decide +kernel
theorem dX6_nowState_13 : decode cX6_nowState 13 = .ok (.aload_n 0, 1) := by decide +kernel
theorem dX6_nowState_14 : decode cX6_nowState 14 = .ok (.getfield 7, 3) := by decide +kernel
theorem dX6_nowState_17 : decode cX6_nowState 17 = .ok (.iconst 3, 1) := by decide +kernel
theorem dX6_nowState_18 : decode cX6_nowState 18 = .ok (.iaload, 1) := by decide +kernel
theorem dX6_nowState_19 : decode cX6_nowState 19 = .ok (.aload_n 0, 1) := by decide +kernel
theorem dX6_nowState_20 : decode cX6_nowState 20 = .ok (.getfield 7, 3) := by decide +kernel
theorem dX6_nowState_23 : decode cX6_nowState 23 = .ok (.iconst 4, 1) := by decide +kernel
theorem dX6_nowState_24 : decode cX6_nowState 24 = .ok (.iaload, 1) := by decide +kernel
theorem dX6_nowState_25 : decode cX6_nowState 25 = .ok (.aload_n 0, 1) := by decide +kernel
theorem dX6_nowState_26 : decode cX6_nowState 26 = .ok (.getfield 7, 3) := by decide +kernel
theorem dX6_nowState_29 : decode cX6_nowState 29 = .ok (.iconst 5, 1) := by decide +kernel
theorem dX6_nowState_30 : decode cX6_nowState 30 = .ok (.iaload, 1) := by decide +kernel
theorem dX6_nowState_31 : decode cX6_nowState 31 = .ok (.invokestatic 186, 3) := by decide +kernel
theorem dX6_nowState_34 : decode cX6_nowState 34 = .ok (.ireturn, 1) := by decide +kernel
theorem dX6_odds_0 : decode cX6_odds 0 = .ok (.iload_n 1, 1) := by decide +kernel
theorem dX6_odds_1 : decode cX6_odds 1 = .ok (.i2l, 1) := by decide +kernel
theorem dX6_odds_2 : decode cX6_odds 2 = .ok (.lconst 0, 1) := by decide +kernel
theorem dX6_odds_3 : decode cX6_odds 3 = .ok (.ldc2_w 283, 3) := by decide +kernel
theorem dX6_odds_6 : decode cX6_odds 6 = .ok (.invokestatic 66, 3) := by decide +kernel
theorem dX6_odds_9 : decode cX6_odds 9 = .ok (.ifCond .ne 6, 3) := by decide +kernel
theorem dX6_odds_12 : decode cX6_odds 12 = .ok (.ldc 70, 2) := by decide +kernel
theorem dX6_odds_14 : decode cX6_odds 14 = .ok (.ireturn, 1) := by decide +kernel
theorem dX6_odds_15 : decode cX6_odds 15 = .ok (.aload_n 0, 1) := by decide +kernel
theorem dX6_odds_16 : decode cX6_odds 16 = .ok (.getfield 7, 3) := by decide +kernel
theorem dX6_odds_19 : decode cX6_odds 19 = .ok (.iconst 3, 1) := by decide +kernel
theorem dX6_odds_20 : decode cX6_odds 20 = .ok (.iaload, 1) := by decide +kernel
theorem dX6_odds_21 : decode cX6_odds 21 = .ok (.ifCond .ge 6, 3) := by decide +kernel
theorem dX6_odds_24 : decode cX6_odds 24 = .ok (.ldc 166, 2) := by decide +kernel
theorem dX6_odds_26 : decode cX6_odds 26 = .ok (.ireturn, 1) := by decide +kernel
theorem dX6_odds_27 : decode cX6_odds 27 = .ok (.aload_n 0, 1) := by decide +kernel
theorem dX6_odds_28 : decode cX6_odds 28 = .ok (.invokevirtual 285, 3) := by decide +kernel
theorem dX6_odds_31 : decode cX6_odds 31 = .ok (.istore_n 2, 1) := by decide +kernel
theorem dX6_odds_32 : decode cX6_odds 32 = .ok (.aload_n 0, 1) := by decide +kernel
theorem dX6_odds_33 : decode cX6_odds 33 = .ok (.iload_n 2, 1) := by decide +kernel
theorem dX6_odds_34 : decode cX6_odds 34 = .ok (.invokevirtual 288, 3) := by decide +kernel
theorem dX6_odds_37 : decode cX6_odds 37 = .ok (.aload_n 0, 1) := by decide +kernel
theorem dX6_odds_38 : decode cX6_odds 38 = .ok (.iload_n 1, 1) := by decide +kernel
theorem dX6_odds_39 : decode cX6_odds 39 = .ok (.invokevirtual 291, 3) := by decide +kernel
theorem dX6_odds_42 : decode cX6_odds 42 = .ok (.aload_n 0, 1) := by decide +kernel
theorem dX6_odds_43 : decode cX6_odds 43 = .ok (.iload_n 2, 1) := by decide +kernel
theorem dX6_odds_44 : decode cX6_odds 44 = .ok (.invokevirtual 277, 3) := by decide +kernel
theorem dX6_odds_47 : decode cX6_odds 47 = .ok (.ireturn, 1) := by decide +kernel
theorem dX6_advice_0 : decode cX6_advice 0 = .ok (.iload_n 1, 1) := by decide +kernel
theorem dX6_advice_1 : decode cX6_advice 1 = .ok (.i2l, 1) := by decide +kernel
theorem dX6_advice_2 : decode cX6_advice 2 = .ok (.lconst 1, 1) := by decide +kernel
theorem dX6_advice_3 : decode cX6_advice 3 = .ok (.ldc2_w 283, 3) := by decide +kernel
theorem dX6_advice_6 : decode cX6_advice 6 = .ok (.invokestatic 66, 3) := by decide +kernel
theorem dX6_advice_9 : decode cX6_advice 9 = .ok (.ifCond .ne 6, 3) := by decide +kernel
theorem dX6_advice_12 : decode cX6_advice 12 = .ok (.ldc 70, 2) := by decide +kernel
theorem dX6_advice_14 : decode cX6_advice 14 = .ok (.ireturn, 1) := by decide +kernel
theorem dX6_advice_15 : decode cX6_advice 15 = .ok (.aload_n 0, 1) := by decide +kernel
theorem dX6_advice_16 : decode cX6_advice 16 = .ok (.getfield 7, 3) := by decide +kernel
theorem dX6_advice_19 : decode cX6_advice 19 = .ok (.iconst 3, 1) := by decide +kernel
theorem dX6_advice_20 : decode cX6_advice 20 = .ok (.iaload, 1) := by decide +kernel
theorem dX6_advice_21 : decode cX6_advice 21 = .ok (.ifCond .ge 6, 3) := by decide +kernel
theorem dX6_advice_24 : decode cX6_advice 24 = .ok (.ldc 166, 2) := by decide +kernel
theorem dX6_advice_26 : decode cX6_advice 26 = .ok (.ireturn, 1) := by decide +kernel
theorem dX6_advice_27 : decode cX6_advice 27 = .ok (.aload_n 0, 1) := by decide +kernel
theorem dX6_advice_28 : decode cX6_advice 28 = .ok (.invokevirtual 250, 3) := by decide +kernel
theorem dX6_advice_31 : decode cX6_advice 31 = .ok (.ifCond .ne 21, 3) := by decide +kernel
theorem dX6_advice_34 : decode cX6_advice 34 = .ok (.aload_n 0, 1) := by decide +kernel
theorem dX6_advice_35 : decode cX6_advice 35 = .ok (.getfield 7, 3) := by decide +kernel
theorem dX6_advice_38 : decode cX6_advice 38 = .ok (.bipush 8, 2) := by decide +kernel
theorem dX6_advice_40 : decode cX6_advice 40 = .ok (.aload_n 0, 1) := by decide +kernel
theorem dX6_advice_41 : decode cX6_advice 41 = .ok (.getfield 7, 3) := by decide +kernel
theorem dX6_advice_44 : decode cX6_advice 44 = .ok (.iconst 3, 1) := by decide +kernel
theorem dX6_advice_45 : decode cX6_advice 45 = .ok (.iaload, 1) := by decide +kernel
theorem dX6_advice_46 : decode cX6_advice 46 = .ok (.iadd, 1) := by decide +kernel
theorem dX6_advice_47 : decode cX6_advice 47 = .ok (.iaload, 1) := by decide +kernel
theorem dX6_advice_48 : decode cX6_advice 48 = .ok (.iconst 3, 1) := by decide +kernel
theorem dX6_advice_49 : decode cX6_advice 49 = .ok (.if_icmp .ne 5, 3) := by decide +kernel
theorem dX6_advice_52 : decode cX6_advice 52 = .ok (.iconst (-1), 1) := by decide +kernel
theorem dX6_advice_53 : decode cX6_advice 53 = .ok (.ireturn, 1) := by decide +kernel
theorem dX6_advice_54 : decode cX6_advice 54 = .ok (.aload_n 0, 1) := by decide +kernel
theorem dX6_advice_55 : decode cX6_advice 55 = .ok (.invokevirtual 285, 3) := by decide +kernel
theorem dX6_advice_58 : decode cX6_advice 58 = .ok (.istore_n 2, 1) := by decide +kernel
theorem dX6_advice_59 : decode cX6_advice 59 = .ok (.aload_n 0, 1) := by decide +kernel
theorem dX6_advice_60 : decode cX6_advice 60 = .ok (.iload_n 2, 1) := by decide +kernel
theorem dX6_advice_61 : decode cX6_advice 61 = .ok (.invokevirtual 288, 3) := by decide +kernel
theorem dX6_advice_64 : decode cX6_advice 64 = .ok (.aload_n 0, 1) := by decide +kernel
theorem dX6_advice_65 : decode cX6_advice 65 = .ok (.iload_n 1, 1) := by decide +kernel
theorem dX6_advice_66 : decode cX6_advice 66 = .ok (.iconst 1, 1) := by decide +kernel
theorem dX6_advice_67 : decode cX6_advice 67 = .ok (.isub, 1) := by decide +kernel
theorem dX6_advice_68 : decode cX6_advice 68 = .ok (.invokevirtual 291, 3) := by decide +kernel
theorem dX6_advice_71 : decode cX6_advice 71 = .ok (.iconst (-1), 1) := by decide +kernel
theorem dX6_advice_72 : decode cX6_advice 72 = .ok (.istore_n 3, 1) := by decide +kernel
theorem dX6_advice_73 : decode cX6_advice 73 = .ok (.iconst 0, 1) := by decide +kernel
theorem dX6_advice_74 : decode cX6_advice 74 = .ok (.istore 4, 2) := by decide +kernel
theorem dX6_advice_76 : decode cX6_advice 76 = .ok (.iconst 0, 1) := by decide +kernel
theorem dX6_advice_77 : decode cX6_advice 77 = .ok (.istore 5, 2) := by decide +kernel
theorem dX6_advice_79 : decode cX6_advice 79 = .ok (.iload 5, 2) := by decide +kernel
theorem dX6_advice_81 : decode cX6_advice 81 = .ok (.aload_n 0, 1) := by decide +kernel
theorem dX6_advice_82 : decode cX6_advice 82 = .ok (.iload_n 2, 1) := by decide +kernel
theorem dX6_advice_83 : decode cX6_advice 83 = .ok (.invokevirtual 212, 3) := by decide +kernel
theorem dX6_advice_86 : decode cX6_advice 86 = .ok (.if_icmp .ge 59, 3) := by decide +kernel
theorem dX6_advice_89 : decode cX6_advice 89 = .ok (.aload_n 0, 1) := by decide +kernel
theorem dX6_advice_90 : decode cX6_advice 90 = .ok (.iload_n 2, 1) := by decide +kernel
theorem dX6_advice_91 : decode cX6_advice 91 = .ok (.iload 5, 2) := by decide +kernel
theorem dX6_advice_93 : decode cX6_advice 93 = .ok (.invokevirtual 215, 3) := by decide +kernel
theorem dX6_advice_96 : decode cX6_advice 96 = .ok (.ifCond .eq 17, 3) := by decide +kernel
theorem dX6_advice_99 : decode cX6_advice 99 = .ok (.aload_n 0, 1) := by decide +kernel
theorem dX6_advice_100 : decode cX6_advice 100 = .ok (.aload_n 0, 1) := by decide +kernel
theorem dX6_advice_101 : decode cX6_advice 101 = .ok (.iload_n 2, 1) := by decide +kernel
theorem dX6_advice_102 : decode cX6_advice 102 = .ok (.iload 5, 2) := by decide +kernel
theorem dX6_advice_104 : decode cX6_advice 104 = .ok (.invokevirtual 231, 3) := by decide +kernel
theorem dX6_advice_107 : decode cX6_advice 107 = .ok (.invokevirtual 277, 3) := by decide +kernel
theorem dX6_advice_110 : decode cX6_advice 110 = .ok (.goto 4, 3) := by decide +kernel
theorem dX6_advice_113 : decode cX6_advice 113 = .ok (.iconst (-1), 1) := by decide +kernel
theorem dX6_advice_114 : decode cX6_advice 114 = .ok (.istore 6, 2) := by decide +kernel
theorem dX6_advice_116 : decode cX6_advice 116 = .ok (.iload 6, 2) := by decide +kernel
theorem dX6_advice_118 : decode cX6_advice 118 = .ok (.ifCond .lt 21, 3) := by decide +kernel
theorem dX6_advice_121 : decode cX6_advice 121 = .ok (.iload_n 3, 1) := by decide +kernel
theorem dX6_advice_122 : decode cX6_advice 122 = .ok (.ifCond .lt 10, 3) := by decide +kernel
theorem dX6_advice_125 : decode cX6_advice 125 = .ok (.iload 6, 2) := by decide +kernel
theorem dX6_advice_127 : decode cX6_advice 127 = .ok (.iload 4, 2) := by decide +kernel
theorem dX6_advice_129 : decode cX6_advice 129 = .ok (.if_icmp .le 10, 3) := by decide +kernel
theorem dX6_advice_132 : decode cX6_advice 132 = .ok (.iload 5, 2) := by decide +kernel
theorem dX6_advice_134 : decode cX6_advice 134 = .ok (.istore_n 3, 1) := by decide +kernel
theorem dX6_advice_135 : decode cX6_advice 135 = .ok (.iload 6, 2) := by decide +kernel
theorem dX6_advice_137 : decode cX6_advice 137 = .ok (.istore 4, 2) := by decide +kernel
theorem dX6_advice_139 : decode cX6_advice 139 = .ok (.iinc 5 1, 3) := by decide +kernel
theorem dX6_advice_142 : decode cX6_advice 142 = .ok (.goto (-63), 3) := by decide +kernel
theorem dX6_advice_145 : decode cX6_advice 145 = .ok (.iload_n 3, 1) := by decide +kernel
theorem dX6_advice_146 : decode cX6_advice 146 = .ok (.ireturn, 1) := by decide +kernel
theorem dX6_fewest_0 : decode cX6_fewest 0 = .ok (.aload_n 0, 1) := by decide +kernel
theorem dX6_fewest_1 : decode cX6_fewest 1 = .ok (.getfield 7, 3) := by decide +kernel
theorem dX6_fewest_4 : decode cX6_fewest 4 = .ok (.iconst 3, 1) := by decide +kernel
theorem dX6_fewest_5 : decode cX6_fewest 5 = .ok (.iaload, 1) := by decide +kernel
theorem dX6_fewest_6 : decode cX6_fewest 6 = .ok (.ifCond .ge 6, 3) := by decide +kernel
theorem dX6_fewest_9 : decode cX6_fewest 9 = .ok (.ldc 166, 2) := by decide +kernel
theorem dX6_fewest_11 : decode cX6_fewest 11 = .ok (.ireturn, 1) := by decide +kernel
theorem dX6_fewest_12 : decode cX6_fewest 12 = .ok (.aload_n 0, 1) := by decide +kernel
theorem dX6_fewest_13 : decode cX6_fewest 13 = .ok (.aload_n 0, 1) := by decide +kernel
theorem dX6_fewest_14 : decode cX6_fewest 14 = .ok (.invokevirtual 285, 3) := by decide +kernel
theorem dX6_fewest_17 : decode cX6_fewest 17 = .ok (.invokevirtual 288, 3) := by decide +kernel
theorem dX6_fewest_20 : decode cX6_fewest 20 = .ok (.iconst (-1), 1) := by decide +kernel
theorem dX6_fewest_21 : decode cX6_fewest 21 = .ok (.istore_n 1, 1) := by decide +kernel
theorem dX6_fewest_22 : decode cX6_fewest 22 = .ok (.iconst 0, 1) := by decide +kernel
theorem dX6_fewest_23 : decode cX6_fewest 23 = .ok (.istore_n 2, 1) := by decide +kernel
theorem dX6_fewest_24 : decode cX6_fewest 24 = .ok (.iload_n 2, 1) := by decide +kernel
theorem dX6_fewest_25 : decode cX6_fewest 25 = .ok (.aload_n 0, 1) := by decide +kernel
theorem dX6_fewest_26 : decode cX6_fewest 26 = .ok (.getfield 173, 3) := by decide +kernel
theorem dX6_fewest_29 : decode cX6_fewest 29 = .ok (.if_icmp .ge 52, 3) := by decide +kernel
theorem dX6_fewest_32 : decode cX6_fewest 32 = .ok (.aload_n 0, 1) := by decide +kernel
theorem dX6_fewest_33 : decode cX6_fewest 33 = .ok (.getfield 43, 3) := by decide +kernel
theorem dX6_fewest_36 : decode cX6_fewest 36 = .ok (.aload_n 0, 1) := by decide +kernel
theorem dX6_fewest_37 : decode cX6_fewest 37 = .ok (.getfield 40, 3) := by decide +kernel
theorem dX6_fewest_40 : decode cX6_fewest 40 = .ok (.iload_n 2, 1) := by decide +kernel
theorem dX6_fewest_41 : decode cX6_fewest 41 = .ok (.iaload, 1) := by decide +kernel
theorem dX6_fewest_42 : decode cX6_fewest 42 = .ok (.iaload, 1) := by decide +kernel
theorem dX6_fewest_43 : decode cX6_fewest 43 = .ok (.iconst 1, 1) := by decide +kernel
theorem dX6_fewest_44 : decode cX6_fewest 44 = .ok (.isub, 1) := by decide +kernel
theorem dX6_fewest_45 : decode cX6_fewest 45 = .ok (.istore_n 3, 1) := by decide +kernel
theorem dX6_fewest_46 : decode cX6_fewest 46 = .ok (.aload_n 0, 1) := by decide +kernel
theorem dX6_fewest_47 : decode cX6_fewest 47 = .ok (.aload_n 0, 1) := by decide +kernel
theorem dX6_fewest_48 : decode cX6_fewest 48 = .ok (.getfield 40, 3) := by decide +kernel
theorem dX6_fewest_51 : decode cX6_fewest 51 = .ok (.iload_n 2, 1) := by decide +kernel
theorem dX6_fewest_52 : decode cX6_fewest 52 = .ok (.iaload, 1) := by decide +kernel
theorem dX6_fewest_53 : decode cX6_fewest 53 = .ok (.invokevirtual 228, 3) := by decide +kernel
theorem dX6_fewest_56 : decode cX6_fewest 56 = .ok (.iconst 1, 1) := by decide +kernel
theorem dX6_fewest_57 : decode cX6_fewest 57 = .ok (.if_icmp .ne 16, 3) := by decide +kernel
theorem dX6_fewest_60 : decode cX6_fewest 60 = .ok (.iload_n 1, 1) := by decide +kernel
theorem dX6_fewest_61 : decode cX6_fewest 61 = .ok (.ifCond .lt 8, 3) := by decide +kernel
theorem dX6_fewest_64 : decode cX6_fewest 64 = .ok (.iload_n 3, 1) := by decide +kernel
theorem dX6_fewest_65 : decode cX6_fewest 65 = .ok (.iload_n 1, 1) := by decide +kernel
theorem dX6_fewest_66 : decode cX6_fewest 66 = .ok (.if_icmp .ge 7, 3) := by decide +kernel
theorem dX6_fewest_69 : decode cX6_fewest 69 = .ok (.iload_n 3, 1) := by decide +kernel
theorem dX6_fewest_70 : decode cX6_fewest 70 = .ok (.goto 4, 3) := by decide +kernel
theorem dX6_fewest_73 : decode cX6_fewest 73 = .ok (.iload_n 1, 1) := by decide +kernel
theorem dX6_fewest_74 : decode cX6_fewest 74 = .ok (.istore_n 1, 1) := by decide +kernel
theorem dX6_fewest_75 : decode cX6_fewest 75 = .ok (.iinc 2 1, 3) := by decide +kernel
theorem dX6_fewest_78 : decode cX6_fewest 78 = .ok (.goto (-54), 3) := by decide +kernel
theorem dX6_fewest_81 : decode cX6_fewest 81 = .ok (.iload_n 1, 1) := by decide +kernel
theorem dX6_fewest_82 : decode cX6_fewest 82 = .ok (.ireturn, 1) := by decide +kernel
theorem dX6_isSureAt_0 : decode cX6_isSureAt 0 = .ok (.iload_n 1, 1) := by decide +kernel
theorem dX6_isSureAt_1 : decode cX6_isSureAt 1 = .ok (.bipush (-2), 2) := by decide +kernel
theorem dX6_isSureAt_3 : decode cX6_isSureAt 3 = .ok (.if_icmp .eq 16, 3) := by decide +kernel
theorem dX6_isSureAt_6 : decode cX6_isSureAt 6 = .ok (.aload_n 0, 1) := by decide +kernel
theorem dX6_isSureAt_7 : decode cX6_isSureAt 7 = .ok (.getfield 58, 3) := by decide +kernel
theorem dX6_isSureAt_10 : decode cX6_isSureAt 10 = .ok (.iload_n 1, 1) := by decide +kernel
theorem dX6_isSureAt_11 : decode cX6_isSureAt 11 = .ok (.baload, 1) := by decide +kernel
theorem dX6_isSureAt_12 : decode cX6_isSureAt 12 = .ok (.ifCond .eq 7, 3) := by decide +kernel
theorem dX6_isSureAt_15 : decode cX6_isSureAt 15 = .ok (.iconst 1, 1) := by decide +kernel
theorem dX6_isSureAt_16 : decode cX6_isSureAt 16 = .ok (.goto 4, 3) := by decide +kernel
theorem dX6_isSureAt_19 : decode cX6_isSureAt 19 = .ok (.iconst 0, 1) := by decide +kernel
theorem dX6_isSureAt_20 : decode cX6_isSureAt 20 = .ok (.ireturn, 1) := by decide +kernel
theorem dX6_makesSure_0 : decode cX6_makesSure 0 = .ok (.aload_n 0, 1) := by decide +kernel
theorem dX6_makesSure_1 : decode cX6_makesSure 1 = .ok (.iload_n 1, 1) := by decide +kernel
theorem dX6_makesSure_2 : decode cX6_makesSure 2 = .ok (.invokevirtual 228, 3) := by decide +kernel
theorem dX6_makesSure_5 : decode cX6_makesSure 5 = .ok (.iconst 1, 1) := by decide +kernel
theorem dX6_makesSure_6 : decode cX6_makesSure 6 = .ok (.if_icmp .ne 5, 3) := by decide +kernel
theorem dX6_makesSure_9 : decode cX6_makesSure 9 = .ok (.iconst 1, 1) := by decide +kernel
theorem dX6_makesSure_10 : decode cX6_makesSure 10 = .ok (.ireturn, 1) := by decide +kernel
theorem dX6_makesSure_11 : decode cX6_makesSure 11 = .ok (.aload_n 0, 1) := by decide +kernel
theorem dX6_makesSure_12 : decode cX6_makesSure 12 = .ok (.getfield 7, 3) := by decide +kernel
theorem dX6_makesSure_15 : decode cX6_makesSure 15 = .ok (.bipush 8, 2) := by decide +kernel
theorem dX6_makesSure_17 : decode cX6_makesSure 17 = .ok (.iload_n 1, 1) := by decide +kernel
theorem dX6_makesSure_18 : decode cX6_makesSure 18 = .ok (.invokestatic 194, 3) := by decide +kernel
theorem dX6_makesSure_21 : decode cX6_makesSure 21 = .ok (.iadd, 1) := by decide +kernel
theorem dX6_makesSure_22 : decode cX6_makesSure 22 = .ok (.iaload, 1) := by decide +kernel
theorem dX6_makesSure_23 : decode cX6_makesSure 23 = .ok (.iconst 3, 1) := by decide +kernel
theorem dX6_makesSure_24 : decode cX6_makesSure 24 = .ok (.if_icmp .ne 7, 3) := by decide +kernel
theorem dX6_makesSure_27 : decode cX6_makesSure 27 = .ok (.iconst 1, 1) := by decide +kernel
theorem dX6_makesSure_28 : decode cX6_makesSure 28 = .ok (.goto 4, 3) := by decide +kernel
theorem dX6_makesSure_31 : decode cX6_makesSure 31 = .ok (.iconst 0, 1) := by decide +kernel
theorem dX6_makesSure_32 : decode cX6_makesSure 32 = .ok (.istore_n 2, 1) := by decide +kernel
theorem dX6_makesSure_33 : decode cX6_makesSure 33 = .ok (.iload_n 2, 1) := by decide +kernel
theorem dX6_makesSure_34 : decode cX6_makesSure 34 = .ok (.istore_n 3, 1) := by decide +kernel
theorem dX6_makesSure_35 : decode cX6_makesSure 35 = .ok (.iconst 0, 1) := by decide +kernel
theorem dX6_makesSure_36 : decode cX6_makesSure 36 = .ok (.istore 4, 2) := by decide +kernel
theorem dX6_makesSure_38 : decode cX6_makesSure 38 = .ok (.iload 4, 2) := by decide +kernel
theorem dX6_makesSure_40 : decode cX6_makesSure 40 = .ok (.aload_n 0, 1) := by decide +kernel
theorem dX6_makesSure_41 : decode cX6_makesSure 41 = .ok (.iload_n 1, 1) := by decide +kernel
theorem dX6_makesSure_42 : decode cX6_makesSure 42 = .ok (.invokevirtual 212, 3) := by decide +kernel
theorem dX6_makesSure_45 : decode cX6_makesSure 45 = .ok (.if_icmp .ge 76, 3) := by decide +kernel
theorem dX6_makesSure_48 : decode cX6_makesSure 48 = .ok (.aload_n 0, 1) := by decide +kernel
theorem dX6_makesSure_49 : decode cX6_makesSure 49 = .ok (.iload_n 1, 1) := by decide +kernel
theorem dX6_makesSure_50 : decode cX6_makesSure 50 = .ok (.iload 4, 2) := by decide +kernel
theorem dX6_makesSure_52 : decode cX6_makesSure 52 = .ok (.invokevirtual 215, 3) := by decide +kernel
theorem dX6_makesSure_55 : decode cX6_makesSure 55 = .ok (.ifCond .eq 21, 3) := by decide +kernel
theorem dX6_makesSure_58 : decode cX6_makesSure 58 = .ok (.aload_n 0, 1) := by decide +kernel
theorem dX6_makesSure_59 : decode cX6_makesSure 59 = .ok (.aload_n 0, 1) := by decide +kernel
theorem dX6_makesSure_60 : decode cX6_makesSure 60 = .ok (.iload_n 1, 1) := by decide +kernel
theorem dX6_makesSure_61 : decode cX6_makesSure 61 = .ok (.iload 4, 2) := by decide +kernel
theorem dX6_makesSure_63 : decode cX6_makesSure 63 = .ok (.invokevirtual 231, 3) := by decide +kernel
theorem dX6_makesSure_66 : decode cX6_makesSure 66 = .ok (.invokevirtual 294, 3) := by decide +kernel
theorem dX6_makesSure_69 : decode cX6_makesSure 69 = .ok (.ifCond .eq 7, 3) := by decide +kernel
theorem dX6_makesSure_72 : decode cX6_makesSure 72 = .ok (.iconst 1, 1) := by decide +kernel
theorem dX6_makesSure_73 : decode cX6_makesSure 73 = .ok (.goto 4, 3) := by decide +kernel
theorem dX6_makesSure_76 : decode cX6_makesSure 76 = .ok (.iconst 0, 1) := by decide +kernel
theorem dX6_makesSure_77 : decode cX6_makesSure 77 = .ok (.istore 5, 2) := by decide +kernel
theorem dX6_makesSure_79 : decode cX6_makesSure 79 = .ok (.iload_n 2, 1) := by decide +kernel
theorem dX6_makesSure_80 : decode cX6_makesSure 80 = .ok (.ifCond .eq 20, 3) := by decide +kernel
theorem dX6_makesSure_83 : decode cX6_makesSure 83 = .ok (.iload_n 3, 1) := by decide +kernel
theorem dX6_makesSure_84 : decode cX6_makesSure 84 = .ok (.ifCond .eq 12, 3) := by decide +kernel
theorem dX6_makesSure_87 : decode cX6_makesSure 87 = .ok (.iload 5, 2) := by decide +kernel
theorem dX6_makesSure_89 : decode cX6_makesSure 89 = .ok (.ifCond .eq 7, 3) := by decide +kernel
theorem dX6_makesSure_92 : decode cX6_makesSure 92 = .ok (.iconst 1, 1) := by decide +kernel
theorem dX6_makesSure_93 : decode cX6_makesSure 93 = .ok (.goto 21, 3) := by decide +kernel
theorem dX6_makesSure_96 : decode cX6_makesSure 96 = .ok (.iconst 0, 1) := by decide +kernel
theorem dX6_makesSure_97 : decode cX6_makesSure 97 = .ok (.goto 17, 3) := by decide +kernel
theorem dX6_makesSure_100 : decode cX6_makesSure 100 = .ok (.iload_n 3, 1) := by decide +kernel
theorem dX6_makesSure_101 : decode cX6_makesSure 101 = .ok (.ifCond .ne 8, 3) := by decide +kernel
theorem dX6_makesSure_104 : decode cX6_makesSure 104 = .ok (.iload 5, 2) := by decide +kernel
theorem dX6_makesSure_106 : decode cX6_makesSure 106 = .ok (.ifCond .eq 7, 3) := by decide +kernel
theorem dX6_makesSure_109 : decode cX6_makesSure 109 = .ok (.iconst 1, 1) := by decide +kernel
theorem dX6_makesSure_110 : decode cX6_makesSure 110 = .ok (.goto 4, 3) := by decide +kernel
theorem dX6_makesSure_113 : decode cX6_makesSure 113 = .ok (.iconst 0, 1) := by decide +kernel
theorem dX6_makesSure_114 : decode cX6_makesSure 114 = .ok (.istore_n 3, 1) := by decide +kernel
theorem dX6_makesSure_115 : decode cX6_makesSure 115 = .ok (.iinc 4 1, 3) := by decide +kernel
theorem dX6_makesSure_118 : decode cX6_makesSure 118 = .ok (.goto (-80), 3) := by decide +kernel
theorem dX6_makesSure_121 : decode cX6_makesSure 121 = .ok (.iload_n 3, 1) := by decide +kernel
theorem dX6_makesSure_122 : decode cX6_makesSure 122 = .ok (.ireturn, 1) := by decide +kernel
theorem dX6_surely_0 : decode cX6_surely 0 = .ok (.aload_n 0, 1) := by decide +kernel
theorem dX6_surely_1 : decode cX6_surely 1 = .ok (.getfield 7, 3) := by decide +kernel
theorem dX6_surely_4 : decode cX6_surely 4 = .ok (.iconst 3, 1) := by decide +kernel
theorem dX6_surely_5 : decode cX6_surely 5 = .ok (.iaload, 1) := by decide +kernel
theorem dX6_surely_6 : decode cX6_surely 6 = .ok (.ifCond .ge 6, 3) := by decide +kernel
theorem dX6_surely_9 : decode cX6_surely 9 = .ok (.ldc 166, 2) := by decide +kernel
theorem dX6_surely_11 : decode cX6_surely 11 = .ok (.ireturn, 1) := by decide +kernel
theorem dX6_surely_12 : decode cX6_surely 12 = .ok (.aload_n 0, 1) := by decide +kernel
theorem dX6_surely_13 : decode cX6_surely 13 = .ok (.invokevirtual 285, 3) := by decide +kernel
theorem dX6_surely_16 : decode cX6_surely 16 = .ok (.istore_n 1, 1) := by decide +kernel
theorem dX6_surely_17 : decode cX6_surely 17 = .ok (.aload_n 0, 1) := by decide +kernel
theorem dX6_surely_18 : decode cX6_surely 18 = .ok (.iload_n 1, 1) := by decide +kernel
theorem dX6_surely_19 : decode cX6_surely 19 = .ok (.invokevirtual 288, 3) := by decide +kernel
theorem dX6_surely_22 : decode cX6_surely 22 = .ok (.iconst 0, 1) := by decide +kernel
theorem dX6_surely_23 : decode cX6_surely 23 = .ok (.istore_n 2, 1) := by decide +kernel
theorem dX6_surely_24 : decode cX6_surely 24 = .ok (.iload_n 2, 1) := by decide +kernel
theorem dX6_surely_25 : decode cX6_surely 25 = .ok (.aload_n 0, 1) := by decide +kernel
theorem dX6_surely_26 : decode cX6_surely 26 = .ok (.getfield 173, 3) := by decide +kernel
theorem dX6_surely_29 : decode cX6_surely 29 = .ok (.if_icmp .ge 39, 3) := by decide +kernel
theorem dX6_surely_32 : decode cX6_surely 32 = .ok (.aload_n 0, 1) := by decide +kernel
theorem dX6_surely_33 : decode cX6_surely 33 = .ok (.getfield 58, 3) := by decide +kernel
theorem dX6_surely_36 : decode cX6_surely 36 = .ok (.aload_n 0, 1) := by decide +kernel
theorem dX6_surely_37 : decode cX6_surely 37 = .ok (.getfield 40, 3) := by decide +kernel
theorem dX6_surely_40 : decode cX6_surely 40 = .ok (.iload_n 2, 1) := by decide +kernel
theorem dX6_surely_41 : decode cX6_surely 41 = .ok (.iaload, 1) := by decide +kernel
theorem dX6_surely_42 : decode cX6_surely 42 = .ok (.aload_n 0, 1) := by decide +kernel
theorem dX6_surely_43 : decode cX6_surely 43 = .ok (.aload_n 0, 1) := by decide +kernel
theorem dX6_surely_44 : decode cX6_surely 44 = .ok (.getfield 40, 3) := by decide +kernel
theorem dX6_surely_47 : decode cX6_surely 47 = .ok (.iload_n 2, 1) := by decide +kernel
theorem dX6_surely_48 : decode cX6_surely 48 = .ok (.iaload, 1) := by decide +kernel
theorem dX6_surely_49 : decode cX6_surely 49 = .ok (.invokevirtual 228, 3) := by decide +kernel
theorem dX6_surely_52 : decode cX6_surely 52 = .ok (.iconst 1, 1) := by decide +kernel
theorem dX6_surely_53 : decode cX6_surely 53 = .ok (.if_icmp .ne 7, 3) := by decide +kernel
theorem dX6_surely_56 : decode cX6_surely 56 = .ok (.iconst 1, 1) := by decide +kernel
theorem dX6_surely_57 : decode cX6_surely 57 = .ok (.goto 4, 3) := by decide +kernel
theorem dX6_surely_60 : decode cX6_surely 60 = .ok (.iconst 0, 1) := by decide +kernel
theorem dX6_surely_61 : decode cX6_surely 61 = .ok (.bastore, 1) := by decide +kernel
theorem dX6_surely_62 : decode cX6_surely 62 = .ok (.iinc 2 1, 3) := by decide +kernel
theorem dX6_surely_65 : decode cX6_surely 65 = .ok (.goto (-41), 3) := by decide +kernel
theorem dX6_surely_68 : decode cX6_surely 68 = .ok (.iconst 0, 1) := by decide +kernel
theorem dX6_surely_69 : decode cX6_surely 69 = .ok (.istore_n 2, 1) := by decide +kernel
theorem dX6_surely_70 : decode cX6_surely 70 = .ok (.iload_n 2, 1) := by decide +kernel
theorem dX6_surely_71 : decode cX6_surely 71 = .ok (.bipush 60, 2) := by decide +kernel
theorem dX6_surely_73 : decode cX6_surely 73 = .ok (.if_icmp .gt 94, 3) := by decide +kernel
theorem dX6_surely_76 : decode cX6_surely 76 = .ok (.aload_n 0, 1) := by decide +kernel
theorem dX6_surely_77 : decode cX6_surely 77 = .ok (.iload_n 1, 1) := by decide +kernel
theorem dX6_surely_78 : decode cX6_surely 78 = .ok (.invokevirtual 294, 3) := by decide +kernel
theorem dX6_surely_81 : decode cX6_surely 81 = .ok (.ifCond .eq 5, 3) := by decide +kernel
theorem dX6_surely_84 : decode cX6_surely 84 = .ok (.iload_n 2, 1) := by decide +kernel
theorem dX6_surely_85 : decode cX6_surely 85 = .ok (.ireturn, 1) := by decide +kernel
theorem dX6_surely_86 : decode cX6_surely 86 = .ok (.iconst 0, 1) := by decide +kernel
theorem dX6_surely_87 : decode cX6_surely 87 = .ok (.istore_n 3, 1) := by decide +kernel
theorem dX6_surely_88 : decode cX6_surely 88 = .ok (.iload_n 3, 1) := by decide +kernel
theorem dX6_surely_89 : decode cX6_surely 89 = .ok (.aload_n 0, 1) := by decide +kernel
theorem dX6_surely_90 : decode cX6_surely 90 = .ok (.getfield 173, 3) := by decide +kernel
theorem dX6_surely_93 : decode cX6_surely 93 = .ok (.if_icmp .ge 30, 3) := by decide +kernel
theorem dX6_surely_96 : decode cX6_surely 96 = .ok (.aload_n 0, 1) := by decide +kernel
theorem dX6_surely_97 : decode cX6_surely 97 = .ok (.getfield 55, 3) := by decide +kernel
theorem dX6_surely_100 : decode cX6_surely 100 = .ok (.aload_n 0, 1) := by decide +kernel
theorem dX6_surely_101 : decode cX6_surely 101 = .ok (.getfield 40, 3) := by decide +kernel
theorem dX6_surely_104 : decode cX6_surely 104 = .ok (.iload_n 3, 1) := by decide +kernel
theorem dX6_surely_105 : decode cX6_surely 105 = .ok (.iaload, 1) := by decide +kernel
theorem dX6_surely_106 : decode cX6_surely 106 = .ok (.aload_n 0, 1) := by decide +kernel
theorem dX6_surely_107 : decode cX6_surely 107 = .ok (.aload_n 0, 1) := by decide +kernel
theorem dX6_surely_108 : decode cX6_surely 108 = .ok (.getfield 40, 3) := by decide +kernel
theorem dX6_surely_111 : decode cX6_surely 111 = .ok (.iload_n 3, 1) := by decide +kernel
theorem dX6_surely_112 : decode cX6_surely 112 = .ok (.iaload, 1) := by decide +kernel
theorem dX6_surely_113 : decode cX6_surely 113 = .ok (.invokevirtual 297, 3) := by decide +kernel
theorem dX6_surely_116 : decode cX6_surely 116 = .ok (.bastore, 1) := by decide +kernel
theorem dX6_surely_117 : decode cX6_surely 117 = .ok (.iinc 3 1, 3) := by decide +kernel
theorem dX6_surely_120 : decode cX6_surely 120 = .ok (.goto (-32), 3) := by decide +kernel
theorem dX6_surely_123 : decode cX6_surely 123 = .ok (.iconst 0, 1) := by decide +kernel
theorem dX6_surely_124 : decode cX6_surely 124 = .ok (.istore_n 3, 1) := by decide +kernel
theorem dX6_surely_125 : decode cX6_surely 125 = .ok (.iload_n 3, 1) := by decide +kernel
theorem dX6_surely_126 : decode cX6_surely 126 = .ok (.aload_n 0, 1) := by decide +kernel
theorem dX6_surely_127 : decode cX6_surely 127 = .ok (.getfield 173, 3) := by decide +kernel
theorem dX6_surely_130 : decode cX6_surely 130 = .ok (.if_icmp .ge 31, 3) := by decide +kernel
theorem dX6_surely_133 : decode cX6_surely 133 = .ok (.aload_n 0, 1) := by decide +kernel
theorem dX6_surely_134 : decode cX6_surely 134 = .ok (.getfield 58, 3) := by decide +kernel
theorem dX6_surely_137 : decode cX6_surely 137 = .ok (.aload_n 0, 1) := by decide +kernel
theorem dX6_surely_138 : decode cX6_surely 138 = .ok (.getfield 40, 3) := by decide +kernel
theorem dX6_surely_141 : decode cX6_surely 141 = .ok (.iload_n 3, 1) := by decide +kernel
theorem dX6_surely_142 : decode cX6_surely 142 = .ok (.iaload, 1) := by decide +kernel
theorem dX6_surely_143 : decode cX6_surely 143 = .ok (.aload_n 0, 1) := by decide +kernel
theorem dX6_surely_144 : decode cX6_surely 144 = .ok (.getfield 55, 3) := by decide +kernel
theorem dX6_surely_147 : decode cX6_surely 147 = .ok (.aload_n 0, 1) := by decide +kernel
theorem dX6_surely_148 : decode cX6_surely 148 = .ok (.getfield 40, 3) := by decide +kernel
theorem dX6_surely_151 : decode cX6_surely 151 = .ok (.iload_n 3, 1) := by decide +kernel
theorem dX6_surely_152 : decode cX6_surely 152 = .ok (.iaload, 1) := by decide +kernel
theorem dX6_surely_153 : decode cX6_surely 153 = .ok (.baload, 1) := by decide +kernel
theorem dX6_surely_154 : decode cX6_surely 154 = .ok (.bastore, 1) := by decide +kernel
theorem dX6_surely_155 : decode cX6_surely 155 = .ok (.iinc 3 1, 3) := by decide +kernel
theorem dX6_surely_158 : decode cX6_surely 158 = .ok (.goto (-33), 3) := by decide +kernel
theorem dX6_surely_161 : decode cX6_surely 161 = .ok (.iinc 2 1, 3) := by decide +kernel
theorem dX6_surely_164 : decode cX6_surely 164 = .ok (.goto (-94), 3) := by decide +kernel
theorem dX6_surely_167 : decode cX6_surely 167 = .ok (.iconst (-1), 1) := by decide +kernel
theorem dX6_surely_168 : decode cX6_surely 168 = .ok (.ireturn, 1) := by decide +kernel
theorem dX6_partsFound_0 : decode cX6_partsFound 0 = .ok (.aload_n 0, 1) := by decide +kernel
theorem dX6_partsFound_1 : decode cX6_partsFound 1 = .ok (.getfield 225, 3) := by decide +kernel
theorem dX6_partsFound_4 : decode cX6_partsFound 4 = .ok (.istore_n 1, 1) := by decide +kernel
theorem dX6_partsFound_5 : decode cX6_partsFound 5 = .ok (.iconst 0, 1) := by decide +kernel
theorem dX6_partsFound_6 : decode cX6_partsFound 6 = .ok (.istore_n 2, 1) := by decide +kernel
theorem dX6_partsFound_7 : decode cX6_partsFound 7 = .ok (.iload_n 2, 1) := by decide +kernel
theorem dX6_partsFound_8 : decode cX6_partsFound 8 = .ok (.aload_n 0, 1) := by decide +kernel
theorem dX6_partsFound_9 : decode cX6_partsFound 9 = .ok (.getfield 173, 3) := by decide +kernel
theorem dX6_partsFound_12 : decode cX6_partsFound 12 = .ok (.if_icmp .ge 23, 3) := by decide +kernel
theorem dX6_partsFound_15 : decode cX6_partsFound 15 = .ok (.iload_n 1, 1) := by decide +kernel
theorem dX6_partsFound_16 : decode cX6_partsFound 16 = .ok (.iconst 1, 1) := by decide +kernel
theorem dX6_partsFound_17 : decode cX6_partsFound 17 = .ok (.aload_n 0, 1) := by decide +kernel
theorem dX6_partsFound_18 : decode cX6_partsFound 18 = .ok (.getfield 40, 3) := by decide +kernel
theorem dX6_partsFound_21 : decode cX6_partsFound 21 = .ok (.iload_n 2, 1) := by decide +kernel
theorem dX6_partsFound_22 : decode cX6_partsFound 22 = .ok (.iaload, 1) := by decide +kernel
theorem dX6_partsFound_23 : decode cX6_partsFound 23 = .ok (.invokestatic 194, 3) := by decide +kernel
theorem dX6_partsFound_26 : decode cX6_partsFound 26 = .ok (.ishl, 1) := by decide +kernel
theorem dX6_partsFound_27 : decode cX6_partsFound 27 = .ok (.ior, 1) := by decide +kernel
theorem dX6_partsFound_28 : decode cX6_partsFound 28 = .ok (.istore_n 1, 1) := by decide +kernel
theorem dX6_partsFound_29 : decode cX6_partsFound 29 = .ok (.iinc 2 1, 3) := by decide +kernel
theorem dX6_partsFound_32 : decode cX6_partsFound 32 = .ok (.goto (-25), 3) := by decide +kernel
theorem dX6_partsFound_35 : decode cX6_partsFound 35 = .ok (.iload_n 1, 1) := by decide +kernel
theorem dX6_partsFound_36 : decode cX6_partsFound 36 = .ok (.ireturn, 1) := by decide +kernel
theorem dX6_must_0 : decode cX6_must 0 = .ok (.aload_n 0, 1) := by decide +kernel
theorem dX6_must_1 : decode cX6_must 1 = .ok (.invokevirtual 170, 3) := by decide +kernel
theorem dX6_must_4 : decode cX6_must 4 = .ok (.aload_n 0, 1) := by decide +kernel
theorem dX6_must_5 : decode cX6_must 5 = .ok (.invokevirtual 300, 3) := by decide +kernel
theorem dX6_must_8 : decode cX6_must 8 = .ok (.ifCond .ne 5, 3) := by decide +kernel
theorem dX6_must_11 : decode cX6_must 11 = .ok (.iconst 0, 1) := by decide +kernel
theorem dX6_must_12 : decode cX6_must 12 = .ok (.ireturn, 1) := by decide +kernel
theorem dX6_must_13 : decode cX6_must 13 = .ok (.iconst 0, 1) := by decide +kernel
theorem dX6_must_14 : decode cX6_must 14 = .ok (.istore_n 1, 1) := by decide +kernel
theorem dX6_must_15 : decode cX6_must 15 = .ok (.iconst 0, 1) := by decide +kernel
theorem dX6_must_16 : decode cX6_must 16 = .ok (.istore_n 2, 1) := by decide +kernel
theorem dX6_must_17 : decode cX6_must 17 = .ok (.iload_n 2, 1) := by decide +kernel
theorem dX6_must_18 : decode cX6_must 18 = .ok (.aload_n 0, 1) := by decide +kernel
theorem dX6_must_19 : decode cX6_must 19 = .ok (.getfield 7, 3) := by decide +kernel
theorem dX6_must_22 : decode cX6_must 22 = .ok (.iconst 0, 1) := by decide +kernel
theorem dX6_must_23 : decode cX6_must 23 = .ok (.iaload, 1) := by decide +kernel
theorem dX6_must_24 : decode cX6_must 24 = .ok (.if_icmp .ge 38, 3) := by decide +kernel
theorem dX6_must_27 : decode cX6_must 27 = .ok (.aload_n 0, 1) := by decide +kernel
theorem dX6_must_28 : decode cX6_must 28 = .ok (.iload_n 2, 1) := by decide +kernel
theorem dX6_must_29 : decode cX6_must 29 = .ok (.putfield 33, 3) := by decide +kernel
theorem dX6_must_32 : decode cX6_must 32 = .ok (.aload_n 0, 1) := by decide +kernel
theorem dX6_must_33 : decode cX6_must 33 = .ok (.invokevirtual 170, 3) := by decide +kernel
theorem dX6_must_36 : decode cX6_must 36 = .ok (.iload_n 1, 1) := by decide +kernel
theorem dX6_must_37 : decode cX6_must 37 = .ok (.aload_n 0, 1) := by decide +kernel
theorem dX6_must_38 : decode cX6_must 38 = .ok (.invokevirtual 300, 3) := by decide +kernel
theorem dX6_must_41 : decode cX6_must 41 = .ok (.ifCond .ne 7, 3) := by decide +kernel
theorem dX6_must_44 : decode cX6_must 44 = .ok (.iconst 1, 1) := by decide +kernel
theorem dX6_must_45 : decode cX6_must 45 = .ok (.goto 4, 3) := by decide +kernel
theorem dX6_must_48 : decode cX6_must 48 = .ok (.iconst 0, 1) := by decide +kernel
theorem dX6_must_49 : decode cX6_must 49 = .ok (.invokestatic 218, 3) := by decide +kernel
theorem dX6_must_52 : decode cX6_must 52 = .ok (.iload_n 2, 1) := by decide +kernel
theorem dX6_must_53 : decode cX6_must 53 = .ok (.ishl, 1) := by decide +kernel
theorem dX6_must_54 : decode cX6_must 54 = .ok (.ior, 1) := by decide +kernel
theorem dX6_must_55 : decode cX6_must 55 = .ok (.istore_n 1, 1) := by decide +kernel
theorem dX6_must_56 : decode cX6_must 56 = .ok (.iinc 2 1, 3) := by decide +kernel
theorem dX6_must_59 : decode cX6_must 59 = .ok (.goto (-42), 3) := by decide +kernel
theorem dX6_must_62 : decode cX6_must 62 = .ok (.aload_n 0, 1) := by decide +kernel
theorem dX6_must_63 : decode cX6_must 63 = .ok (.iconst (-1), 1) := by decide +kernel
theorem dX6_must_64 : decode cX6_must 64 = .ok (.putfield 33, 3) := by decide +kernel
theorem dX6_must_67 : decode cX6_must 67 = .ok (.iload_n 1, 1) := by decide +kernel
theorem dX6_must_68 : decode cX6_must 68 = .ok (.ireturn, 1) := by decide +kernel
theorem dX6_traps_0 : decode cX6_traps 0 = .ok (.aload_n 0, 1) := by decide +kernel
theorem dX6_traps_1 : decode cX6_traps 1 = .ok (.invokevirtual 170, 3) := by decide +kernel
theorem dX6_traps_4 : decode cX6_traps 4 = .ok (.iconst 0, 1) := by decide +kernel
theorem dX6_traps_5 : decode cX6_traps 5 = .ok (.istore_n 1, 1) := by decide +kernel
theorem dX6_traps_6 : decode cX6_traps 6 = .ok (.iload_n 1, 1) := by decide +kernel
theorem dX6_traps_7 : decode cX6_traps 7 = .ok (.aload_n 0, 1) := by decide +kernel
theorem dX6_traps_8 : decode cX6_traps 8 = .ok (.getfield 173, 3) := by decide +kernel
theorem dX6_traps_11 : decode cX6_traps 11 = .ok (.if_icmp .ge 39, 3) := by decide +kernel
theorem dX6_traps_14 : decode cX6_traps 14 = .ok (.aload_n 0, 1) := by decide +kernel
theorem dX6_traps_15 : decode cX6_traps 15 = .ok (.getfield 58, 3) := by decide +kernel
theorem dX6_traps_18 : decode cX6_traps 18 = .ok (.aload_n 0, 1) := by decide +kernel
theorem dX6_traps_19 : decode cX6_traps 19 = .ok (.getfield 40, 3) := by decide +kernel
theorem dX6_traps_22 : decode cX6_traps 22 = .ok (.iload_n 1, 1) := by decide +kernel
theorem dX6_traps_23 : decode cX6_traps 23 = .ok (.iaload, 1) := by decide +kernel
theorem dX6_traps_24 : decode cX6_traps 24 = .ok (.aload_n 0, 1) := by decide +kernel
theorem dX6_traps_25 : decode cX6_traps 25 = .ok (.aload_n 0, 1) := by decide +kernel
theorem dX6_traps_26 : decode cX6_traps 26 = .ok (.getfield 40, 3) := by decide +kernel
theorem dX6_traps_29 : decode cX6_traps 29 = .ok (.iload_n 1, 1) := by decide +kernel
theorem dX6_traps_30 : decode cX6_traps 30 = .ok (.iaload, 1) := by decide +kernel
theorem dX6_traps_31 : decode cX6_traps 31 = .ok (.invokevirtual 228, 3) := by decide +kernel
theorem dX6_traps_34 : decode cX6_traps 34 = .ok (.iconst 1, 1) := by decide +kernel
theorem dX6_traps_35 : decode cX6_traps 35 = .ok (.if_icmp .ne 7, 3) := by decide +kernel
theorem dX6_traps_38 : decode cX6_traps 38 = .ok (.iconst 1, 1) := by decide +kernel
theorem dX6_traps_39 : decode cX6_traps 39 = .ok (.goto 4, 3) := by decide +kernel
theorem dX6_traps_42 : decode cX6_traps 42 = .ok (.iconst 0, 1) := by decide +kernel
theorem dX6_traps_43 : decode cX6_traps 43 = .ok (.bastore, 1) := by decide +kernel
theorem dX6_traps_44 : decode cX6_traps 44 = .ok (.iinc 1 1, 3) := by decide +kernel
theorem dX6_traps_47 : decode cX6_traps 47 = .ok (.goto (-41), 3) := by decide +kernel
theorem dX6_traps_50 : decode cX6_traps 50 = .ok (.iconst 1, 1) := by decide +kernel
theorem dX6_traps_51 : decode cX6_traps 51 = .ok (.istore_n 1, 1) := by decide +kernel
theorem dX6_traps_52 : decode cX6_traps 52 = .ok (.iload_n 1, 1) := by decide +kernel
theorem dX6_traps_53 : decode cX6_traps 53 = .ok (.ifCond .eq 127, 3) := by decide +kernel
theorem dX6_traps_56 : decode cX6_traps 56 = .ok (.iconst 0, 1) := by decide +kernel
theorem dX6_traps_57 : decode cX6_traps 57 = .ok (.istore_n 1, 1) := by decide +kernel
theorem dX6_traps_58 : decode cX6_traps 58 = .ok (.aload_n 0, 1) := by decide +kernel
theorem dX6_traps_59 : decode cX6_traps 59 = .ok (.getfield 173, 3) := by decide +kernel
theorem dX6_traps_62 : decode cX6_traps 62 = .ok (.iconst 1, 1) := by decide +kernel
theorem dX6_traps_63 : decode cX6_traps 63 = .ok (.isub, 1) := by decide +kernel
theorem dX6_traps_64 : decode cX6_traps 64 = .ok (.istore_n 2, 1) := by decide +kernel
theorem dX6_traps_65 : decode cX6_traps 65 = .ok (.iload_n 2, 1) := by decide +kernel
theorem dX6_traps_66 : decode cX6_traps 66 = .ok (.ifCond .lt 111, 3) := by decide +kernel
theorem dX6_traps_69 : decode cX6_traps 69 = .ok (.aload_n 0, 1) := by decide +kernel
theorem dX6_traps_70 : decode cX6_traps 70 = .ok (.getfield 40, 3) := by decide +kernel
theorem dX6_traps_73 : decode cX6_traps 73 = .ok (.iload_n 2, 1) := by decide +kernel
theorem dX6_traps_74 : decode cX6_traps 74 = .ok (.iaload, 1) := by decide +kernel
theorem dX6_traps_75 : decode cX6_traps 75 = .ok (.istore_n 3, 1) := by decide +kernel
theorem dX6_traps_76 : decode cX6_traps 76 = .ok (.aload_n 0, 1) := by decide +kernel
theorem dX6_traps_77 : decode cX6_traps 77 = .ok (.getfield 58, 3) := by decide +kernel
theorem dX6_traps_80 : decode cX6_traps 80 = .ok (.iload_n 3, 1) := by decide +kernel
theorem dX6_traps_81 : decode cX6_traps 81 = .ok (.baload, 1) := by decide +kernel
theorem dX6_traps_82 : decode cX6_traps 82 = .ok (.istore 4, 2) := by decide +kernel
theorem dX6_traps_84 : decode cX6_traps 84 = .ok (.iconst 0, 1) := by decide +kernel
theorem dX6_traps_85 : decode cX6_traps 85 = .ok (.istore 5, 2) := by decide +kernel
theorem dX6_traps_87 : decode cX6_traps 87 = .ok (.iload 5, 2) := by decide +kernel
theorem dX6_traps_89 : decode cX6_traps 89 = .ok (.aload_n 0, 1) := by decide +kernel
theorem dX6_traps_90 : decode cX6_traps 90 = .ok (.iload_n 3, 1) := by decide +kernel
theorem dX6_traps_91 : decode cX6_traps 91 = .ok (.invokevirtual 212, 3) := by decide +kernel
theorem dX6_traps_94 : decode cX6_traps 94 = .ok (.if_icmp .ge 45, 3) := by decide +kernel
theorem dX6_traps_97 : decode cX6_traps 97 = .ok (.iload 4, 2) := by decide +kernel
theorem dX6_traps_99 : decode cX6_traps 99 = .ok (.ifCond .ne 40, 3) := by decide +kernel
theorem dX6_traps_102 : decode cX6_traps 102 = .ok (.aload_n 0, 1) := by decide +kernel
theorem dX6_traps_103 : decode cX6_traps 103 = .ok (.iload_n 3, 1) := by decide +kernel
theorem dX6_traps_104 : decode cX6_traps 104 = .ok (.iload 5, 2) := by decide +kernel
theorem dX6_traps_106 : decode cX6_traps 106 = .ok (.invokevirtual 215, 3) := by decide +kernel
theorem dX6_traps_109 : decode cX6_traps 109 = .ok (.ifCond .eq 21, 3) := by decide +kernel
theorem dX6_traps_112 : decode cX6_traps 112 = .ok (.aload_n 0, 1) := by decide +kernel
theorem dX6_traps_113 : decode cX6_traps 113 = .ok (.aload_n 0, 1) := by decide +kernel
theorem dX6_traps_114 : decode cX6_traps 114 = .ok (.iload_n 3, 1) := by decide +kernel
theorem dX6_traps_115 : decode cX6_traps 115 = .ok (.iload 5, 2) := by decide +kernel
theorem dX6_traps_117 : decode cX6_traps 117 = .ok (.invokevirtual 231, 3) := by decide +kernel
theorem dX6_traps_120 : decode cX6_traps 120 = .ok (.invokevirtual 294, 3) := by decide +kernel
theorem dX6_traps_123 : decode cX6_traps 123 = .ok (.ifCond .eq 7, 3) := by decide +kernel
theorem dX6_traps_126 : decode cX6_traps 126 = .ok (.iconst 1, 1) := by decide +kernel
theorem dX6_traps_127 : decode cX6_traps 127 = .ok (.goto 4, 3) := by decide +kernel
theorem dX6_traps_130 : decode cX6_traps 130 = .ok (.iconst 0, 1) := by decide +kernel
theorem dX6_traps_131 : decode cX6_traps 131 = .ok (.istore 4, 2) := by decide +kernel
theorem dX6_traps_133 : decode cX6_traps 133 = .ok (.iinc 5 1, 3) := by decide +kernel
theorem dX6_traps_136 : decode cX6_traps 136 = .ok (.goto (-49), 3) := by decide +kernel
theorem dX6_traps_139 : decode cX6_traps 139 = .ok (.iload_n 1, 1) := by decide +kernel
theorem dX6_traps_140 : decode cX6_traps 140 = .ok (.ifCond .ne 17, 3) := by decide +kernel
theorem dX6_traps_143 : decode cX6_traps 143 = .ok (.iload 4, 2) := by decide +kernel
theorem dX6_traps_145 : decode cX6_traps 145 = .ok (.ifCond .eq 16, 3) := by decide +kernel
theorem dX6_traps_148 : decode cX6_traps 148 = .ok (.aload_n 0, 1) := by decide +kernel
theorem dX6_traps_149 : decode cX6_traps 149 = .ok (.getfield 58, 3) := by decide +kernel
theorem dX6_traps_152 : decode cX6_traps 152 = .ok (.iload_n 3, 1) := by decide +kernel
theorem dX6_traps_153 : decode cX6_traps 153 = .ok (.baload, 1) := by decide +kernel
theorem dX6_traps_154 : decode cX6_traps 154 = .ok (.ifCond .ne 7, 3) := by decide +kernel
theorem dX6_traps_157 : decode cX6_traps 157 = .ok (.iconst 1, 1) := by decide +kernel
theorem dX6_traps_158 : decode cX6_traps 158 = .ok (.goto 4, 3) := by decide +kernel
theorem dX6_traps_161 : decode cX6_traps 161 = .ok (.iconst 0, 1) := by decide +kernel
theorem dX6_traps_162 : decode cX6_traps 162 = .ok (.istore_n 1, 1) := by decide +kernel
theorem dX6_traps_163 : decode cX6_traps 163 = .ok (.aload_n 0, 1) := by decide +kernel
theorem dX6_traps_164 : decode cX6_traps 164 = .ok (.getfield 58, 3) := by decide +kernel
theorem dX6_traps_167 : decode cX6_traps 167 = .ok (.iload_n 3, 1) := by decide +kernel
theorem dX6_traps_168 : decode cX6_traps 168 = .ok (.iload 4, 2) := by decide +kernel
theorem dX6_traps_170 : decode cX6_traps 170 = .ok (.bastore, 1) := by decide +kernel
theorem dX6_traps_171 : decode cX6_traps 171 = .ok (.iinc 2 (-1), 3) := by decide +kernel
theorem dX6_traps_174 : decode cX6_traps 174 = .ok (.goto (-109), 3) := by decide +kernel
theorem dX6_traps_177 : decode cX6_traps 177 = .ok (.goto (-125), 3) := by decide +kernel
theorem dX6_traps_180 : decode cX6_traps 180 = .ok (.iconst 0, 1) := by decide +kernel
theorem dX6_traps_181 : decode cX6_traps 181 = .ok (.istore_n 2, 1) := by decide +kernel
theorem dX6_traps_182 : decode cX6_traps 182 = .ok (.iconst 0, 1) := by decide +kernel
theorem dX6_traps_183 : decode cX6_traps 183 = .ok (.istore_n 3, 1) := by decide +kernel
theorem dX6_traps_184 : decode cX6_traps 184 = .ok (.iload_n 3, 1) := by decide +kernel
theorem dX6_traps_185 : decode cX6_traps 185 = .ok (.aload_n 0, 1) := by decide +kernel
theorem dX6_traps_186 : decode cX6_traps 186 = .ok (.getfield 173, 3) := by decide +kernel
theorem dX6_traps_189 : decode cX6_traps 189 = .ok (.if_icmp .ge 44, 3) := by decide +kernel
theorem dX6_traps_192 : decode cX6_traps 192 = .ok (.iload_n 2, 1) := by decide +kernel
theorem dX6_traps_193 : decode cX6_traps 193 = .ok (.aload_n 0, 1) := by decide +kernel
theorem dX6_traps_194 : decode cX6_traps 194 = .ok (.getfield 58, 3) := by decide +kernel
theorem dX6_traps_197 : decode cX6_traps 197 = .ok (.aload_n 0, 1) := by decide +kernel
theorem dX6_traps_198 : decode cX6_traps 198 = .ok (.getfield 40, 3) := by decide +kernel
theorem dX6_traps_201 : decode cX6_traps 201 = .ok (.iload_n 3, 1) := by decide +kernel
theorem dX6_traps_202 : decode cX6_traps 202 = .ok (.iaload, 1) := by decide +kernel
theorem dX6_traps_203 : decode cX6_traps 203 = .ok (.baload, 1) := by decide +kernel
theorem dX6_traps_204 : decode cX6_traps 204 = .ok (.ifCond .ne 7, 3) := by decide +kernel
theorem dX6_traps_207 : decode cX6_traps 207 = .ok (.iconst 1, 1) := by decide +kernel
theorem dX6_traps_208 : decode cX6_traps 208 = .ok (.goto 4, 3) := by decide +kernel
theorem dX6_traps_211 : decode cX6_traps 211 = .ok (.iconst 0, 1) := by decide +kernel
theorem dX6_traps_212 : decode cX6_traps 212 = .ok (.invokestatic 218, 3) := by decide +kernel
theorem dX6_traps_215 : decode cX6_traps 215 = .ok (.aload_n 0, 1) := by decide +kernel
theorem dX6_traps_216 : decode cX6_traps 216 = .ok (.getfield 40, 3) := by decide +kernel
theorem dX6_traps_219 : decode cX6_traps 219 = .ok (.iload_n 3, 1) := by decide +kernel
theorem dX6_traps_220 : decode cX6_traps 220 = .ok (.iaload, 1) := by decide +kernel
theorem dX6_traps_221 : decode cX6_traps 221 = .ok (.invokestatic 194, 3) := by decide +kernel
theorem dX6_traps_224 : decode cX6_traps 224 = .ok (.ishl, 1) := by decide +kernel
theorem dX6_traps_225 : decode cX6_traps 225 = .ok (.ior, 1) := by decide +kernel
theorem dX6_traps_226 : decode cX6_traps 226 = .ok (.istore_n 2, 1) := by decide +kernel
theorem dX6_traps_227 : decode cX6_traps 227 = .ok (.iinc 3 1, 3) := by decide +kernel
theorem dX6_traps_230 : decode cX6_traps 230 = .ok (.goto (-46), 3) := by decide +kernel
theorem dX6_traps_233 : decode cX6_traps 233 = .ok (.iload_n 2, 1) := by decide +kernel
theorem dX6_traps_234 : decode cX6_traps 234 = .ok (.ireturn, 1) := by decide +kernel
theorem dX6_holes_0 : decode cX6_holes 0 = .ok (.aload_n 0, 1) := by decide +kernel
theorem dX6_holes_1 : decode cX6_holes 1 = .ok (.invokevirtual 170, 3) := by decide +kernel
theorem dX6_holes_4 : decode cX6_holes 4 = .ok (.iconst 0, 1) := by decide +kernel
theorem dX6_holes_5 : decode cX6_holes 5 = .ok (.istore_n 1, 1) := by decide +kernel
theorem dX6_holes_6 : decode cX6_holes 6 = .ok (.iconst 0, 1) := by decide +kernel
theorem dX6_holes_7 : decode cX6_holes 7 = .ok (.istore_n 2, 1) := by decide +kernel
theorem dX6_holes_8 : decode cX6_holes 8 = .ok (.iload_n 2, 1) := by decide +kernel
theorem dX6_holes_9 : decode cX6_holes 9 = .ok (.aload_n 0, 1) := by decide +kernel
theorem dX6_holes_10 : decode cX6_holes 10 = .ok (.getfield 173, 3) := by decide +kernel
theorem dX6_holes_13 : decode cX6_holes 13 = .ok (.if_icmp .ge 44, 3) := by decide +kernel
theorem dX6_holes_16 : decode cX6_holes 16 = .ok (.iload_n 1, 1) := by decide +kernel
theorem dX6_holes_17 : decode cX6_holes 17 = .ok (.aload_n 0, 1) := by decide +kernel
theorem dX6_holes_18 : decode cX6_holes 18 = .ok (.aload_n 0, 1) := by decide +kernel
theorem dX6_holes_19 : decode cX6_holes 19 = .ok (.getfield 40, 3) := by decide +kernel
theorem dX6_holes_22 : decode cX6_holes 22 = .ok (.iload_n 2, 1) := by decide +kernel
theorem dX6_holes_23 : decode cX6_holes 23 = .ok (.iaload, 1) := by decide +kernel
theorem dX6_holes_24 : decode cX6_holes 24 = .ok (.invokevirtual 228, 3) := by decide +kernel
theorem dX6_holes_27 : decode cX6_holes 27 = .ok (.iconst 3, 1) := by decide +kernel
theorem dX6_holes_28 : decode cX6_holes 28 = .ok (.if_icmp .ne 7, 3) := by decide +kernel
theorem dX6_holes_31 : decode cX6_holes 31 = .ok (.iconst 1, 1) := by decide +kernel
theorem dX6_holes_32 : decode cX6_holes 32 = .ok (.goto 4, 3) := by decide +kernel
theorem dX6_holes_35 : decode cX6_holes 35 = .ok (.iconst 0, 1) := by decide +kernel
theorem dX6_holes_36 : decode cX6_holes 36 = .ok (.invokestatic 218, 3) := by decide +kernel
theorem dX6_holes_39 : decode cX6_holes 39 = .ok (.aload_n 0, 1) := by decide +kernel
theorem dX6_holes_40 : decode cX6_holes 40 = .ok (.getfield 40, 3) := by decide +kernel
theorem dX6_holes_43 : decode cX6_holes 43 = .ok (.iload_n 2, 1) := by decide +kernel
theorem dX6_holes_44 : decode cX6_holes 44 = .ok (.iaload, 1) := by decide +kernel
theorem dX6_holes_45 : decode cX6_holes 45 = .ok (.invokestatic 194, 3) := by decide +kernel
theorem dX6_holes_48 : decode cX6_holes 48 = .ok (.ishl, 1) := by decide +kernel
theorem dX6_holes_49 : decode cX6_holes 49 = .ok (.ior, 1) := by decide +kernel
theorem dX6_holes_50 : decode cX6_holes 50 = .ok (.istore_n 1, 1) := by decide +kernel
theorem dX6_holes_51 : decode cX6_holes 51 = .ok (.iinc 2 1, 3) := by decide +kernel
theorem dX6_holes_54 : decode cX6_holes 54 = .ok (.goto (-46), 3) := by decide +kernel
theorem dX6_holes_57 : decode cX6_holes 57 = .ok (.iload_n 1, 1) := by decide +kernel
theorem dX6_holes_58 : decode cX6_holes 58 = .ok (.ireturn, 1) := by decide +kernel
theorem dX6_parts_0 : decode cX6_parts 0 = .ok (.iload_n 1, 1) := by decide +kernel
theorem dX6_parts_1 : decode cX6_parts 1 = .ok (.tableswitch 55 0 3 #[31, 40, 45, 50], 31) := by decide +kernel
theorem dX6_parts_32 : decode cX6_parts 32 = .ok (.aload_n 0, 1) := by decide +kernel
theorem dX6_parts_33 : decode cX6_parts 33 = .ok (.invokevirtual 170, 3) := by decide +kernel
theorem dX6_parts_36 : decode cX6_parts 36 = .ok (.aload_n 0, 1) := by decide +kernel
theorem dX6_parts_37 : decode cX6_parts 37 = .ok (.invokevirtual 304, 3) := by decide +kernel
theorem dX6_parts_40 : decode cX6_parts 40 = .ok (.ireturn, 1) := by decide +kernel
theorem dX6_parts_41 : decode cX6_parts 41 = .ok (.aload_n 0, 1) := by decide +kernel
theorem dX6_parts_42 : decode cX6_parts 42 = .ok (.invokevirtual 307, 3) := by decide +kernel
theorem dX6_parts_45 : decode cX6_parts 45 = .ok (.ireturn, 1) := by decide +kernel
theorem dX6_parts_46 : decode cX6_parts 46 = .ok (.aload_n 0, 1) := by decide +kernel
theorem dX6_parts_47 : decode cX6_parts 47 = .ok (.invokevirtual 310, 3) := by decide +kernel
theorem dX6_parts_50 : decode cX6_parts 50 = .ok (.ireturn, 1) := by decide +kernel
theorem dX6_parts_51 : decode cX6_parts 51 = .ok (.aload_n 0, 1) := by decide +kernel
theorem dX6_parts_52 : decode cX6_parts 52 = .ok (.invokevirtual 313, 3) := by decide +kernel
theorem dX6_parts_55 : decode cX6_parts 55 = .ok (.ireturn, 1) := by decide +kernel
theorem dX6_parts_56 : decode cX6_parts 56 = .ok (.ldc 70, 2) := by decide +kernel
theorem dX6_parts_58 : decode cX6_parts 58 = .ok (.ireturn, 1) := by decide +kernel
theorem dX6_things_0 : decode cX6_things 0 = .ok (.iload_n 1, 1) := by decide +kernel
theorem dX6_things_1 : decode cX6_things 1 = .ok (.i2l, 1) := by decide +kernel
theorem dX6_things_2 : decode cX6_things 2 = .ok (.lconst 0, 1) := by decide +kernel
theorem dX6_things_3 : decode cX6_things 3 = .ok (.lconst 1, 1) := by decide +kernel
theorem dX6_things_4 : decode cX6_things 4 = .ok (.invokestatic 66, 3) := by decide +kernel
theorem dX6_things_7 : decode cX6_things 7 = .ok (.ifCond .ne 6, 3) := by decide +kernel
theorem dX6_things_10 : decode cX6_things 10 = .ok (.ldc 70, 2) := by decide +kernel
theorem dX6_things_12 : decode cX6_things 12 = .ok (.ireturn, 1) := by decide +kernel
theorem dX6_things_13 : decode cX6_things 13 = .ok (.aload_n 0, 1) := by decide +kernel
theorem dX6_things_14 : decode cX6_things 14 = .ok (.invokevirtual 170, 3) := by decide +kernel
theorem dX6_things_17 : decode cX6_things 17 = .ok (.iconst 0, 1) := by decide +kernel
theorem dX6_things_18 : decode cX6_things 18 = .ok (.istore_n 2, 1) := by decide +kernel
theorem dX6_things_19 : decode cX6_things 19 = .ok (.iconst 0, 1) := by decide +kernel
theorem dX6_things_20 : decode cX6_things 20 = .ok (.istore_n 3, 1) := by decide +kernel
theorem dX6_things_21 : decode cX6_things 21 = .ok (.iload_n 3, 1) := by decide +kernel
theorem dX6_things_22 : decode cX6_things 22 = .ok (.aload_n 0, 1) := by decide +kernel
theorem dX6_things_23 : decode cX6_things 23 = .ok (.getfield 173, 3) := by decide +kernel
theorem dX6_things_26 : decode cX6_things 26 = .ok (.if_icmp .ge 21, 3) := by decide +kernel
theorem dX6_things_29 : decode cX6_things 29 = .ok (.iload_n 2, 1) := by decide +kernel
theorem dX6_things_30 : decode cX6_things 30 = .ok (.aload_n 0, 1) := by decide +kernel
theorem dX6_things_31 : decode cX6_things 31 = .ok (.getfield 40, 3) := by decide +kernel
theorem dX6_things_34 : decode cX6_things 34 = .ok (.iload_n 3, 1) := by decide +kernel
theorem dX6_things_35 : decode cX6_things 35 = .ok (.iaload, 1) := by decide +kernel
theorem dX6_things_36 : decode cX6_things 36 = .ok (.invokestatic 197, 3) := by decide +kernel
theorem dX6_things_39 : decode cX6_things 39 = .ok (.ior, 1) := by decide +kernel
theorem dX6_things_40 : decode cX6_things 40 = .ok (.istore_n 2, 1) := by decide +kernel
theorem dX6_things_41 : decode cX6_things 41 = .ok (.iinc 3 1, 3) := by decide +kernel
theorem dX6_things_44 : decode cX6_things 44 = .ok (.goto (-23), 3) := by decide +kernel
theorem dX6_things_47 : decode cX6_things 47 = .ok (.iload_n 1, 1) := by decide +kernel
theorem dX6_things_48 : decode cX6_things 48 = .ok (.ifCond .ne 5, 3) := by decide +kernel
theorem dX6_things_51 : decode cX6_things 51 = .ok (.iload_n 2, 1) := by decide +kernel
theorem dX6_things_52 : decode cX6_things 52 = .ok (.ireturn, 1) := by decide +kernel
theorem dX6_things_53 : decode cX6_things 53 = .ok (.iconst 0, 1) := by decide +kernel
theorem dX6_things_54 : decode cX6_things 54 = .ok (.istore_n 3, 1) := by decide +kernel
theorem dX6_things_55 : decode cX6_things 55 = .ok (.aload_n 0, 1) := by decide +kernel
theorem dX6_things_56 : decode cX6_things 56 = .ok (.invokevirtual 300, 3) := by decide +kernel
theorem dX6_things_59 : decode cX6_things 59 = .ok (.istore 4, 2) := by decide +kernel
theorem dX6_things_61 : decode cX6_things 61 = .ok (.iconst 0, 1) := by decide +kernel
theorem dX6_things_62 : decode cX6_things 62 = .ok (.istore 5, 2) := by decide +kernel
theorem dX6_things_64 : decode cX6_things 64 = .ok (.iload 5, 2) := by decide +kernel
theorem dX6_things_66 : decode cX6_things 66 = .ok (.bipush 8, 2) := by decide +kernel
theorem dX6_things_68 : decode cX6_things 68 = .ok (.if_icmp .ge 45, 3) := by decide +kernel
theorem dX6_things_71 : decode cX6_things 71 = .ok (.iload 4, 2) := by decide +kernel
theorem dX6_things_73 : decode cX6_things 73 = .ok (.ifCond .eq 40, 3) := by decide +kernel
theorem dX6_things_76 : decode cX6_things 76 = .ok (.aload_n 0, 1) := by decide +kernel
theorem dX6_things_77 : decode cX6_things 77 = .ok (.iload 5, 2) := by decide +kernel
theorem dX6_things_79 : decode cX6_things 79 = .ok (.putfield 36, 3) := by decide +kernel
theorem dX6_things_82 : decode cX6_things 82 = .ok (.aload_n 0, 1) := by decide +kernel
theorem dX6_things_83 : decode cX6_things 83 = .ok (.invokevirtual 170, 3) := by decide +kernel
theorem dX6_things_86 : decode cX6_things 86 = .ok (.iload_n 3, 1) := by decide +kernel
theorem dX6_things_87 : decode cX6_things 87 = .ok (.aload_n 0, 1) := by decide +kernel
theorem dX6_things_88 : decode cX6_things 88 = .ok (.invokevirtual 300, 3) := by decide +kernel
theorem dX6_things_91 : decode cX6_things 91 = .ok (.ifCond .ne 7, 3) := by decide +kernel
theorem dX6_things_94 : decode cX6_things 94 = .ok (.iconst 1, 1) := by decide +kernel
theorem dX6_things_95 : decode cX6_things 95 = .ok (.goto 4, 3) := by decide +kernel
theorem dX6_things_98 : decode cX6_things 98 = .ok (.iconst 0, 1) := by decide +kernel
theorem dX6_things_99 : decode cX6_things 99 = .ok (.invokestatic 218, 3) := by decide +kernel
theorem dX6_things_102 : decode cX6_things 102 = .ok (.iload 5, 2) := by decide +kernel
theorem dX6_things_104 : decode cX6_things 104 = .ok (.ishl, 1) := by decide +kernel
theorem dX6_things_105 : decode cX6_things 105 = .ok (.ior, 1) := by decide +kernel
theorem dX6_things_106 : decode cX6_things 106 = .ok (.istore_n 3, 1) := by decide +kernel
theorem dX6_things_107 : decode cX6_things 107 = .ok (.iinc 5 1, 3) := by decide +kernel
theorem dX6_things_110 : decode cX6_things 110 = .ok (.goto (-46), 3) := by decide +kernel
theorem dX6_things_113 : decode cX6_things 113 = .ok (.aload_n 0, 1) := by decide +kernel
theorem dX6_things_114 : decode cX6_things 114 = .ok (.iconst (-1), 1) := by decide +kernel
theorem dX6_things_115 : decode cX6_things 115 = .ok (.putfield 36, 3) := by decide +kernel
theorem dX6_things_118 : decode cX6_things 118 = .ok (.iload_n 3, 1) := by decide +kernel
theorem dX6_things_119 : decode cX6_things 119 = .ok (.ireturn, 1) := by decide +kernel
theorem dX6_without_0 : decode cX6_without 0 = .ok (.iload_n 1, 1) := by decide +kernel
theorem dX6_without_1 : decode cX6_without 1 = .ok (.i2l, 1) := by decide +kernel
theorem dX6_without_2 : decode cX6_without 2 = .ok (.lconst 0, 1) := by decide +kernel
theorem dX6_without_3 : decode cX6_without 3 = .ok (.ldc2_w 161, 3) := by decide +kernel
theorem dX6_without_6 : decode cX6_without 6 = .ok (.invokestatic 66, 3) := by decide +kernel
theorem dX6_without_9 : decode cX6_without 9 = .ok (.ifCond .ne 6, 3) := by decide +kernel
theorem dX6_without_12 : decode cX6_without 12 = .ok (.ldc 156, 2) := by decide +kernel
theorem dX6_without_14 : decode cX6_without 14 = .ok (.ireturn, 1) := by decide +kernel
theorem dX6_without_15 : decode cX6_without 15 = .ok (.iload_n 2, 1) := by decide +kernel
theorem dX6_without_16 : decode cX6_without 16 = .ok (.i2l, 1) := by decide +kernel
theorem dX6_without_17 : decode cX6_without 17 = .ok (.lconst 0, 1) := by decide +kernel
theorem dX6_without_18 : decode cX6_without 18 = .ok (.ldc2_w 283, 3) := by decide +kernel
theorem dX6_without_21 : decode cX6_without 21 = .ok (.invokestatic 66, 3) := by decide +kernel
theorem dX6_without_24 : decode cX6_without 24 = .ok (.ifCond .ne 6, 3) := by decide +kernel
theorem dX6_without_27 : decode cX6_without 27 = .ok (.ldc 70, 2) := by decide +kernel
theorem dX6_without_29 : decode cX6_without 29 = .ok (.ireturn, 1) := by decide +kernel
theorem dX6_without_30 : decode cX6_without 30 = .ok (.aload_n 0, 1) := by decide +kernel
theorem dX6_without_31 : decode cX6_without 31 = .ok (.getfield 7, 3) := by decide +kernel
theorem dX6_without_34 : decode cX6_without 34 = .ok (.iconst 0, 1) := by decide +kernel
theorem dX6_without_35 : decode cX6_without 35 = .ok (.iaload, 1) := by decide +kernel
theorem dX6_without_36 : decode cX6_without 36 = .ok (.ifCond .ne 6, 3) := by decide +kernel
theorem dX6_without_39 : decode cX6_without 39 = .ok (.ldc 166, 2) := by decide +kernel
theorem dX6_without_41 : decode cX6_without 41 = .ok (.ireturn, 1) := by decide +kernel
theorem dX6_without_42 : decode cX6_without 42 = .ok (.aload_n 0, 1) := by decide +kernel
theorem dX6_without_43 : decode cX6_without 43 = .ok (.iload_n 1, 1) := by decide +kernel
theorem dX6_without_44 : decode cX6_without 44 = .ok (.putfield 36, 3) := by decide +kernel
theorem dX6_without_47 : decode cX6_without 47 = .ok (.aload_n 0, 1) := by decide +kernel
theorem dX6_without_48 : decode cX6_without 48 = .ok (.invokevirtual 170, 3) := by decide +kernel
theorem dX6_without_51 : decode cX6_without 51 = .ok (.aload_n 0, 1) := by decide +kernel
theorem dX6_without_52 : decode cX6_without 52 = .ok (.iload_n 2, 1) := by decide +kernel
theorem dX6_without_53 : decode cX6_without 53 = .ok (.invokevirtual 291, 3) := by decide +kernel
theorem dX6_without_56 : decode cX6_without 56 = .ok (.aload_n 0, 1) := by decide +kernel
theorem dX6_without_57 : decode cX6_without 57 = .ok (.aload_n 0, 1) := by decide +kernel
theorem dX6_without_58 : decode cX6_without 58 = .ok (.iconst 0, 1) := by decide +kernel
theorem dX6_without_59 : decode cX6_without 59 = .ok (.iconst 0, 1) := by decide +kernel
theorem dX6_without_60 : decode cX6_without 60 = .ok (.aload_n 0, 1) := by decide +kernel
theorem dX6_without_61 : decode cX6_without 61 = .ok (.getfield 7, 3) := by decide +kernel
theorem dX6_without_64 : decode cX6_without 64 = .ok (.iconst 1, 1) := by decide +kernel
theorem dX6_without_65 : decode cX6_without 65 = .ok (.iaload, 1) := by decide +kernel
theorem dX6_without_66 : decode cX6_without 66 = .ok (.invokevirtual 209, 3) := by decide +kernel
theorem dX6_without_69 : decode cX6_without 69 = .ok (.invokevirtual 277, 3) := by decide +kernel
theorem dX6_without_72 : decode cX6_without 72 = .ok (.istore_n 3, 1) := by decide +kernel
theorem dX6_without_73 : decode cX6_without 73 = .ok (.aload_n 0, 1) := by decide +kernel
theorem dX6_without_74 : decode cX6_without 74 = .ok (.iconst (-1), 1) := by decide +kernel
theorem dX6_without_75 : decode cX6_without 75 = .ok (.putfield 36, 3) := by decide +kernel
theorem dX6_without_78 : decode cX6_without 78 = .ok (.iload_n 3, 1) := by decide +kernel
theorem dX6_without_79 : decode cX6_without 79 = .ok (.ireturn, 1) := by decide +kernel
theorem dX6_log_0 : decode cX6_log 0 = .ok (.aload_n 0, 1) := by decide +kernel
theorem dX6_log_1 : decode cX6_log 1 = .ok (.iload_n 1, 1) := by decide +kernel
theorem dX6_log_2 : decode cX6_log 2 = .ok (.invokevirtual 152, 3) := by decide +kernel
theorem dX6_log_5 : decode cX6_log 5 = .ok (.ifCond .eq 6, 3) := by decide +kernel
theorem dX6_log_8 : decode cX6_log 8 = .ok (.ldc 156, 2) := by decide +kernel
theorem dX6_log_10 : decode cX6_log 10 = .ok (.ireturn, 1) := by decide +kernel
theorem dX6_log_11 : decode cX6_log 11 = .ok (.aload_n 0, 1) := by decide +kernel
theorem dX6_log_12 : decode cX6_log 12 = .ok (.getfield 149, 3) := by decide +kernel
theorem dX6_log_15 : decode cX6_log 15 = .ok (.bipush 60, 2) := by decide +kernel
theorem dX6_log_17 : decode cX6_log 17 = .ok (.if_icmp .ne 6, 3) := by decide +kernel
theorem dX6_log_20 : decode cX6_log 20 = .ok (.ldc 74, 2) := by decide +kernel
theorem dX6_log_22 : decode cX6_log 22 = .ok (.ireturn, 1) := by decide +kernel
theorem dX6_log_23 : decode cX6_log 23 = .ok (.aload_n 0, 1) := by decide +kernel
theorem dX6_log_24 : decode cX6_log 24 = .ok (.getfield 46, 3) := by decide +kernel
theorem dX6_log_27 : decode cX6_log 27 = .ok (.aload_n 0, 1) := by decide +kernel
theorem dX6_log_28 : decode cX6_log 28 = .ok (.getfield 149, 3) := by decide +kernel
theorem dX6_log_31 : decode cX6_log 31 = .ok (.iload_n 1, 1) := by decide +kernel
theorem dX6_log_32 : decode cX6_log 32 = .ok (.iastore, 1) := by decide +kernel
theorem dX6_log_33 : decode cX6_log 33 = .ok (.aload_n 0, 1) := by decide +kernel
theorem dX6_log_34 : decode cX6_log 34 = .ok (.dup, 1) := by decide +kernel
theorem dX6_log_35 : decode cX6_log 35 = .ok (.getfield 149, 3) := by decide +kernel
theorem dX6_log_38 : decode cX6_log 38 = .ok (.iconst 1, 1) := by decide +kernel
theorem dX6_log_39 : decode cX6_log 39 = .ok (.iadd, 1) := by decide +kernel
theorem dX6_log_40 : decode cX6_log 40 = .ok (.putfield 149, 3) := by decide +kernel
theorem dX6_log_43 : decode cX6_log 43 = .ok (.aload_n 0, 1) := by decide +kernel
theorem dX6_log_44 : decode cX6_log 44 = .ok (.getfield 149, 3) := by decide +kernel
theorem dX6_log_47 : decode cX6_log 47 = .ok (.ireturn, 1) := by decide +kernel
theorem dX6_clear_0 : decode cX6_clear 0 = .ok (.aload_n 0, 1) := by decide +kernel
theorem dX6_clear_1 : decode cX6_clear 1 = .ok (.getfield 149, 3) := by decide +kernel
theorem dX6_clear_4 : decode cX6_clear 4 = .ok (.istore_n 1, 1) := by decide +kernel
theorem dX6_clear_5 : decode cX6_clear 5 = .ok (.aload_n 0, 1) := by decide +kernel
theorem dX6_clear_6 : decode cX6_clear 6 = .ok (.iconst 0, 1) := by decide +kernel
theorem dX6_clear_7 : decode cX6_clear 7 = .ok (.putfield 149, 3) := by decide +kernel
theorem dX6_clear_10 : decode cX6_clear 10 = .ok (.iload_n 1, 1) := by decide +kernel
theorem dX6_clear_11 : decode cX6_clear 11 = .ok (.ireturn, 1) := by decide +kernel
theorem dX6_leadsTo_0 : decode cX6_leadsTo 0 = .ok (.iconst 0, 1) := by decide +kernel
theorem dX6_leadsTo_1 : decode cX6_leadsTo 1 = .ok (.istore_n 3, 1) := by decide +kernel
theorem dX6_leadsTo_2 : decode cX6_leadsTo 2 = .ok (.iconst 0, 1) := by decide +kernel
theorem dX6_leadsTo_3 : decode cX6_leadsTo 3 = .ok (.istore 4, 2) := by decide +kernel
theorem dX6_leadsTo_5 : decode cX6_leadsTo 5 = .ok (.iload 4, 2) := by decide +kernel
theorem dX6_leadsTo_7 : decode cX6_leadsTo 7 = .ok (.aload_n 0, 1) := by decide +kernel
theorem dX6_leadsTo_8 : decode cX6_leadsTo 8 = .ok (.iload_n 1, 1) := by decide +kernel
theorem dX6_leadsTo_9 : decode cX6_leadsTo 9 = .ok (.invokevirtual 212, 3) := by decide +kernel
theorem dX6_leadsTo_12 : decode cX6_leadsTo 12 = .ok (.if_icmp .ge 40, 3) := by decide +kernel
theorem dX6_leadsTo_15 : decode cX6_leadsTo 15 = .ok (.iload_n 3, 1) := by decide +kernel
theorem dX6_leadsTo_16 : decode cX6_leadsTo 16 = .ok (.ifCond .ne 24, 3) := by decide +kernel
theorem dX6_leadsTo_19 : decode cX6_leadsTo 19 = .ok (.aload_n 0, 1) := by decide +kernel
theorem dX6_leadsTo_20 : decode cX6_leadsTo 20 = .ok (.iload_n 1, 1) := by decide +kernel
theorem dX6_leadsTo_21 : decode cX6_leadsTo 21 = .ok (.iload 4, 2) := by decide +kernel
theorem dX6_leadsTo_23 : decode cX6_leadsTo 23 = .ok (.invokevirtual 215, 3) := by decide +kernel
theorem dX6_leadsTo_26 : decode cX6_leadsTo 26 = .ok (.ifCond .eq 18, 3) := by decide +kernel
theorem dX6_leadsTo_29 : decode cX6_leadsTo 29 = .ok (.aload_n 0, 1) := by decide +kernel
theorem dX6_leadsTo_30 : decode cX6_leadsTo 30 = .ok (.iload_n 1, 1) := by decide +kernel
theorem dX6_leadsTo_31 : decode cX6_leadsTo 31 = .ok (.iload 4, 2) := by decide +kernel
theorem dX6_leadsTo_33 : decode cX6_leadsTo 33 = .ok (.invokevirtual 203, 3) := by decide +kernel
theorem dX6_leadsTo_36 : decode cX6_leadsTo 36 = .ok (.iload_n 2, 1) := by decide +kernel
theorem dX6_leadsTo_37 : decode cX6_leadsTo 37 = .ok (.if_icmp .ne 7, 3) := by decide +kernel
theorem dX6_leadsTo_40 : decode cX6_leadsTo 40 = .ok (.iconst 1, 1) := by decide +kernel
theorem dX6_leadsTo_41 : decode cX6_leadsTo 41 = .ok (.goto 4, 3) := by decide +kernel
theorem dX6_leadsTo_44 : decode cX6_leadsTo 44 = .ok (.iconst 0, 1) := by decide +kernel
theorem dX6_leadsTo_45 : decode cX6_leadsTo 45 = .ok (.istore_n 3, 1) := by decide +kernel
theorem dX6_leadsTo_46 : decode cX6_leadsTo 46 = .ok (.iinc 4 1, 3) := by decide +kernel
theorem dX6_leadsTo_49 : decode cX6_leadsTo 49 = .ok (.goto (-44), 3) := by decide +kernel
theorem dX6_leadsTo_52 : decode cX6_leadsTo 52 = .ok (.iload_n 3, 1) := by decide +kernel
theorem dX6_leadsTo_53 : decode cX6_leadsTo 53 = .ok (.ireturn, 1) := by decide +kernel
theorem dX6_judge_0 : decode cX6_judge 0 = .ok (.bipush (-2), 2) := by decide +kernel
theorem dX6_judge_2 : decode cX6_judge 2 = .ok (.istore_n 1, 1) := by decide +kernel
theorem dX6_judge_3 : decode cX6_judge 3 = .ok (.iconst 0, 1) := by decide +kernel
theorem dX6_judge_4 : decode cX6_judge 4 = .ok (.istore_n 2, 1) := by decide +kernel
theorem dX6_judge_5 : decode cX6_judge 5 = .ok (.iload_n 2, 1) := by decide +kernel
theorem dX6_judge_6 : decode cX6_judge 6 = .ok (.aload_n 0, 1) := by decide +kernel
theorem dX6_judge_7 : decode cX6_judge 7 = .ok (.getfield 149, 3) := by decide +kernel
theorem dX6_judge_10 : decode cX6_judge 10 = .ok (.if_icmp .ge 94, 3) := by decide +kernel
theorem dX6_judge_13 : decode cX6_judge 13 = .ok (.aload_n 0, 1) := by decide +kernel
theorem dX6_judge_14 : decode cX6_judge 14 = .ok (.getfield 46, 3) := by decide +kernel
theorem dX6_judge_17 : decode cX6_judge 17 = .ok (.iload_n 2, 1) := by decide +kernel
theorem dX6_judge_18 : decode cX6_judge 18 = .ok (.iaload, 1) := by decide +kernel
theorem dX6_judge_19 : decode cX6_judge 19 = .ok (.istore_n 3, 1) := by decide +kernel
theorem dX6_judge_20 : decode cX6_judge 20 = .ok (.iload_n 2, 1) := by decide +kernel
theorem dX6_judge_21 : decode cX6_judge 21 = .ok (.ifCond .ne 19, 3) := by decide +kernel
theorem dX6_judge_24 : decode cX6_judge 24 = .ok (.iload_n 3, 1) := by decide +kernel
theorem dX6_judge_25 : decode cX6_judge 25 = .ok (.ifCond .ne 38, 3) := by decide +kernel
theorem dX6_judge_28 : decode cX6_judge 28 = .ok (.aload_n 0, 1) := by decide +kernel
theorem dX6_judge_29 : decode cX6_judge 29 = .ok (.getfield 7, 3) := by decide +kernel
theorem dX6_judge_32 : decode cX6_judge 32 = .ok (.iconst 0, 1) := by decide +kernel
theorem dX6_judge_33 : decode cX6_judge 33 = .ok (.iaload, 1) := by decide +kernel
theorem dX6_judge_34 : decode cX6_judge 34 = .ok (.ifCond .ne 31, 3) := by decide +kernel
theorem dX6_judge_37 : decode cX6_judge 37 = .ok (.goto 26, 3) := by decide +kernel
theorem dX6_judge_40 : decode cX6_judge 40 = .ok (.iload_n 1, 1) := by decide +kernel
theorem dX6_judge_41 : decode cX6_judge 41 = .ok (.bipush (-2), 2) := by decide +kernel
theorem dX6_judge_43 : decode cX6_judge 43 = .ok (.if_icmp .eq 20, 3) := by decide +kernel
theorem dX6_judge_46 : decode cX6_judge 46 = .ok (.aload_n 0, 1) := by decide +kernel
theorem dX6_judge_47 : decode cX6_judge 47 = .ok (.iload_n 1, 1) := by decide +kernel
theorem dX6_judge_48 : decode cX6_judge 48 = .ok (.invokevirtual 228, 3) := by decide +kernel
theorem dX6_judge_51 : decode cX6_judge 51 = .ok (.ifCond .ne 12, 3) := by decide +kernel
theorem dX6_judge_54 : decode cX6_judge 54 = .ok (.aload_n 0, 1) := by decide +kernel
theorem dX6_judge_55 : decode cX6_judge 55 = .ok (.iload_n 1, 1) := by decide +kernel
theorem dX6_judge_56 : decode cX6_judge 56 = .ok (.iload_n 3, 1) := by decide +kernel
theorem dX6_judge_57 : decode cX6_judge 57 = .ok (.invokevirtual 316, 3) := by decide +kernel
theorem dX6_judge_60 : decode cX6_judge 60 = .ok (.ifCond .ne 5, 3) := by decide +kernel
theorem dX6_judge_63 : decode cX6_judge 63 = .ok (.iload_n 2, 1) := by decide +kernel
theorem dX6_judge_64 : decode cX6_judge 64 = .ok (.ireturn, 1) := by decide +kernel
theorem dX6_judge_65 : decode cX6_judge 65 = .ok (.iload_n 2, 1) := by decide +kernel
theorem dX6_judge_66 : decode cX6_judge 66 = .ok (.ifCond .ne 18, 3) := by decide +kernel
theorem dX6_judge_69 : decode cX6_judge 69 = .ok (.aload_n 0, 1) := by decide +kernel
theorem dX6_judge_70 : decode cX6_judge 70 = .ok (.iconst 0, 1) := by decide +kernel
theorem dX6_judge_71 : decode cX6_judge 71 = .ok (.iconst 0, 1) := by decide +kernel
theorem dX6_judge_72 : decode cX6_judge 72 = .ok (.aload_n 0, 1) := by decide +kernel
theorem dX6_judge_73 : decode cX6_judge 73 = .ok (.getfield 7, 3) := by decide +kernel
theorem dX6_judge_76 : decode cX6_judge 76 = .ok (.iconst 1, 1) := by decide +kernel
theorem dX6_judge_77 : decode cX6_judge 77 = .ok (.iaload, 1) := by decide +kernel
theorem dX6_judge_78 : decode cX6_judge 78 = .ok (.invokevirtual 209, 3) := by decide +kernel
theorem dX6_judge_81 : decode cX6_judge 81 = .ok (.goto 16, 3) := by decide +kernel
theorem dX6_judge_84 : decode cX6_judge 84 = .ok (.aload_n 0, 1) := by decide +kernel
theorem dX6_judge_85 : decode cX6_judge 85 = .ok (.iload_n 3, 1) := by decide +kernel
theorem dX6_judge_86 : decode cX6_judge 86 = .ok (.iload_n 1, 1) := by decide +kernel
theorem dX6_judge_87 : decode cX6_judge 87 = .ok (.invokestatic 197, 3) := by decide +kernel
theorem dX6_judge_90 : decode cX6_judge 90 = .ok (.iload_n 1, 1) := by decide +kernel
theorem dX6_judge_91 : decode cX6_judge 91 = .ok (.invokestatic 206, 3) := by decide +kernel
theorem dX6_judge_94 : decode cX6_judge 94 = .ok (.invokevirtual 209, 3) := by decide +kernel
theorem dX6_judge_97 : decode cX6_judge 97 = .ok (.istore_n 1, 1) := by decide +kernel
theorem dX6_judge_98 : decode cX6_judge 98 = .ok (.iinc 2 1, 3) := by decide +kernel
theorem dX6_judge_101 : decode cX6_judge 101 = .ok (.goto (-96), 3) := by decide +kernel
theorem dX6_judge_104 : decode cX6_judge 104 = .ok (.iconst (-1), 1) := by decide +kernel
theorem dX6_judge_105 : decode cX6_judge 105 = .ok (.ireturn, 1) := by decide +kernel
theorem dX6_number_0 : decode cX6_number 0 = .ok (.aload_n 0, 1) := by decide +kernel
theorem dX6_number_1 : decode cX6_number 1 = .ok (.iload_n 1, 1) := by decide +kernel
theorem dX6_number_2 : decode cX6_number 2 = .ok (.invokevirtual 152, 3) := by decide +kernel
theorem dX6_number_5 : decode cX6_number 5 = .ok (.ifCond .eq 8, 3) := by decide +kernel
theorem dX6_number_8 : decode cX6_number 8 = .ok (.ldc 156, 2) := by decide +kernel
theorem dX6_number_10 : decode cX6_number 10 = .ok (.goto 13, 3) := by decide +kernel
theorem dX6_number_13 : decode cX6_number 13 = .ok (.aload_n 0, 1) := by decide +kernel
theorem dX6_number_14 : decode cX6_number 14 = .ok (.getfield 7, 3) := by decide +kernel
theorem dX6_number_17 : decode cX6_number 17 = .ok (.sipush 152, 3) := by decide +kernel
theorem dX6_number_20 : decode cX6_number 20 = .ok (.iload_n 1, 1) := by decide +kernel
theorem dX6_number_21 : decode cX6_number 21 = .ok (.iadd, 1) := by decide +kernel
theorem dX6_number_22 : decode cX6_number 22 = .ok (.iaload, 1) := by decide +kernel
theorem dX6_number_23 : decode cX6_number 23 = .ok (.ireturn, 1) := by decide +kernel
theorem dX6_leads_0 : decode cX6_leads 0 = .ok (.aload_n 0, 1) := by decide +kernel
theorem dX6_leads_1 : decode cX6_leads 1 = .ok (.getfield 7, 3) := by decide +kernel
theorem dX6_leads_4 : decode cX6_leads 4 = .ok (.bipush 8, 2) := by decide +kernel
theorem dX6_leads_6 : decode cX6_leads 6 = .ok (.iload_n 1, 1) := by decide +kernel
theorem dX6_leads_7 : decode cX6_leads 7 = .ok (.iadd, 1) := by decide +kernel
theorem dX6_leads_8 : decode cX6_leads 8 = .ok (.iaload, 1) := by decide +kernel
theorem dX6_leads_9 : decode cX6_leads 9 = .ok (.iconst 3, 1) := by decide +kernel
theorem dX6_leads_10 : decode cX6_leads 10 = .ok (.if_icmp .ne 34, 3) := by decide +kernel
theorem dX6_leads_13 : decode cX6_leads 13 = .ok (.aload_n 0, 1) := by decide +kernel
theorem dX6_leads_14 : decode cX6_leads 14 = .ok (.getfield 7, 3) := by decide +kernel
theorem dX6_leads_17 : decode cX6_leads 17 = .ok (.bipush 104, 2) := by decide +kernel
theorem dX6_leads_19 : decode cX6_leads 19 = .ok (.iload_n 1, 1) := by decide +kernel
theorem dX6_leads_20 : decode cX6_leads 20 = .ok (.iadd, 1) := by decide +kernel
theorem dX6_leads_21 : decode cX6_leads 21 = .ok (.iaload, 1) := by decide +kernel
theorem dX6_leads_22 : decode cX6_leads 22 = .ok (.iload_n 2, 1) := by decide +kernel
theorem dX6_leads_23 : decode cX6_leads 23 = .ok (.if_icmp .eq 17, 3) := by decide +kernel
theorem dX6_leads_26 : decode cX6_leads 26 = .ok (.aload_n 0, 1) := by decide +kernel
theorem dX6_leads_27 : decode cX6_leads 27 = .ok (.getfield 7, 3) := by decide +kernel
theorem dX6_leads_30 : decode cX6_leads 30 = .ok (.sipush 128, 3) := by decide +kernel
theorem dX6_leads_33 : decode cX6_leads 33 = .ok (.iload_n 1, 1) := by decide +kernel
theorem dX6_leads_34 : decode cX6_leads 34 = .ok (.iadd, 1) := by decide +kernel
theorem dX6_leads_35 : decode cX6_leads 35 = .ok (.iaload, 1) := by decide +kernel
theorem dX6_leads_36 : decode cX6_leads 36 = .ok (.iload_n 2, 1) := by decide +kernel
theorem dX6_leads_37 : decode cX6_leads 37 = .ok (.if_icmp .ne 7, 3) := by decide +kernel
theorem dX6_leads_40 : decode cX6_leads 40 = .ok (.iconst 1, 1) := by decide +kernel
theorem dX6_leads_41 : decode cX6_leads 41 = .ok (.goto 4, 3) := by decide +kernel
theorem dX6_leads_44 : decode cX6_leads 44 = .ok (.iconst 0, 1) := by decide +kernel
theorem dX6_leads_45 : decode cX6_leads 45 = .ok (.istore_n 3, 1) := by decide +kernel
theorem dX6_leads_46 : decode cX6_leads 46 = .ok (.iconst 0, 1) := by decide +kernel
theorem dX6_leads_47 : decode cX6_leads 47 = .ok (.istore 4, 2) := by decide +kernel
theorem dX6_leads_49 : decode cX6_leads 49 = .ok (.iload 4, 2) := by decide +kernel
theorem dX6_leads_51 : decode cX6_leads 51 = .ok (.aload_n 0, 1) := by decide +kernel
theorem dX6_leads_52 : decode cX6_leads 52 = .ok (.getfield 7, 3) := by decide +kernel
theorem dX6_leads_55 : decode cX6_leads 55 = .ok (.bipush 56, 2) := by decide +kernel
theorem dX6_leads_57 : decode cX6_leads 57 = .ok (.iload_n 1, 1) := by decide +kernel
theorem dX6_leads_58 : decode cX6_leads 58 = .ok (.iadd, 1) := by decide +kernel
theorem dX6_leads_59 : decode cX6_leads 59 = .ok (.iaload, 1) := by decide +kernel
theorem dX6_leads_60 : decode cX6_leads 60 = .ok (.if_icmp .ge 39, 3) := by decide +kernel
theorem dX6_leads_63 : decode cX6_leads 63 = .ok (.iload_n 3, 1) := by decide +kernel
theorem dX6_leads_64 : decode cX6_leads 64 = .ok (.ifCond .ne 23, 3) := by decide +kernel
theorem dX6_leads_67 : decode cX6_leads 67 = .ok (.aload_n 0, 1) := by decide +kernel
theorem dX6_leads_68 : decode cX6_leads 68 = .ok (.getfield 7, 3) := by decide +kernel
theorem dX6_leads_71 : decode cX6_leads 71 = .ok (.sipush 368, 3) := by decide +kernel
theorem dX6_leads_74 : decode cX6_leads 74 = .ok (.bipush 6, 2) := by decide +kernel
theorem dX6_leads_76 : decode cX6_leads 76 = .ok (.iload_n 1, 1) := by decide +kernel
theorem dX6_leads_77 : decode cX6_leads 77 = .ok (.imul, 1) := by decide +kernel
theorem dX6_leads_78 : decode cX6_leads 78 = .ok (.iadd, 1) := by decide +kernel
theorem dX6_leads_79 : decode cX6_leads 79 = .ok (.iload 4, 2) := by decide +kernel
theorem dX6_leads_81 : decode cX6_leads 81 = .ok (.iadd, 1) := by decide +kernel
theorem dX6_leads_82 : decode cX6_leads 82 = .ok (.iaload, 1) := by decide +kernel
theorem dX6_leads_83 : decode cX6_leads 83 = .ok (.iload_n 2, 1) := by decide +kernel
theorem dX6_leads_84 : decode cX6_leads 84 = .ok (.if_icmp .ne 7, 3) := by decide +kernel
theorem dX6_leads_87 : decode cX6_leads 87 = .ok (.iconst 1, 1) := by decide +kernel
theorem dX6_leads_88 : decode cX6_leads 88 = .ok (.goto 4, 3) := by decide +kernel
theorem dX6_leads_91 : decode cX6_leads 91 = .ok (.iconst 0, 1) := by decide +kernel
theorem dX6_leads_92 : decode cX6_leads 92 = .ok (.istore_n 3, 1) := by decide +kernel
theorem dX6_leads_93 : decode cX6_leads 93 = .ok (.iinc 4 1, 3) := by decide +kernel
theorem dX6_leads_96 : decode cX6_leads 96 = .ok (.goto (-47), 3) := by decide +kernel
theorem dX6_leads_99 : decode cX6_leads 99 = .ok (.iload_n 3, 1) := by decide +kernel
theorem dX6_leads_100 : decode cX6_leads 100 = .ok (.ireturn, 1) := by decide +kernel
theorem dX6_nearBy_0 : decode cX6_nearBy 0 = .ok (.iconst 0, 1) := by decide +kernel
theorem dX6_nearBy_1 : decode cX6_nearBy 1 = .ok (.istore_n 2, 1) := by decide +kernel
theorem dX6_nearBy_2 : decode cX6_nearBy 2 = .ok (.iconst 0, 1) := by decide +kernel
theorem dX6_nearBy_3 : decode cX6_nearBy 3 = .ok (.istore_n 3, 1) := by decide +kernel
theorem dX6_nearBy_4 : decode cX6_nearBy 4 = .ok (.iload_n 3, 1) := by decide +kernel
theorem dX6_nearBy_5 : decode cX6_nearBy 5 = .ok (.aload_n 0, 1) := by decide +kernel
theorem dX6_nearBy_6 : decode cX6_nearBy 6 = .ok (.getfield 7, 3) := by decide +kernel
theorem dX6_nearBy_9 : decode cX6_nearBy 9 = .ok (.iconst 0, 1) := by decide +kernel
theorem dX6_nearBy_10 : decode cX6_nearBy 10 = .ok (.iaload, 1) := by decide +kernel
theorem dX6_nearBy_11 : decode cX6_nearBy 11 = .ok (.if_icmp .ge 99, 3) := by decide +kernel
theorem dX6_nearBy_14 : decode cX6_nearBy 14 = .ok (.iload_n 3, 1) := by decide +kernel
theorem dX6_nearBy_15 : decode cX6_nearBy 15 = .ok (.iconst 1, 1) := by decide +kernel
theorem dX6_nearBy_16 : decode cX6_nearBy 16 = .ok (.iadd, 1) := by decide +kernel
theorem dX6_nearBy_17 : decode cX6_nearBy 17 = .ok (.istore 4, 2) := by decide +kernel
theorem dX6_nearBy_19 : decode cX6_nearBy 19 = .ok (.iload 4, 2) := by decide +kernel
theorem dX6_nearBy_21 : decode cX6_nearBy 21 = .ok (.aload_n 0, 1) := by decide +kernel
theorem dX6_nearBy_22 : decode cX6_nearBy 22 = .ok (.getfield 7, 3) := by decide +kernel
theorem dX6_nearBy_25 : decode cX6_nearBy 25 = .ok (.iconst 0, 1) := by decide +kernel
theorem dX6_nearBy_26 : decode cX6_nearBy 26 = .ok (.iaload, 1) := by decide +kernel
theorem dX6_nearBy_27 : decode cX6_nearBy 27 = .ok (.if_icmp .ge 77, 3) := by decide +kernel
theorem dX6_nearBy_30 : decode cX6_nearBy 30 = .ok (.aload_n 0, 1) := by decide +kernel
theorem dX6_nearBy_31 : decode cX6_nearBy 31 = .ok (.getfield 7, 3) := by decide +kernel
theorem dX6_nearBy_34 : decode cX6_nearBy 34 = .ok (.sipush 152, 3) := by decide +kernel
theorem dX6_nearBy_37 : decode cX6_nearBy 37 = .ok (.iload_n 3, 1) := by decide +kernel
theorem dX6_nearBy_38 : decode cX6_nearBy 38 = .ok (.iadd, 1) := by decide +kernel
theorem dX6_nearBy_39 : decode cX6_nearBy 39 = .ok (.iaload, 1) := by decide +kernel
theorem dX6_nearBy_40 : decode cX6_nearBy 40 = .ok (.aload_n 0, 1) := by decide +kernel
theorem dX6_nearBy_41 : decode cX6_nearBy 41 = .ok (.getfield 7, 3) := by decide +kernel
theorem dX6_nearBy_44 : decode cX6_nearBy 44 = .ok (.sipush 152, 3) := by decide +kernel
theorem dX6_nearBy_47 : decode cX6_nearBy 47 = .ok (.iload 4, 2) := by decide +kernel
theorem dX6_nearBy_49 : decode cX6_nearBy 49 = .ok (.iadd, 1) := by decide +kernel
theorem dX6_nearBy_50 : decode cX6_nearBy 50 = .ok (.iaload, 1) := by decide +kernel
theorem dX6_nearBy_51 : decode cX6_nearBy 51 = .ok (.isub, 1) := by decide +kernel
theorem dX6_nearBy_52 : decode cX6_nearBy 52 = .ok (.istore 5, 2) := by decide +kernel
theorem dX6_nearBy_54 : decode cX6_nearBy 54 = .ok (.iload_n 2, 1) := by decide +kernel
theorem dX6_nearBy_55 : decode cX6_nearBy 55 = .ok (.aload_n 0, 1) := by decide +kernel
theorem dX6_nearBy_56 : decode cX6_nearBy 56 = .ok (.iload_n 3, 1) := by decide +kernel
theorem dX6_nearBy_57 : decode cX6_nearBy 57 = .ok (.iload 4, 2) := by decide +kernel
theorem dX6_nearBy_59 : decode cX6_nearBy 59 = .ok (.invokevirtual 319, 3) := by decide +kernel
theorem dX6_nearBy_62 : decode cX6_nearBy 62 = .ok (.ifCond .ne 13, 3) := by decide +kernel
theorem dX6_nearBy_65 : decode cX6_nearBy 65 = .ok (.aload_n 0, 1) := by decide +kernel
theorem dX6_nearBy_66 : decode cX6_nearBy 66 = .ok (.iload 4, 2) := by decide +kernel
theorem dX6_nearBy_68 : decode cX6_nearBy 68 = .ok (.iload_n 3, 1) := by decide +kernel
theorem dX6_nearBy_69 : decode cX6_nearBy 69 = .ok (.invokevirtual 319, 3) := by decide +kernel
theorem dX6_nearBy_72 : decode cX6_nearBy 72 = .ok (.ifCond .eq 20, 3) := by decide +kernel
theorem dX6_nearBy_75 : decode cX6_nearBy 75 = .ok (.iload 5, 2) := by decide +kernel
theorem dX6_nearBy_77 : decode cX6_nearBy 77 = .ok (.iload_n 1, 1) := by decide +kernel
theorem dX6_nearBy_78 : decode cX6_nearBy 78 = .ok (.if_icmp .ge 14, 3) := by decide +kernel
theorem dX6_nearBy_81 : decode cX6_nearBy 81 = .ok (.iload 5, 2) := by decide +kernel
theorem dX6_nearBy_83 : decode cX6_nearBy 83 = .ok (.ineg, 1) := by decide +kernel
theorem dX6_nearBy_84 : decode cX6_nearBy 84 = .ok (.iload_n 1, 1) := by decide +kernel
theorem dX6_nearBy_85 : decode cX6_nearBy 85 = .ok (.if_icmp .ge 7, 3) := by decide +kernel
theorem dX6_nearBy_88 : decode cX6_nearBy 88 = .ok (.iconst 1, 1) := by decide +kernel
theorem dX6_nearBy_89 : decode cX6_nearBy 89 = .ok (.goto 4, 3) := by decide +kernel
theorem dX6_nearBy_92 : decode cX6_nearBy 92 = .ok (.iconst 0, 1) := by decide +kernel
theorem dX6_nearBy_93 : decode cX6_nearBy 93 = .ok (.invokestatic 218, 3) := by decide +kernel
theorem dX6_nearBy_96 : decode cX6_nearBy 96 = .ok (.iadd, 1) := by decide +kernel
theorem dX6_nearBy_97 : decode cX6_nearBy 97 = .ok (.istore_n 2, 1) := by decide +kernel
theorem dX6_nearBy_98 : decode cX6_nearBy 98 = .ok (.iinc 4 1, 3) := by decide +kernel
theorem dX6_nearBy_101 : decode cX6_nearBy 101 = .ok (.goto (-82), 3) := by decide +kernel
theorem dX6_nearBy_104 : decode cX6_nearBy 104 = .ok (.iinc 3 1, 3) := by decide +kernel
theorem dX6_nearBy_107 : decode cX6_nearBy 107 = .ok (.goto (-103), 3) := by decide +kernel
theorem dX6_nearBy_110 : decode cX6_nearBy 110 = .ok (.iload_n 2, 1) := by decide +kernel
theorem dX6_nearBy_111 : decode cX6_nearBy 111 = .ok (.ireturn, 1) := by decide +kernel
theorem dX6_near_0 : decode cX6_near 0 = .ok (.iload_n 1, 1) := by decide +kernel
theorem dX6_near_1 : decode cX6_near 1 = .ok (.i2l, 1) := by decide +kernel
theorem dX6_near_2 : decode cX6_near 2 = .ok (.lconst 1, 1) := by decide +kernel
theorem dX6_near_3 : decode cX6_near 3 = .ok (.ldc2_w 322, 3) := by decide +kernel
theorem dX6_near_6 : decode cX6_near 6 = .ok (.invokestatic 66, 3) := by decide +kernel
theorem dX6_near_9 : decode cX6_near 9 = .ok (.ifCond .eq 11, 3) := by decide +kernel
theorem dX6_near_12 : decode cX6_near 12 = .ok (.aload_n 0, 1) := by decide +kernel
theorem dX6_near_13 : decode cX6_near 13 = .ok (.iload_n 1, 1) := by decide +kernel
theorem dX6_near_14 : decode cX6_near 14 = .ok (.invokevirtual 324, 3) := by decide +kernel
theorem dX6_near_17 : decode cX6_near 17 = .ok (.goto 5, 3) := by decide +kernel
theorem dX6_near_20 : decode cX6_near 20 = .ok (.ldc 70, 2) := by decide +kernel
theorem dX6_near_22 : decode cX6_near 22 = .ok (.ireturn, 1) := by decide +kernel
theorem dX6_shuffle_0 : decode cX6_shuffle 0 = .ok (.iload_n 1, 1) := by decide +kernel
theorem dX6_shuffle_1 : decode cX6_shuffle 1 = .ok (.i2l, 1) := by decide +kernel
theorem dX6_shuffle_2 : decode cX6_shuffle 2 = .ok (.lconst 1, 1) := by decide +kernel
theorem dX6_shuffle_3 : decode cX6_shuffle 3 = .ok (.ldc2_w 322, 3) := by decide +kernel
theorem dX6_shuffle_6 : decode cX6_shuffle 6 = .ok (.invokestatic 66, 3) := by decide +kernel
theorem dX6_shuffle_9 : decode cX6_shuffle 9 = .ok (.ifCond .eq 15, 3) := by decide +kernel
theorem dX6_shuffle_12 : decode cX6_shuffle 12 = .ok (.iload_n 2, 1) := by decide +kernel
theorem dX6_shuffle_13 : decode cX6_shuffle 13 = .ok (.i2l, 1) := by decide +kernel
theorem dX6_shuffle_14 : decode cX6_shuffle 14 = .ok (.lconst 1, 1) := by decide +kernel
theorem dX6_shuffle_15 : decode cX6_shuffle 15 = .ok (.ldc2_w 327, 3) := by decide +kernel
theorem dX6_shuffle_18 : decode cX6_shuffle 18 = .ok (.invokestatic 66, 3) := by decide +kernel
theorem dX6_shuffle_21 : decode cX6_shuffle 21 = .ok (.ifCond .ne 6, 3) := by decide +kernel
theorem dX6_shuffle_24 : decode cX6_shuffle 24 = .ok (.ldc 70, 2) := by decide +kernel
theorem dX6_shuffle_26 : decode cX6_shuffle 26 = .ok (.ireturn, 1) := by decide +kernel
theorem dX6_shuffle_27 : decode cX6_shuffle 27 = .ok (.aload_n 0, 1) := by decide +kernel
theorem dX6_shuffle_28 : decode cX6_shuffle 28 = .ok (.iload_n 1, 1) := by decide +kernel
theorem dX6_shuffle_29 : decode cX6_shuffle 29 = .ok (.invokevirtual 324, 3) := by decide +kernel
theorem dX6_shuffle_32 : decode cX6_shuffle 32 = .ok (.istore_n 3, 1) := by decide +kernel
theorem dX6_shuffle_33 : decode cX6_shuffle 33 = .ok (.iconst 0, 1) := by decide +kernel
theorem dX6_shuffle_34 : decode cX6_shuffle 34 = .ok (.istore 4, 2) := by decide +kernel
theorem dX6_shuffle_36 : decode cX6_shuffle 36 = .ok (.iload 4, 2) := by decide +kernel
theorem dX6_shuffle_38 : decode cX6_shuffle 38 = .ok (.bipush 24, 2) := by decide +kernel
theorem dX6_shuffle_40 : decode cX6_shuffle 40 = .ok (.if_icmp .ge 27, 3) := by decide +kernel
theorem dX6_shuffle_43 : decode cX6_shuffle 43 = .ok (.aload_n 0, 1) := by decide +kernel
theorem dX6_shuffle_44 : decode cX6_shuffle 44 = .ok (.getfield 61, 3) := by decide +kernel
theorem dX6_shuffle_47 : decode cX6_shuffle 47 = .ok (.iload 4, 2) := by decide +kernel
theorem dX6_shuffle_49 : decode cX6_shuffle 49 = .ok (.aload_n 0, 1) := by decide +kernel
theorem dX6_shuffle_50 : decode cX6_shuffle 50 = .ok (.getfield 7, 3) := by decide +kernel
theorem dX6_shuffle_53 : decode cX6_shuffle 53 = .ok (.sipush 152, 3) := by decide +kernel
theorem dX6_shuffle_56 : decode cX6_shuffle 56 = .ok (.iload 4, 2) := by decide +kernel
theorem dX6_shuffle_58 : decode cX6_shuffle 58 = .ok (.iadd, 1) := by decide +kernel
theorem dX6_shuffle_59 : decode cX6_shuffle 59 = .ok (.iaload, 1) := by decide +kernel
theorem dX6_shuffle_60 : decode cX6_shuffle 60 = .ok (.iastore, 1) := by decide +kernel
theorem dX6_shuffle_61 : decode cX6_shuffle 61 = .ok (.iinc 4 1, 3) := by decide +kernel
theorem dX6_shuffle_64 : decode cX6_shuffle 64 = .ok (.goto (-28), 3) := by decide +kernel
theorem dX6_shuffle_67 : decode cX6_shuffle 67 = .ok (.iconst 0, 1) := by decide +kernel
theorem dX6_shuffle_68 : decode cX6_shuffle 68 = .ok (.istore 4, 2) := by decide +kernel
theorem dX6_shuffle_70 : decode cX6_shuffle 70 = .ok (.iload 4, 2) := by decide +kernel
theorem dX6_shuffle_72 : decode cX6_shuffle 72 = .ok (.iload_n 2, 1) := by decide +kernel
theorem dX6_shuffle_73 : decode cX6_shuffle 73 = .ok (.if_icmp .ge 149, 3) := by decide +kernel
theorem dX6_shuffle_76 : decode cX6_shuffle 76 = .ok (.aload_n 0, 1) := by decide +kernel
theorem dX6_shuffle_77 : decode cX6_shuffle 77 = .ok (.getfield 7, 3) := by decide +kernel
theorem dX6_shuffle_80 : decode cX6_shuffle 80 = .ok (.iconst 0, 1) := by decide +kernel
theorem dX6_shuffle_81 : decode cX6_shuffle 81 = .ok (.iaload, 1) := by decide +kernel
theorem dX6_shuffle_82 : decode cX6_shuffle 82 = .ok (.iconst 1, 1) := by decide +kernel
theorem dX6_shuffle_83 : decode cX6_shuffle 83 = .ok (.isub, 1) := by decide +kernel
theorem dX6_shuffle_84 : decode cX6_shuffle 84 = .ok (.istore 5, 2) := by decide +kernel
theorem dX6_shuffle_86 : decode cX6_shuffle 86 = .ok (.iload 5, 2) := by decide +kernel
theorem dX6_shuffle_88 : decode cX6_shuffle 88 = .ok (.iconst 1, 1) := by decide +kernel
theorem dX6_shuffle_89 : decode cX6_shuffle 89 = .ok (.if_icmp .le 67, 3) := by decide +kernel
theorem dX6_shuffle_92 : decode cX6_shuffle 92 = .ok (.iconst 1, 1) := by decide +kernel
theorem dX6_shuffle_93 : decode cX6_shuffle 93 = .ok (.aload_n 0, 1) := by decide +kernel
theorem dX6_shuffle_94 : decode cX6_shuffle 94 = .ok (.iload 5, 2) := by decide +kernel
theorem dX6_shuffle_96 : decode cX6_shuffle 96 = .ok (.invokevirtual 265, 3) := by decide +kernel
theorem dX6_shuffle_99 : decode cX6_shuffle 99 = .ok (.iadd, 1) := by decide +kernel
theorem dX6_shuffle_100 : decode cX6_shuffle 100 = .ok (.istore 6, 2) := by decide +kernel
theorem dX6_shuffle_102 : decode cX6_shuffle 102 = .ok (.aload_n 0, 1) := by decide +kernel
theorem dX6_shuffle_103 : decode cX6_shuffle 103 = .ok (.getfield 7, 3) := by decide +kernel
theorem dX6_shuffle_106 : decode cX6_shuffle 106 = .ok (.sipush 152, 3) := by decide +kernel
theorem dX6_shuffle_109 : decode cX6_shuffle 109 = .ok (.iload 5, 2) := by decide +kernel
theorem dX6_shuffle_111 : decode cX6_shuffle 111 = .ok (.iadd, 1) := by decide +kernel
theorem dX6_shuffle_112 : decode cX6_shuffle 112 = .ok (.iaload, 1) := by decide +kernel
theorem dX6_shuffle_113 : decode cX6_shuffle 113 = .ok (.istore 7, 2) := by decide +kernel
theorem dX6_shuffle_115 : decode cX6_shuffle 115 = .ok (.aload_n 0, 1) := by decide +kernel
theorem dX6_shuffle_116 : decode cX6_shuffle 116 = .ok (.getfield 7, 3) := by decide +kernel
theorem dX6_shuffle_119 : decode cX6_shuffle 119 = .ok (.sipush 152, 3) := by decide +kernel
theorem dX6_shuffle_122 : decode cX6_shuffle 122 = .ok (.iload 5, 2) := by decide +kernel
theorem dX6_shuffle_124 : decode cX6_shuffle 124 = .ok (.iadd, 1) := by decide +kernel
theorem dX6_shuffle_125 : decode cX6_shuffle 125 = .ok (.aload_n 0, 1) := by decide +kernel
theorem dX6_shuffle_126 : decode cX6_shuffle 126 = .ok (.getfield 7, 3) := by decide +kernel
theorem dX6_shuffle_129 : decode cX6_shuffle 129 = .ok (.sipush 152, 3) := by decide +kernel
theorem dX6_shuffle_132 : decode cX6_shuffle 132 = .ok (.iload 6, 2) := by decide +kernel
theorem dX6_shuffle_134 : decode cX6_shuffle 134 = .ok (.iadd, 1) := by decide +kernel
theorem dX6_shuffle_135 : decode cX6_shuffle 135 = .ok (.iaload, 1) := by decide +kernel
theorem dX6_shuffle_136 : decode cX6_shuffle 136 = .ok (.iastore, 1) := by decide +kernel
theorem dX6_shuffle_137 : decode cX6_shuffle 137 = .ok (.aload_n 0, 1) := by decide +kernel
theorem dX6_shuffle_138 : decode cX6_shuffle 138 = .ok (.getfield 7, 3) := by decide +kernel
theorem dX6_shuffle_141 : decode cX6_shuffle 141 = .ok (.sipush 152, 3) := by decide +kernel
theorem dX6_shuffle_144 : decode cX6_shuffle 144 = .ok (.iload 6, 2) := by decide +kernel
theorem dX6_shuffle_146 : decode cX6_shuffle 146 = .ok (.iadd, 1) := by decide +kernel
theorem dX6_shuffle_147 : decode cX6_shuffle 147 = .ok (.iload 7, 2) := by decide +kernel
theorem dX6_shuffle_149 : decode cX6_shuffle 149 = .ok (.iastore, 1) := by decide +kernel
theorem dX6_shuffle_150 : decode cX6_shuffle 150 = .ok (.iinc 5 (-1), 3) := by decide +kernel
theorem dX6_shuffle_153 : decode cX6_shuffle 153 = .ok (.goto (-67), 3) := by decide +kernel
theorem dX6_shuffle_156 : decode cX6_shuffle 156 = .ok (.aload_n 0, 1) := by decide +kernel
theorem dX6_shuffle_157 : decode cX6_shuffle 157 = .ok (.iload_n 1, 1) := by decide +kernel
theorem dX6_shuffle_158 : decode cX6_shuffle 158 = .ok (.invokevirtual 324, 3) := by decide +kernel
theorem dX6_shuffle_161 : decode cX6_shuffle 161 = .ok (.istore 5, 2) := by decide +kernel
theorem dX6_shuffle_163 : decode cX6_shuffle 163 = .ok (.iconst 0, 1) := by decide +kernel
theorem dX6_shuffle_164 : decode cX6_shuffle 164 = .ok (.istore 6, 2) := by decide +kernel
theorem dX6_shuffle_166 : decode cX6_shuffle 166 = .ok (.iload 6, 2) := by decide +kernel
theorem dX6_shuffle_168 : decode cX6_shuffle 168 = .ok (.bipush 24, 2) := by decide +kernel
theorem dX6_shuffle_170 : decode cX6_shuffle 170 = .ok (.if_icmp .ge 33, 3) := by decide +kernel
theorem dX6_shuffle_173 : decode cX6_shuffle 173 = .ok (.iload 5, 2) := by decide +kernel
theorem dX6_shuffle_175 : decode cX6_shuffle 175 = .ok (.iload_n 3, 1) := by decide +kernel
theorem dX6_shuffle_176 : decode cX6_shuffle 176 = .ok (.if_icmp .ge 27, 3) := by decide +kernel
theorem dX6_shuffle_179 : decode cX6_shuffle 179 = .ok (.aload_n 0, 1) := by decide +kernel
theorem dX6_shuffle_180 : decode cX6_shuffle 180 = .ok (.getfield 61, 3) := by decide +kernel
theorem dX6_shuffle_183 : decode cX6_shuffle 183 = .ok (.iload 6, 2) := by decide +kernel
theorem dX6_shuffle_185 : decode cX6_shuffle 185 = .ok (.aload_n 0, 1) := by decide +kernel
theorem dX6_shuffle_186 : decode cX6_shuffle 186 = .ok (.getfield 7, 3) := by decide +kernel
theorem dX6_shuffle_189 : decode cX6_shuffle 189 = .ok (.sipush 152, 3) := by decide +kernel
theorem dX6_shuffle_192 : decode cX6_shuffle 192 = .ok (.iload 6, 2) := by decide +kernel
theorem dX6_shuffle_194 : decode cX6_shuffle 194 = .ok (.iadd, 1) := by decide +kernel
theorem dX6_shuffle_195 : decode cX6_shuffle 195 = .ok (.iaload, 1) := by decide +kernel
theorem dX6_shuffle_196 : decode cX6_shuffle 196 = .ok (.iastore, 1) := by decide +kernel
theorem dX6_shuffle_197 : decode cX6_shuffle 197 = .ok (.iinc 6 1, 3) := by decide +kernel
theorem dX6_shuffle_200 : decode cX6_shuffle 200 = .ok (.goto (-34), 3) := by decide +kernel
theorem dX6_shuffle_203 : decode cX6_shuffle 203 = .ok (.iload 5, 2) := by decide +kernel
theorem dX6_shuffle_205 : decode cX6_shuffle 205 = .ok (.iload_n 3, 1) := by decide +kernel
theorem dX6_shuffle_206 : decode cX6_shuffle 206 = .ok (.if_icmp .ge 8, 3) := by decide +kernel
theorem dX6_shuffle_209 : decode cX6_shuffle 209 = .ok (.iload 5, 2) := by decide +kernel
theorem dX6_shuffle_211 : decode cX6_shuffle 211 = .ok (.goto 4, 3) := by decide +kernel
theorem dX6_shuffle_214 : decode cX6_shuffle 214 = .ok (.iload_n 3, 1) := by decide +kernel
theorem dX6_shuffle_215 : decode cX6_shuffle 215 = .ok (.istore_n 3, 1) := by decide +kernel
theorem dX6_shuffle_216 : decode cX6_shuffle 216 = .ok (.iinc 4 1, 3) := by decide +kernel
theorem dX6_shuffle_219 : decode cX6_shuffle 219 = .ok (.goto (-149), 3) := by decide +kernel
theorem dX6_shuffle_222 : decode cX6_shuffle 222 = .ok (.iconst 0, 1) := by decide +kernel
theorem dX6_shuffle_223 : decode cX6_shuffle 223 = .ok (.istore 4, 2) := by decide +kernel
theorem dX6_shuffle_225 : decode cX6_shuffle 225 = .ok (.iload 4, 2) := by decide +kernel
theorem dX6_shuffle_227 : decode cX6_shuffle 227 = .ok (.bipush 24, 2) := by decide +kernel
theorem dX6_shuffle_229 : decode cX6_shuffle 229 = .ok (.if_icmp .ge 27, 3) := by decide +kernel
theorem dX6_shuffle_232 : decode cX6_shuffle 232 = .ok (.aload_n 0, 1) := by decide +kernel
theorem dX6_shuffle_233 : decode cX6_shuffle 233 = .ok (.getfield 7, 3) := by decide +kernel
theorem dX6_shuffle_236 : decode cX6_shuffle 236 = .ok (.sipush 152, 3) := by decide +kernel
theorem dX6_shuffle_239 : decode cX6_shuffle 239 = .ok (.iload 4, 2) := by decide +kernel
theorem dX6_shuffle_241 : decode cX6_shuffle 241 = .ok (.iadd, 1) := by decide +kernel
theorem dX6_shuffle_242 : decode cX6_shuffle 242 = .ok (.aload_n 0, 1) := by decide +kernel
theorem dX6_shuffle_243 : decode cX6_shuffle 243 = .ok (.getfield 61, 3) := by decide +kernel
theorem dX6_shuffle_246 : decode cX6_shuffle 246 = .ok (.iload 4, 2) := by decide +kernel
theorem dX6_shuffle_248 : decode cX6_shuffle 248 = .ok (.iaload, 1) := by decide +kernel
theorem dX6_shuffle_249 : decode cX6_shuffle 249 = .ok (.iastore, 1) := by decide +kernel
theorem dX6_shuffle_250 : decode cX6_shuffle 250 = .ok (.iinc 4 1, 3) := by decide +kernel
theorem dX6_shuffle_253 : decode cX6_shuffle 253 = .ok (.goto (-28), 3) := by decide +kernel
theorem dX6_shuffle_256 : decode cX6_shuffle 256 = .ok (.iload_n 3, 1) := by decide +kernel
theorem dX6_shuffle_257 : decode cX6_shuffle 257 = .ok (.ireturn, 1) := by decide +kernel
theorem dX6_pageOf_0 : decode cX6_pageOf 0 = .ok (.iconst 0, 1) := by decide +kernel
theorem dX6_pageOf_1 : decode cX6_pageOf 1 = .ok (.istore_n 3, 1) := by decide +kernel
theorem dX6_pageOf_2 : decode cX6_pageOf 2 = .ok (.iconst 0, 1) := by decide +kernel
theorem dX6_pageOf_3 : decode cX6_pageOf 3 = .ok (.istore 4, 2) := by decide +kernel
theorem dX6_pageOf_5 : decode cX6_pageOf 5 = .ok (.iconst 1, 1) := by decide +kernel
theorem dX6_pageOf_6 : decode cX6_pageOf 6 = .ok (.istore 5, 2) := by decide +kernel
theorem dX6_pageOf_8 : decode cX6_pageOf 8 = .ok (.iload 5, 2) := by decide +kernel
theorem dX6_pageOf_10 : decode cX6_pageOf 10 = .ok (.aload_n 0, 1) := by decide +kernel
theorem dX6_pageOf_11 : decode cX6_pageOf 11 = .ok (.getfield 7, 3) := by decide +kernel
theorem dX6_pageOf_14 : decode cX6_pageOf 14 = .ok (.sipush 152, 3) := by decide +kernel
theorem dX6_pageOf_17 : decode cX6_pageOf 17 = .ok (.iload_n 1, 1) := by decide +kernel
theorem dX6_pageOf_18 : decode cX6_pageOf 18 = .ok (.iadd, 1) := by decide +kernel
theorem dX6_pageOf_19 : decode cX6_pageOf 19 = .ok (.iaload, 1) := by decide +kernel
theorem dX6_pageOf_20 : decode cX6_pageOf 20 = .ok (.if_icmp .gt 80, 3) := by decide +kernel
theorem dX6_pageOf_23 : decode cX6_pageOf 23 = .ok (.iconst 0, 1) := by decide +kernel
theorem dX6_pageOf_24 : decode cX6_pageOf 24 = .ok (.istore 6, 2) := by decide +kernel
theorem dX6_pageOf_26 : decode cX6_pageOf 26 = .ok (.iload 6, 2) := by decide +kernel
theorem dX6_pageOf_28 : decode cX6_pageOf 28 = .ok (.aload_n 0, 1) := by decide +kernel
theorem dX6_pageOf_29 : decode cX6_pageOf 29 = .ok (.getfield 7, 3) := by decide +kernel
theorem dX6_pageOf_32 : decode cX6_pageOf 32 = .ok (.iconst 0, 1) := by decide +kernel
theorem dX6_pageOf_33 : decode cX6_pageOf 33 = .ok (.iaload, 1) := by decide +kernel
theorem dX6_pageOf_34 : decode cX6_pageOf 34 = .ok (.if_icmp .ge 60, 3) := by decide +kernel
theorem dX6_pageOf_37 : decode cX6_pageOf 37 = .ok (.aload_n 0, 1) := by decide +kernel
theorem dX6_pageOf_38 : decode cX6_pageOf 38 = .ok (.getfield 7, 3) := by decide +kernel
theorem dX6_pageOf_41 : decode cX6_pageOf 41 = .ok (.sipush 152, 3) := by decide +kernel
theorem dX6_pageOf_44 : decode cX6_pageOf 44 = .ok (.iload 6, 2) := by decide +kernel
theorem dX6_pageOf_46 : decode cX6_pageOf 46 = .ok (.iadd, 1) := by decide +kernel
theorem dX6_pageOf_47 : decode cX6_pageOf 47 = .ok (.iaload, 1) := by decide +kernel
theorem dX6_pageOf_48 : decode cX6_pageOf 48 = .ok (.iload 5, 2) := by decide +kernel
theorem dX6_pageOf_50 : decode cX6_pageOf 50 = .ok (.if_icmp .ne 38, 3) := by decide +kernel
theorem dX6_pageOf_53 : decode cX6_pageOf 53 = .ok (.aload_n 0, 1) := by decide +kernel
theorem dX6_pageOf_54 : decode cX6_pageOf 54 = .ok (.iload 6, 2) := by decide +kernel
theorem dX6_pageOf_56 : decode cX6_pageOf 56 = .ok (.invokevirtual 157, 3) := by decide +kernel
theorem dX6_pageOf_59 : decode cX6_pageOf 59 = .ok (.istore 7, 2) := by decide +kernel
theorem dX6_pageOf_61 : decode cX6_pageOf 61 = .ok (.iload 4, 2) := by decide +kernel
theorem dX6_pageOf_63 : decode cX6_pageOf 63 = .ok (.ifCond .le 18, 3) := by decide +kernel
theorem dX6_pageOf_66 : decode cX6_pageOf 66 = .ok (.iload 4, 2) := by decide +kernel
theorem dX6_pageOf_68 : decode cX6_pageOf 68 = .ok (.iload 7, 2) := by decide +kernel
theorem dX6_pageOf_70 : decode cX6_pageOf 70 = .ok (.iadd, 1) := by decide +kernel
theorem dX6_pageOf_71 : decode cX6_pageOf 71 = .ok (.iload_n 2, 1) := by decide +kernel
theorem dX6_pageOf_72 : decode cX6_pageOf 72 = .ok (.if_icmp .le 9, 3) := by decide +kernel
theorem dX6_pageOf_75 : decode cX6_pageOf 75 = .ok (.iinc 3 1, 3) := by decide +kernel
theorem dX6_pageOf_78 : decode cX6_pageOf 78 = .ok (.iconst 0, 1) := by decide +kernel
theorem dX6_pageOf_79 : decode cX6_pageOf 79 = .ok (.istore 4, 2) := by decide +kernel
theorem dX6_pageOf_81 : decode cX6_pageOf 81 = .ok (.iload 4, 2) := by decide +kernel
theorem dX6_pageOf_83 : decode cX6_pageOf 83 = .ok (.iload 7, 2) := by decide +kernel
theorem dX6_pageOf_85 : decode cX6_pageOf 85 = .ok (.iadd, 1) := by decide +kernel
theorem dX6_pageOf_86 : decode cX6_pageOf 86 = .ok (.istore 4, 2) := by decide +kernel
theorem dX6_pageOf_88 : decode cX6_pageOf 88 = .ok (.iinc 6 1, 3) := by decide +kernel
theorem dX6_pageOf_91 : decode cX6_pageOf 91 = .ok (.goto (-65), 3) := by decide +kernel
theorem dX6_pageOf_94 : decode cX6_pageOf 94 = .ok (.iinc 5 1, 3) := by decide +kernel
theorem dX6_pageOf_97 : decode cX6_pageOf 97 = .ok (.goto (-89), 3) := by decide +kernel
theorem dX6_pageOf_100 : decode cX6_pageOf 100 = .ok (.iload_n 3, 1) := by decide +kernel
theorem dX6_pageOf_101 : decode cX6_pageOf 101 = .ok (.ireturn, 1) := by decide +kernel
theorem dX6_isPage_0 : decode cX6_isPage 0 = .ok (.iload_n 0, 1) := by decide +kernel
theorem dX6_isPage_1 : decode cX6_isPage 1 = .ok (.i2l, 1) := by decide +kernel
theorem dX6_isPage_2 : decode cX6_isPage 2 = .ok (.ldc2_w 329, 3) := by decide +kernel
theorem dX6_isPage_5 : decode cX6_isPage 5 = .ok (.ldc2_w 283, 3) := by decide +kernel
theorem dX6_isPage_8 : decode cX6_isPage 8 = .ok (.invokestatic 66, 3) := by decide +kernel
theorem dX6_isPage_11 : decode cX6_isPage 11 = .ok (.ireturn, 1) := by decide +kernel
theorem dX6_page_0 : decode cX6_page 0 = .ok (.aload_n 0, 1) := by decide +kernel
theorem dX6_page_1 : decode cX6_page 1 = .ok (.iload_n 1, 1) := by decide +kernel
theorem dX6_page_2 : decode cX6_page 2 = .ok (.invokevirtual 152, 3) := by decide +kernel
theorem dX6_page_5 : decode cX6_page 5 = .ok (.ifCond .eq 6, 3) := by decide +kernel
theorem dX6_page_8 : decode cX6_page 8 = .ok (.ldc 156, 2) := by decide +kernel
theorem dX6_page_10 : decode cX6_page 10 = .ok (.ireturn, 1) := by decide +kernel
theorem dX6_page_11 : decode cX6_page 11 = .ok (.iload_n 2, 1) := by decide +kernel
theorem dX6_page_12 : decode cX6_page 12 = .ok (.invokestatic 331, 3) := by decide +kernel
theorem dX6_page_15 : decode cX6_page 15 = .ok (.ifCond .eq 12, 3) := by decide +kernel
theorem dX6_page_18 : decode cX6_page 18 = .ok (.aload_n 0, 1) := by decide +kernel
theorem dX6_page_19 : decode cX6_page 19 = .ok (.iload_n 1, 1) := by decide +kernel
theorem dX6_page_20 : decode cX6_page 20 = .ok (.iload_n 2, 1) := by decide +kernel
theorem dX6_page_21 : decode cX6_page 21 = .ok (.invokevirtual 334, 3) := by decide +kernel
theorem dX6_page_24 : decode cX6_page 24 = .ok (.goto 5, 3) := by decide +kernel
theorem dX6_page_27 : decode cX6_page 27 = .ok (.ldc 70, 2) := by decide +kernel
theorem dX6_page_29 : decode cX6_page 29 = .ok (.ireturn, 1) := by decide +kernel
theorem dX6_flips_0 : decode cX6_flips 0 = .ok (.iload_n 1, 1) := by decide +kernel
theorem dX6_flips_1 : decode cX6_flips 1 = .ok (.invokestatic 331, 3) := by decide +kernel
theorem dX6_flips_4 : decode cX6_flips 4 = .ok (.ifCond .ne 6, 3) := by decide +kernel
theorem dX6_flips_7 : decode cX6_flips 7 = .ok (.ldc 70, 2) := by decide +kernel
theorem dX6_flips_9 : decode cX6_flips 9 = .ok (.ireturn, 1) := by decide +kernel
theorem dX6_flips_10 : decode cX6_flips 10 = .ok (.aload_n 0, 1) := by decide +kernel
theorem dX6_flips_11 : decode cX6_flips 11 = .ok (.getfield 7, 3) := by decide +kernel
theorem dX6_flips_14 : decode cX6_flips 14 = .ok (.iconst 3, 1) := by decide +kernel
theorem dX6_flips_15 : decode cX6_flips 15 = .ok (.iaload, 1) := by decide +kernel
theorem dX6_flips_16 : decode cX6_flips 16 = .ok (.ifCond .ge 6, 3) := by decide +kernel
theorem dX6_flips_19 : decode cX6_flips 19 = .ok (.ldc 166, 2) := by decide +kernel
theorem dX6_flips_21 : decode cX6_flips 21 = .ok (.ireturn, 1) := by decide +kernel
theorem dX6_flips_22 : decode cX6_flips 22 = .ok (.iconst 0, 1) := by decide +kernel
theorem dX6_flips_23 : decode cX6_flips 23 = .ok (.istore_n 2, 1) := by decide +kernel
theorem dX6_flips_24 : decode cX6_flips 24 = .ok (.iconst 0, 1) := by decide +kernel
theorem dX6_flips_25 : decode cX6_flips 25 = .ok (.istore_n 3, 1) := by decide +kernel
theorem dX6_flips_26 : decode cX6_flips 26 = .ok (.iload_n 3, 1) := by decide +kernel
theorem dX6_flips_27 : decode cX6_flips 27 = .ok (.aload_n 0, 1) := by decide +kernel
theorem dX6_flips_28 : decode cX6_flips 28 = .ok (.getfield 7, 3) := by decide +kernel
theorem dX6_flips_31 : decode cX6_flips 31 = .ok (.iconst 0, 1) := by decide +kernel
theorem dX6_flips_32 : decode cX6_flips 32 = .ok (.iaload, 1) := by decide +kernel
theorem dX6_flips_33 : decode cX6_flips 33 = .ok (.if_icmp .ge 91, 3) := by decide +kernel
theorem dX6_flips_36 : decode cX6_flips 36 = .ok (.iconst 0, 1) := by decide +kernel
theorem dX6_flips_37 : decode cX6_flips 37 = .ok (.istore 4, 2) := by decide +kernel
theorem dX6_flips_39 : decode cX6_flips 39 = .ok (.iload 4, 2) := by decide +kernel
theorem dX6_flips_41 : decode cX6_flips 41 = .ok (.aload_n 0, 1) := by decide +kernel
theorem dX6_flips_42 : decode cX6_flips 42 = .ok (.getfield 7, 3) := by decide +kernel
theorem dX6_flips_45 : decode cX6_flips 45 = .ok (.iconst 0, 1) := by decide +kernel
theorem dX6_flips_46 : decode cX6_flips 46 = .ok (.iaload, 1) := by decide +kernel
theorem dX6_flips_47 : decode cX6_flips 47 = .ok (.if_icmp .ge 71, 3) := by decide +kernel
theorem dX6_flips_50 : decode cX6_flips 50 = .ok (.aload_n 0, 1) := by decide +kernel
theorem dX6_flips_51 : decode cX6_flips 51 = .ok (.getfield 7, 3) := by decide +kernel
theorem dX6_flips_54 : decode cX6_flips 54 = .ok (.sipush 800, 3) := by decide +kernel
theorem dX6_flips_57 : decode cX6_flips 57 = .ok (.bipush 24, 2) := by decide +kernel
theorem dX6_flips_59 : decode cX6_flips 59 = .ok (.iload_n 3, 1) := by decide +kernel
theorem dX6_flips_60 : decode cX6_flips 60 = .ok (.imul, 1) := by decide +kernel
theorem dX6_flips_61 : decode cX6_flips 61 = .ok (.iadd, 1) := by decide +kernel
theorem dX6_flips_62 : decode cX6_flips 62 = .ok (.iload 4, 2) := by decide +kernel
theorem dX6_flips_64 : decode cX6_flips 64 = .ok (.iadd, 1) := by decide +kernel
theorem dX6_flips_65 : decode cX6_flips 65 = .ok (.iaload, 1) := by decide +kernel
theorem dX6_flips_66 : decode cX6_flips 66 = .ok (.istore 5, 2) := by decide +kernel
theorem dX6_flips_68 : decode cX6_flips 68 = .ok (.iload 5, 2) := by decide +kernel
theorem dX6_flips_70 : decode cX6_flips 70 = .ok (.ifCond .ne 7, 3) := by decide +kernel
theorem dX6_flips_73 : decode cX6_flips 73 = .ok (.iconst 0, 1) := by decide +kernel
theorem dX6_flips_74 : decode cX6_flips 74 = .ok (.goto 17, 3) := by decide +kernel
theorem dX6_flips_77 : decode cX6_flips 77 = .ok (.aload_n 0, 1) := by decide +kernel
theorem dX6_flips_78 : decode cX6_flips 78 = .ok (.iload_n 3, 1) := by decide +kernel
theorem dX6_flips_79 : decode cX6_flips 79 = .ok (.iload_n 1, 1) := by decide +kernel
theorem dX6_flips_80 : decode cX6_flips 80 = .ok (.invokevirtual 334, 3) := by decide +kernel
theorem dX6_flips_83 : decode cX6_flips 83 = .ok (.aload_n 0, 1) := by decide +kernel
theorem dX6_flips_84 : decode cX6_flips 84 = .ok (.iload 4, 2) := by decide +kernel
theorem dX6_flips_86 : decode cX6_flips 86 = .ok (.iload_n 1, 1) := by decide +kernel
theorem dX6_flips_87 : decode cX6_flips 87 = .ok (.invokevirtual 334, 3) := by decide +kernel
theorem dX6_flips_90 : decode cX6_flips 90 = .ok (.isub, 1) := by decide +kernel
theorem dX6_flips_91 : decode cX6_flips 91 = .ok (.istore 6, 2) := by decide +kernel
theorem dX6_flips_93 : decode cX6_flips 93 = .ok (.iload_n 2, 1) := by decide +kernel
theorem dX6_flips_94 : decode cX6_flips 94 = .ok (.iload 5, 2) := by decide +kernel
theorem dX6_flips_96 : decode cX6_flips 96 = .ok (.iload 6, 2) := by decide +kernel
theorem dX6_flips_98 : decode cX6_flips 98 = .ok (.ifCond .ge 9, 3) := by decide +kernel
theorem dX6_flips_101 : decode cX6_flips 101 = .ok (.iload 6, 2) := by decide +kernel
theorem dX6_flips_103 : decode cX6_flips 103 = .ok (.ineg, 1) := by decide +kernel
theorem dX6_flips_104 : decode cX6_flips 104 = .ok (.goto 5, 3) := by decide +kernel
theorem dX6_flips_107 : decode cX6_flips 107 = .ok (.iload 6, 2) := by decide +kernel
theorem dX6_flips_109 : decode cX6_flips 109 = .ok (.imul, 1) := by decide +kernel
theorem dX6_flips_110 : decode cX6_flips 110 = .ok (.iadd, 1) := by decide +kernel
theorem dX6_flips_111 : decode cX6_flips 111 = .ok (.istore_n 2, 1) := by decide +kernel
theorem dX6_flips_112 : decode cX6_flips 112 = .ok (.iinc 4 1, 3) := by decide +kernel
theorem dX6_flips_115 : decode cX6_flips 115 = .ok (.goto (-76), 3) := by decide +kernel
theorem dX6_flips_118 : decode cX6_flips 118 = .ok (.iinc 3 1, 3) := by decide +kernel
theorem dX6_flips_121 : decode cX6_flips 121 = .ok (.goto (-95), 3) := by decide +kernel
theorem dX6_flips_124 : decode cX6_flips 124 = .ok (.iload_n 2, 1) := by decide +kernel
theorem dX6_flips_125 : decode cX6_flips 125 = .ok (.ireturn, 1) := by decide +kernel
theorem dX6_seed_0 : decode cX6_seed 0 = .ok (.iload_n 1, 1) := by decide +kernel
theorem dX6_seed_1 : decode cX6_seed 1 = .ok (.ifCond .ge 6, 3) := by decide +kernel
theorem dX6_seed_4 : decode cX6_seed 4 = .ok (.ldc 70, 2) := by decide +kernel
theorem dX6_seed_6 : decode cX6_seed 6 = .ok (.ireturn, 1) := by decide +kernel
theorem dX6_seed_7 : decode cX6_seed 7 = .ok (.aload_n 0, 1) := by decide +kernel
theorem dX6_seed_8 : decode cX6_seed 8 = .ok (.getfield 7, 3) := by decide +kernel
theorem dX6_seed_11 : decode cX6_seed 11 = .ok (.iconst 2, 1) := by decide +kernel
theorem dX6_seed_12 : decode cX6_seed 12 = .ok (.iaload, 1) := by decide +kernel
theorem dX6_seed_13 : decode cX6_seed 13 = .ok (.istore_n 2, 1) := by decide +kernel
theorem dX6_seed_14 : decode cX6_seed 14 = .ok (.aload_n 0, 1) := by decide +kernel
theorem dX6_seed_15 : decode cX6_seed 15 = .ok (.getfield 7, 3) := by decide +kernel
theorem dX6_seed_18 : decode cX6_seed 18 = .ok (.iconst 2, 1) := by decide +kernel
theorem dX6_seed_19 : decode cX6_seed 19 = .ok (.iload_n 1, 1) := by decide +kernel
theorem dX6_seed_20 : decode cX6_seed 20 = .ok (.iastore, 1) := by decide +kernel
theorem dX6_seed_21 : decode cX6_seed 21 = .ok (.iload_n 2, 1) := by decide +kernel
theorem dX6_seed_22 : decode cX6_seed 22 = .ok (.ireturn, 1) := by decide +kernel
theorem dX6_nthOpen_0 : decode cX6_nthOpen 0 = .ok (.iload_n 2, 1) := by decide +kernel
theorem dX6_nthOpen_1 : decode cX6_nthOpen 1 = .ok (.istore_n 3, 1) := by decide +kernel
theorem dX6_nthOpen_2 : decode cX6_nthOpen 2 = .ok (.iconst 0, 1) := by decide +kernel
theorem dX6_nthOpen_3 : decode cX6_nthOpen 3 = .ok (.istore 4, 2) := by decide +kernel
theorem dX6_nthOpen_5 : decode cX6_nthOpen 5 = .ok (.iload 4, 2) := by decide +kernel
theorem dX6_nthOpen_7 : decode cX6_nthOpen 7 = .ok (.aload_n 0, 1) := by decide +kernel
theorem dX6_nthOpen_8 : decode cX6_nthOpen 8 = .ok (.iload_n 1, 1) := by decide +kernel
theorem dX6_nthOpen_9 : decode cX6_nthOpen 9 = .ok (.invokevirtual 212, 3) := by decide +kernel
theorem dX6_nthOpen_12 : decode cX6_nthOpen 12 = .ok (.if_icmp .ge 29, 3) := by decide +kernel
theorem dX6_nthOpen_15 : decode cX6_nthOpen 15 = .ok (.aload_n 0, 1) := by decide +kernel
theorem dX6_nthOpen_16 : decode cX6_nthOpen 16 = .ok (.iload_n 1, 1) := by decide +kernel
theorem dX6_nthOpen_17 : decode cX6_nthOpen 17 = .ok (.iload 4, 2) := by decide +kernel
theorem dX6_nthOpen_19 : decode cX6_nthOpen 19 = .ok (.invokevirtual 215, 3) := by decide +kernel
theorem dX6_nthOpen_22 : decode cX6_nthOpen 22 = .ok (.ifCond .eq 13, 3) := by decide +kernel
theorem dX6_nthOpen_25 : decode cX6_nthOpen 25 = .ok (.iload_n 3, 1) := by decide +kernel
theorem dX6_nthOpen_26 : decode cX6_nthOpen 26 = .ok (.ifCond .ne 6, 3) := by decide +kernel
theorem dX6_nthOpen_29 : decode cX6_nthOpen 29 = .ok (.iload 4, 2) := by decide +kernel
theorem dX6_nthOpen_31 : decode cX6_nthOpen 31 = .ok (.ireturn, 1) := by decide +kernel
theorem dX6_nthOpen_32 : decode cX6_nthOpen 32 = .ok (.iinc 3 (-1), 3) := by decide +kernel
theorem dX6_nthOpen_35 : decode cX6_nthOpen 35 = .ok (.iinc 4 1, 3) := by decide +kernel
theorem dX6_nthOpen_38 : decode cX6_nthOpen 38 = .ok (.goto (-33), 3) := by decide +kernel
theorem dX6_nthOpen_41 : decode cX6_nthOpen 41 = .ok (.iconst (-1), 1) := by decide +kernel
theorem dX6_nthOpen_42 : decode cX6_nthOpen 42 = .ok (.ireturn, 1) := by decide +kernel
theorem dX6_manyOpen_0 : decode cX6_manyOpen 0 = .ok (.iconst 0, 1) := by decide +kernel
theorem dX6_manyOpen_1 : decode cX6_manyOpen 1 = .ok (.istore_n 2, 1) := by decide +kernel
theorem dX6_manyOpen_2 : decode cX6_manyOpen 2 = .ok (.iconst 0, 1) := by decide +kernel
theorem dX6_manyOpen_3 : decode cX6_manyOpen 3 = .ok (.istore_n 3, 1) := by decide +kernel
theorem dX6_manyOpen_4 : decode cX6_manyOpen 4 = .ok (.iload_n 3, 1) := by decide +kernel
theorem dX6_manyOpen_5 : decode cX6_manyOpen 5 = .ok (.aload_n 0, 1) := by decide +kernel
theorem dX6_manyOpen_6 : decode cX6_manyOpen 6 = .ok (.iload_n 1, 1) := by decide +kernel
theorem dX6_manyOpen_7 : decode cX6_manyOpen 7 = .ok (.invokevirtual 212, 3) := by decide +kernel
theorem dX6_manyOpen_10 : decode cX6_manyOpen 10 = .ok (.if_icmp .ge 21, 3) := by decide +kernel
theorem dX6_manyOpen_13 : decode cX6_manyOpen 13 = .ok (.iload_n 2, 1) := by decide +kernel
theorem dX6_manyOpen_14 : decode cX6_manyOpen 14 = .ok (.aload_n 0, 1) := by decide +kernel
theorem dX6_manyOpen_15 : decode cX6_manyOpen 15 = .ok (.iload_n 1, 1) := by decide +kernel
theorem dX6_manyOpen_16 : decode cX6_manyOpen 16 = .ok (.iload_n 3, 1) := by decide +kernel
theorem dX6_manyOpen_17 : decode cX6_manyOpen 17 = .ok (.invokevirtual 215, 3) := by decide +kernel
theorem dX6_manyOpen_20 : decode cX6_manyOpen 20 = .ok (.invokestatic 218, 3) := by decide +kernel
theorem dX6_manyOpen_23 : decode cX6_manyOpen 23 = .ok (.iadd, 1) := by decide +kernel
theorem dX6_manyOpen_24 : decode cX6_manyOpen 24 = .ok (.istore_n 2, 1) := by decide +kernel
theorem dX6_manyOpen_25 : decode cX6_manyOpen 25 = .ok (.iinc 3 1, 3) := by decide +kernel
theorem dX6_manyOpen_28 : decode cX6_manyOpen 28 = .ok (.goto (-24), 3) := by decide +kernel
theorem dX6_manyOpen_31 : decode cX6_manyOpen 31 = .ok (.iload_n 2, 1) := by decide +kernel
theorem dX6_manyOpen_32 : decode cX6_manyOpen 32 = .ok (.ireturn, 1) := by decide +kernel
theorem dX6_readsBlindly_0 : decode cX6_readsBlindly 0 = .ok (.aload_n 0, 1) := by decide +kernel
theorem dX6_readsBlindly_1 : decode cX6_readsBlindly 1 = .ok (.iconst 0, 1) := by decide +kernel
theorem dX6_readsBlindly_2 : decode cX6_readsBlindly 2 = .ok (.iconst 0, 1) := by decide +kernel
theorem dX6_readsBlindly_3 : decode cX6_readsBlindly 3 = .ok (.aload_n 0, 1) := by decide +kernel
theorem dX6_readsBlindly_4 : decode cX6_readsBlindly 4 = .ok (.getfield 7, 3) := by decide +kernel
theorem dX6_readsBlindly_7 : decode cX6_readsBlindly 7 = .ok (.iconst 1, 1) := by decide +kernel
theorem dX6_readsBlindly_8 : decode cX6_readsBlindly 8 = .ok (.iaload, 1) := by decide +kernel
theorem dX6_readsBlindly_9 : decode cX6_readsBlindly 9 = .ok (.invokevirtual 209, 3) := by decide +kernel
theorem dX6_readsBlindly_12 : decode cX6_readsBlindly 12 = .ok (.istore_n 1, 1) := by decide +kernel
theorem dX6_readsBlindly_13 : decode cX6_readsBlindly 13 = .ok (.iconst 0, 1) := by decide +kernel
theorem dX6_readsBlindly_14 : decode cX6_readsBlindly 14 = .ok (.istore_n 2, 1) := by decide +kernel
theorem dX6_readsBlindly_15 : decode cX6_readsBlindly 15 = .ok (.iload_n 2, 1) := by decide +kernel
theorem dX6_readsBlindly_16 : decode cX6_readsBlindly 16 = .ok (.bipush 60, 2) := by decide +kernel
theorem dX6_readsBlindly_18 : decode cX6_readsBlindly 18 = .ok (.if_icmp .ge 93, 3) := by decide +kernel
theorem dX6_readsBlindly_21 : decode cX6_readsBlindly 21 = .ok (.iload_n 1, 1) := by decide +kernel
theorem dX6_readsBlindly_22 : decode cX6_readsBlindly 22 = .ok (.bipush (-2), 2) := by decide +kernel
theorem dX6_readsBlindly_24 : decode cX6_readsBlindly 24 = .ok (.if_icmp .eq 87, 3) := by decide +kernel
theorem dX6_readsBlindly_27 : decode cX6_readsBlindly 27 = .ok (.aload_n 0, 1) := by decide +kernel
theorem dX6_readsBlindly_28 : decode cX6_readsBlindly 28 = .ok (.iload_n 1, 1) := by decide +kernel
theorem dX6_readsBlindly_29 : decode cX6_readsBlindly 29 = .ok (.invokevirtual 228, 3) := by decide +kernel
theorem dX6_readsBlindly_32 : decode cX6_readsBlindly 32 = .ok (.ifCond .ne 79, 3) := by decide +kernel
theorem dX6_readsBlindly_35 : decode cX6_readsBlindly 35 = .ok (.iload_n 1, 1) := by decide +kernel
theorem dX6_readsBlindly_36 : decode cX6_readsBlindly 36 = .ok (.invokestatic 194, 3) := by decide +kernel
theorem dX6_readsBlindly_39 : decode cX6_readsBlindly 39 = .ok (.istore_n 3, 1) := by decide +kernel
theorem dX6_readsBlindly_40 : decode cX6_readsBlindly 40 = .ok (.aload_n 0, 1) := by decide +kernel
theorem dX6_readsBlindly_41 : decode cX6_readsBlindly 41 = .ok (.getfield 7, 3) := by decide +kernel
theorem dX6_readsBlindly_44 : decode cX6_readsBlindly 44 = .ok (.bipush 8, 2) := by decide +kernel
theorem dX6_readsBlindly_46 : decode cX6_readsBlindly 46 = .ok (.iload_n 3, 1) := by decide +kernel
theorem dX6_readsBlindly_47 : decode cX6_readsBlindly 47 = .ok (.iadd, 1) := by decide +kernel
theorem dX6_readsBlindly_48 : decode cX6_readsBlindly 48 = .ok (.iaload, 1) := by decide +kernel
theorem dX6_readsBlindly_49 : decode cX6_readsBlindly 49 = .ok (.iconst 3, 1) := by decide +kernel
theorem dX6_readsBlindly_50 : decode cX6_readsBlindly 50 = .ok (.if_icmp .ne 31, 3) := by decide +kernel
theorem dX6_readsBlindly_53 : decode cX6_readsBlindly 53 = .ok (.aload_n 0, 1) := by decide +kernel
theorem dX6_readsBlindly_54 : decode cX6_readsBlindly 54 = .ok (.bipush 6, 2) := by decide +kernel
theorem dX6_readsBlindly_56 : decode cX6_readsBlindly 56 = .ok (.invokevirtual 265, 3) := by decide +kernel
theorem dX6_readsBlindly_59 : decode cX6_readsBlindly 59 = .ok (.iconst 1, 1) := by decide +kernel
theorem dX6_readsBlindly_60 : decode cX6_readsBlindly 60 = .ok (.iadd, 1) := by decide +kernel
theorem dX6_readsBlindly_61 : decode cX6_readsBlindly 61 = .ok (.aload_n 0, 1) := by decide +kernel
theorem dX6_readsBlindly_62 : decode cX6_readsBlindly 62 = .ok (.getfield 7, 3) := by decide +kernel
theorem dX6_readsBlindly_65 : decode cX6_readsBlindly 65 = .ok (.bipush 80, 2) := by decide +kernel
theorem dX6_readsBlindly_67 : decode cX6_readsBlindly 67 = .ok (.iload_n 3, 1) := by decide +kernel
theorem dX6_readsBlindly_68 : decode cX6_readsBlindly 68 = .ok (.iadd, 1) := by decide +kernel
theorem dX6_readsBlindly_69 : decode cX6_readsBlindly 69 = .ok (.iaload, 1) := by decide +kernel
theorem dX6_readsBlindly_70 : decode cX6_readsBlindly 70 = .ok (.if_icmp .lt 7, 3) := by decide +kernel
theorem dX6_readsBlindly_73 : decode cX6_readsBlindly 73 = .ok (.iconst 0, 1) := by decide +kernel
theorem dX6_readsBlindly_74 : decode cX6_readsBlindly 74 = .ok (.goto 21, 3) := by decide +kernel
theorem dX6_readsBlindly_77 : decode cX6_readsBlindly 77 = .ok (.iconst 1, 1) := by decide +kernel
theorem dX6_readsBlindly_78 : decode cX6_readsBlindly 78 = .ok (.goto 17, 3) := by decide +kernel
theorem dX6_readsBlindly_81 : decode cX6_readsBlindly 81 = .ok (.aload_n 0, 1) := by decide +kernel
theorem dX6_readsBlindly_82 : decode cX6_readsBlindly 82 = .ok (.iload_n 1, 1) := by decide +kernel
theorem dX6_readsBlindly_83 : decode cX6_readsBlindly 83 = .ok (.aload_n 0, 1) := by decide +kernel
theorem dX6_readsBlindly_84 : decode cX6_readsBlindly 84 = .ok (.aload_n 0, 1) := by decide +kernel
theorem dX6_readsBlindly_85 : decode cX6_readsBlindly 85 = .ok (.iload_n 1, 1) := by decide +kernel
theorem dX6_readsBlindly_86 : decode cX6_readsBlindly 86 = .ok (.invokevirtual 337, 3) := by decide +kernel
theorem dX6_readsBlindly_89 : decode cX6_readsBlindly 89 = .ok (.invokevirtual 265, 3) := by decide +kernel
theorem dX6_readsBlindly_92 : decode cX6_readsBlindly 92 = .ok (.invokevirtual 340, 3) := by decide +kernel
theorem dX6_readsBlindly_95 : decode cX6_readsBlindly 95 = .ok (.istore 4, 2) := by decide +kernel
theorem dX6_readsBlindly_97 : decode cX6_readsBlindly 97 = .ok (.aload_n 0, 1) := by decide +kernel
theorem dX6_readsBlindly_98 : decode cX6_readsBlindly 98 = .ok (.iload_n 1, 1) := by decide +kernel
theorem dX6_readsBlindly_99 : decode cX6_readsBlindly 99 = .ok (.iload 4, 2) := by decide +kernel
theorem dX6_readsBlindly_101 : decode cX6_readsBlindly 101 = .ok (.invokevirtual 231, 3) := by decide +kernel
theorem dX6_readsBlindly_104 : decode cX6_readsBlindly 104 = .ok (.istore_n 1, 1) := by decide +kernel
theorem dX6_readsBlindly_105 : decode cX6_readsBlindly 105 = .ok (.iinc 2 1, 3) := by decide +kernel
theorem dX6_readsBlindly_108 : decode cX6_readsBlindly 108 = .ok (.goto (-93), 3) := by decide +kernel
theorem dX6_readsBlindly_111 : decode cX6_readsBlindly 111 = .ok (.iload_n 1, 1) := by decide +kernel
theorem dX6_readsBlindly_112 : decode cX6_readsBlindly 112 = .ok (.bipush (-2), 2) := by decide +kernel
theorem dX6_readsBlindly_114 : decode cX6_readsBlindly 114 = .ok (.if_icmp .eq 16, 3) := by decide +kernel
theorem dX6_readsBlindly_117 : decode cX6_readsBlindly 117 = .ok (.aload_n 0, 1) := by decide +kernel
theorem dX6_readsBlindly_118 : decode cX6_readsBlindly 118 = .ok (.iload_n 1, 1) := by decide +kernel
theorem dX6_readsBlindly_119 : decode cX6_readsBlindly 119 = .ok (.invokevirtual 228, 3) := by decide +kernel
theorem dX6_readsBlindly_122 : decode cX6_readsBlindly 122 = .ok (.iconst 1, 1) := by decide +kernel
theorem dX6_readsBlindly_123 : decode cX6_readsBlindly 123 = .ok (.if_icmp .ne 7, 3) := by decide +kernel
theorem dX6_readsBlindly_126 : decode cX6_readsBlindly 126 = .ok (.iconst 1, 1) := by decide +kernel
theorem dX6_readsBlindly_127 : decode cX6_readsBlindly 127 = .ok (.goto 4, 3) := by decide +kernel
theorem dX6_readsBlindly_130 : decode cX6_readsBlindly 130 = .ok (.iconst 0, 1) := by decide +kernel
theorem dX6_readsBlindly_131 : decode cX6_readsBlindly 131 = .ok (.ireturn, 1) := by decide +kernel
theorem dX6_blind_0 : decode cX6_blind 0 = .ok (.iload_n 1, 1) := by decide +kernel
theorem dX6_blind_1 : decode cX6_blind 1 = .ok (.i2l, 1) := by decide +kernel
theorem dX6_blind_2 : decode cX6_blind 2 = .ok (.lconst 1, 1) := by decide +kernel
theorem dX6_blind_3 : decode cX6_blind 3 = .ok (.ldc2_w 327, 3) := by decide +kernel
theorem dX6_blind_6 : decode cX6_blind 6 = .ok (.invokestatic 66, 3) := by decide +kernel
theorem dX6_blind_9 : decode cX6_blind 9 = .ok (.ifCond .ne 6, 3) := by decide +kernel
theorem dX6_blind_12 : decode cX6_blind 12 = .ok (.ldc 70, 2) := by decide +kernel
theorem dX6_blind_14 : decode cX6_blind 14 = .ok (.ireturn, 1) := by decide +kernel
theorem dX6_blind_15 : decode cX6_blind 15 = .ok (.aload_n 0, 1) := by decide +kernel
theorem dX6_blind_16 : decode cX6_blind 16 = .ok (.getfield 7, 3) := by decide +kernel
theorem dX6_blind_19 : decode cX6_blind 19 = .ok (.iconst 0, 1) := by decide +kernel
theorem dX6_blind_20 : decode cX6_blind 20 = .ok (.iaload, 1) := by decide +kernel
theorem dX6_blind_21 : decode cX6_blind 21 = .ok (.ifCond .ne 6, 3) := by decide +kernel
theorem dX6_blind_24 : decode cX6_blind 24 = .ok (.ldc 166, 2) := by decide +kernel
theorem dX6_blind_26 : decode cX6_blind 26 = .ok (.ireturn, 1) := by decide +kernel
theorem dX6_blind_27 : decode cX6_blind 27 = .ok (.iconst 0, 1) := by decide +kernel
theorem dX6_blind_28 : decode cX6_blind 28 = .ok (.istore_n 2, 1) := by decide +kernel
theorem dX6_blind_29 : decode cX6_blind 29 = .ok (.iconst 0, 1) := by decide +kernel
theorem dX6_blind_30 : decode cX6_blind 30 = .ok (.istore_n 3, 1) := by decide +kernel
theorem dX6_blind_31 : decode cX6_blind 31 = .ok (.iload_n 3, 1) := by decide +kernel
theorem dX6_blind_32 : decode cX6_blind 32 = .ok (.iload_n 1, 1) := by decide +kernel
theorem dX6_blind_33 : decode cX6_blind 33 = .ok (.if_icmp .ge 19, 3) := by decide +kernel
theorem dX6_blind_36 : decode cX6_blind 36 = .ok (.iload_n 2, 1) := by decide +kernel
theorem dX6_blind_37 : decode cX6_blind 37 = .ok (.aload_n 0, 1) := by decide +kernel
theorem dX6_blind_38 : decode cX6_blind 38 = .ok (.invokevirtual 343, 3) := by decide +kernel
theorem dX6_blind_41 : decode cX6_blind 41 = .ok (.invokestatic 218, 3) := by decide +kernel
theorem dX6_blind_44 : decode cX6_blind 44 = .ok (.iadd, 1) := by decide +kernel
theorem dX6_blind_45 : decode cX6_blind 45 = .ok (.istore_n 2, 1) := by decide +kernel
theorem dX6_blind_46 : decode cX6_blind 46 = .ok (.iinc 3 1, 3) := by decide +kernel
theorem dX6_blind_49 : decode cX6_blind 49 = .ok (.goto (-18), 3) := by decide +kernel
theorem dX6_blind_52 : decode cX6_blind 52 = .ok (.iload_n 2, 1) := by decide +kernel
theorem dX6_blind_53 : decode cX6_blind 53 = .ok (.ireturn, 1) := by decide +kernel
theorem dX6_copy_0 : decode cX6_copy 0 = .ok (.iconst 0, 1) := by decide +kernel
theorem dX6_copy_1 : decode cX6_copy 1 = .ok (.istore_n 3, 1) := by decide +kernel
theorem dX6_copy_2 : decode cX6_copy 2 = .ok (.iload_n 3, 1) := by decide +kernel
theorem dX6_copy_3 : decode cX6_copy 3 = .ok (.sipush 1376, 3) := by decide +kernel
theorem dX6_copy_6 : decode cX6_copy 6 = .ok (.if_icmp .ge 25, 3) := by decide +kernel
theorem dX6_copy_9 : decode cX6_copy 9 = .ok (.aload_n 0, 1) := by decide +kernel
theorem dX6_copy_10 : decode cX6_copy 10 = .ok (.getfield 7, 3) := by decide +kernel
theorem dX6_copy_13 : decode cX6_copy 13 = .ok (.iload_n 2, 1) := by decide +kernel
theorem dX6_copy_14 : decode cX6_copy 14 = .ok (.iload_n 3, 1) := by decide +kernel
theorem dX6_copy_15 : decode cX6_copy 15 = .ok (.iadd, 1) := by decide +kernel
theorem dX6_copy_16 : decode cX6_copy 16 = .ok (.aload_n 0, 1) := by decide +kernel
theorem dX6_copy_17 : decode cX6_copy 17 = .ok (.getfield 7, 3) := by decide +kernel
theorem dX6_copy_20 : decode cX6_copy 20 = .ok (.iload_n 1, 1) := by decide +kernel
theorem dX6_copy_21 : decode cX6_copy 21 = .ok (.iload_n 3, 1) := by decide +kernel
theorem dX6_copy_22 : decode cX6_copy 22 = .ok (.iadd, 1) := by decide +kernel
theorem dX6_copy_23 : decode cX6_copy 23 = .ok (.iaload, 1) := by decide +kernel
theorem dX6_copy_24 : decode cX6_copy 24 = .ok (.iastore, 1) := by decide +kernel
theorem dX6_copy_25 : decode cX6_copy 25 = .ok (.iinc 3 1, 3) := by decide +kernel
theorem dX6_copy_28 : decode cX6_copy 28 = .ok (.goto (-26), 3) := by decide +kernel
theorem dX6_copy_31 : decode cX6_copy 31 = .ok (.return_, 1) := by decide +kernel
theorem dX6_keep_0 : decode cX6_keep 0 = .ok (.iload_n 1, 1) := by decide +kernel
theorem dX6_keep_1 : decode cX6_keep 1 = .ok (.i2l, 1) := by decide +kernel
theorem dX6_keep_2 : decode cX6_keep 2 = .ok (.lconst 0, 1) := by decide +kernel
theorem dX6_keep_3 : decode cX6_keep 3 = .ok (.lconst 1, 1) := by decide +kernel
theorem dX6_keep_4 : decode cX6_keep 4 = .ok (.invokestatic 66, 3) := by decide +kernel
theorem dX6_keep_7 : decode cX6_keep 7 = .ok (.ifCond .ne 6, 3) := by decide +kernel
theorem dX6_keep_10 : decode cX6_keep 10 = .ok (.ldc 156, 2) := by decide +kernel
theorem dX6_keep_12 : decode cX6_keep 12 = .ok (.ireturn, 1) := by decide +kernel
theorem dX6_keep_13 : decode cX6_keep 13 = .ok (.aload_n 0, 1) := by decide +kernel
theorem dX6_keep_14 : decode cX6_keep 14 = .ok (.iconst 0, 1) := by decide +kernel
theorem dX6_keep_15 : decode cX6_keep 15 = .ok (.sipush 1376, 3) := by decide +kernel
theorem dX6_keep_18 : decode cX6_keep 18 = .ok (.iload_n 1, 1) := by decide +kernel
theorem dX6_keep_19 : decode cX6_keep 19 = .ok (.iconst 1, 1) := by decide +kernel
theorem dX6_keep_20 : decode cX6_keep 20 = .ok (.iadd, 1) := by decide +kernel
theorem dX6_keep_21 : decode cX6_keep 21 = .ok (.imul, 1) := by decide +kernel
theorem dX6_keep_22 : decode cX6_keep 22 = .ok (.invokevirtual 346, 3) := by decide +kernel
theorem dX6_keep_25 : decode cX6_keep 25 = .ok (.aload_n 0, 1) := by decide +kernel
theorem dX6_keep_26 : decode cX6_keep 26 = .ok (.getfield 13, 3) := by decide +kernel
theorem dX6_keep_29 : decode cX6_keep 29 = .ok (.iload_n 1, 1) := by decide +kernel
theorem dX6_keep_30 : decode cX6_keep 30 = .ok (.iconst 1, 1) := by decide +kernel
theorem dX6_keep_31 : decode cX6_keep 31 = .ok (.bastore, 1) := by decide +kernel
theorem dX6_keep_32 : decode cX6_keep 32 = .ok (.iconst 1, 1) := by decide +kernel
theorem dX6_keep_33 : decode cX6_keep 33 = .ok (.ireturn, 1) := by decide +kernel
theorem dX6_goBack_0 : decode cX6_goBack 0 = .ok (.iload_n 1, 1) := by decide +kernel
theorem dX6_goBack_1 : decode cX6_goBack 1 = .ok (.i2l, 1) := by decide +kernel
theorem dX6_goBack_2 : decode cX6_goBack 2 = .ok (.lconst 0, 1) := by decide +kernel
theorem dX6_goBack_3 : decode cX6_goBack 3 = .ok (.lconst 1, 1) := by decide +kernel
theorem dX6_goBack_4 : decode cX6_goBack 4 = .ok (.invokestatic 66, 3) := by decide +kernel
theorem dX6_goBack_7 : decode cX6_goBack 7 = .ok (.ifCond .ne 6, 3) := by decide +kernel
theorem dX6_goBack_10 : decode cX6_goBack 10 = .ok (.ldc 156, 2) := by decide +kernel
theorem dX6_goBack_12 : decode cX6_goBack 12 = .ok (.ireturn, 1) := by decide +kernel
theorem dX6_goBack_13 : decode cX6_goBack 13 = .ok (.aload_n 0, 1) := by decide +kernel
theorem dX6_goBack_14 : decode cX6_goBack 14 = .ok (.getfield 13, 3) := by decide +kernel
theorem dX6_goBack_17 : decode cX6_goBack 17 = .ok (.iload_n 1, 1) := by decide +kernel
theorem dX6_goBack_18 : decode cX6_goBack 18 = .ok (.baload, 1) := by decide +kernel
theorem dX6_goBack_19 : decode cX6_goBack 19 = .ok (.ifCond .ne 6, 3) := by decide +kernel
theorem dX6_goBack_22 : decode cX6_goBack 22 = .ok (.ldc 166, 2) := by decide +kernel
theorem dX6_goBack_24 : decode cX6_goBack 24 = .ok (.ireturn, 1) := by decide +kernel
theorem dX6_goBack_25 : decode cX6_goBack 25 = .ok (.aload_n 0, 1) := by decide +kernel
theorem dX6_goBack_26 : decode cX6_goBack 26 = .ok (.sipush 1376, 3) := by decide +kernel
theorem dX6_goBack_29 : decode cX6_goBack 29 = .ok (.iload_n 1, 1) := by decide +kernel
theorem dX6_goBack_30 : decode cX6_goBack 30 = .ok (.iconst 1, 1) := by decide +kernel
theorem dX6_goBack_31 : decode cX6_goBack 31 = .ok (.iadd, 1) := by decide +kernel
theorem dX6_goBack_32 : decode cX6_goBack 32 = .ok (.imul, 1) := by decide +kernel
theorem dX6_goBack_33 : decode cX6_goBack 33 = .ok (.iconst 0, 1) := by decide +kernel
theorem dX6_goBack_34 : decode cX6_goBack 34 = .ok (.invokevirtual 346, 3) := by decide +kernel
theorem dX6_goBack_37 : decode cX6_goBack 37 = .ok (.iconst 1, 1) := by decide +kernel
theorem dX6_goBack_38 : decode cX6_goBack 38 = .ok (.ireturn, 1) := by decide +kernel
