theorem dX12_init_0 : decode cX12_init 0 = .ok (.aload_n 0, 1) := by decide +kernel
theorem dX12_init_1 : decode cX12_init 1 = .ok (.invokespecial 1, 3) := by decide +kernel
theorem dX12_init_4 : decode cX12_init 4 = .ok (.aload_n 0, 1) := by decide +kernel
theorem dX12_init_5 : decode cX12_init 5 = .ok (.sipush 4688, 3) := by decide +kernel
theorem dX12_init_8 : decode cX12_init 8 = .ok (.newarray .int, 2) := by decide +kernel
theorem dX12_init_10 : decode cX12_init 10 = .ok (.putfield 7, 3) := by decide +kernel
theorem dX12_init_13 : decode cX12_init 13 = .ok (.aload_n 0, 1) := by decide +kernel
theorem dX12_init_14 : decode cX12_init 14 = .ok (.iconst 3, 1) := by decide +kernel
theorem dX12_init_15 : decode cX12_init 15 = .ok (.newarray .boolean, 2) := by decide +kernel
theorem dX12_init_17 : decode cX12_init 17 = .ok (.putfield 13, 3) := by decide +kernel
theorem dX12_init_20 : decode cX12_init 20 = .ok (.aload_n 0, 1) := by decide +kernel
theorem dX12_init_21 : decode cX12_init 21 = .ok (.bipush 121, 2) := by decide +kernel
theorem dX12_init_23 : decode cX12_init 23 = .ok (.newarray .int, 2) := by decide +kernel
theorem dX12_init_25 : decode cX12_init 25 = .ok (.putfield 17, 3) := by decide +kernel
theorem dX12_init_28 : decode cX12_init 28 = .ok (.aload_n 0, 1) := by decide +kernel
theorem dX12_init_29 : decode cX12_init 29 = .ok (.iconst 5, 1) := by decide +kernel
theorem dX12_init_30 : decode cX12_init 30 = .ok (.newarray .int, 2) := by decide +kernel
theorem dX12_init_32 : decode cX12_init 32 = .ok (.putfield 20, 3) := by decide +kernel
theorem dX12_init_35 : decode cX12_init 35 = .ok (.aload_n 0, 1) := by decide +kernel
theorem dX12_init_36 : decode cX12_init 36 = .ok (.bipush 16, 2) := by decide +kernel
theorem dX12_init_38 : decode cX12_init 38 = .ok (.newarray .int, 2) := by decide +kernel
theorem dX12_init_40 : decode cX12_init 40 = .ok (.putfield 23, 3) := by decide +kernel
theorem dX12_init_43 : decode cX12_init 43 = .ok (.aload_n 0, 1) := by decide +kernel
theorem dX12_init_44 : decode cX12_init 44 = .ok (.sipush 32761, 3) := by decide +kernel
theorem dX12_init_47 : decode cX12_init 47 = .ok (.newarray .int, 2) := by decide +kernel
theorem dX12_init_49 : decode cX12_init 49 = .ok (.putfield 26, 3) := by decide +kernel
theorem dX12_init_52 : decode cX12_init 52 = .ok (.aload_n 0, 1) := by decide +kernel
theorem dX12_init_53 : decode cX12_init 53 = .ok (.sipush 32761, 3) := by decide +kernel
theorem dX12_init_56 : decode cX12_init 56 = .ok (.newarray .int, 2) := by decide +kernel
theorem dX12_init_58 : decode cX12_init 58 = .ok (.putfield 29, 3) := by decide +kernel
theorem dX12_init_61 : decode cX12_init 61 = .ok (.aload_n 0, 1) := by decide +kernel
theorem dX12_init_62 : decode cX12_init 62 = .ok (.bipush 9, 2) := by decide +kernel
theorem dX12_init_64 : decode cX12_init 64 = .ok (.newarray .int, 2) := by decide +kernel
theorem dX12_init_66 : decode cX12_init 66 = .ok (.putfield 32, 3) := by decide +kernel
theorem dX12_init_69 : decode cX12_init 69 = .ok (.aload_n 0, 1) := by decide +kernel
theorem dX12_init_70 : decode cX12_init 70 = .ok (.sipush 144, 3) := by decide +kernel
theorem dX12_init_73 : decode cX12_init 73 = .ok (.newarray .boolean, 2) := by decide +kernel
theorem dX12_init_75 : decode cX12_init 75 = .ok (.putfield 35, 3) := by decide +kernel
theorem dX12_init_78 : decode cX12_init 78 = .ok (.aload_n 0, 1) := by decide +kernel
theorem dX12_init_79 : decode cX12_init 79 = .ok (.sipush 144, 3) := by decide +kernel
theorem dX12_init_82 : decode cX12_init 82 = .ok (.newarray .boolean, 2) := by decide +kernel
theorem dX12_init_84 : decode cX12_init 84 = .ok (.putfield 38, 3) := by decide +kernel
theorem dX12_init_87 : decode cX12_init 87 = .ok (.aload_n 0, 1) := by decide +kernel
theorem dX12_init_88 : decode cX12_init 88 = .ok (.sipush 576, 3) := by decide +kernel
theorem dX12_init_91 : decode cX12_init 91 = .ok (.newarray .int, 2) := by decide +kernel
theorem dX12_init_93 : decode cX12_init 93 = .ok (.putfield 41, 3) := by decide +kernel
theorem dX12_init_96 : decode cX12_init 96 = .ok (.aload_n 0, 1) := by decide +kernel
theorem dX12_init_97 : decode cX12_init 97 = .ok (.iconst 5, 1) := by decide +kernel
theorem dX12_init_98 : decode cX12_init 98 = .ok (.newarray .int, 2) := by decide +kernel
theorem dX12_init_100 : decode cX12_init 100 = .ok (.putfield 44, 3) := by decide +kernel
theorem dX12_init_103 : decode cX12_init 103 = .ok (.aload_n 0, 1) := by decide +kernel
theorem dX12_init_104 : decode cX12_init 104 = .ok (.ldc 47, 2) := by decide +kernel
theorem dX12_init_106 : decode cX12_init 106 = .ok (.newarray .int, 2) := by decide +kernel
theorem dX12_init_108 : decode cX12_init 108 = .ok (.putfield 48, 3) := by decide +kernel
theorem dX12_init_111 : decode cX12_init 111 = .ok (.aload_n 0, 1) := by decide +kernel
theorem dX12_init_112 : decode cX12_init 112 = .ok (.getfield 7, 3) := by decide +kernel
theorem dX12_init_115 : decode cX12_init 115 = .ok (.bipush 7, 2) := by decide +kernel
theorem dX12_init_117 : decode cX12_init 117 = .ok (.iconst (-1), 1) := by decide +kernel
theorem dX12_init_118 : decode cX12_init 118 = .ok (.iastore, 1) := by decide +kernel
theorem dX12_init_119 : decode cX12_init 119 = .ok (.return_, 1) := by decide +kernel
theorem dX12_isIn_0 : decode cX12_isIn 0 = .ok (.iload_n 0, 1) := by decide +kernel
theorem dX12_isIn_1 : decode cX12_isIn 1 = .ok (.iload_n 1, 1) := by decide +kernel
theorem dX12_isIn_2 : decode cX12_isIn 2 = .ok (.if_icmp .lt 12, 3) := by decide +kernel
theorem dX12_isIn_5 : decode cX12_isIn 5 = .ok (.iload_n 0, 1) := by decide +kernel
theorem dX12_isIn_6 : decode cX12_isIn 6 = .ok (.iload_n 2, 1) := by decide +kernel
theorem dX12_isIn_7 : decode cX12_isIn 7 = .ok (.if_icmp .gt 7, 3) := by decide +kernel
theorem dX12_isIn_10 : decode cX12_isIn 10 = .ok (.iconst 1, 1) := by decide +kernel
theorem dX12_isIn_11 : decode cX12_isIn 11 = .ok (.goto 4, 3) := by decide +kernel
theorem dX12_isIn_14 : decode cX12_isIn 14 = .ok (.iconst 0, 1) := by decide +kernel
theorem dX12_isIn_15 : decode cX12_isIn 15 = .ok (.ireturn, 1) := by decide +kernel
theorem dX12_feed_0 : decode cX12_feed 0 = .ok (.aload_n 0, 1) := by decide +kernel
theorem dX12_feed_1 : decode cX12_feed 1 = .ok (.getfield 7, 3) := by decide +kernel
theorem dX12_feed_4 : decode cX12_feed 4 = .ok (.iconst 5, 1) := by decide +kernel
theorem dX12_feed_5 : decode cX12_feed 5 = .ok (.iaload, 1) := by decide +kernel
theorem dX12_feed_6 : decode cX12_feed 6 = .ok (.bipush 20, 2) := by decide +kernel
theorem dX12_feed_8 : decode cX12_feed 8 = .ok (.iadd, 1) := by decide +kernel
theorem dX12_feed_9 : decode cX12_feed 9 = .ok (.sipush 600, 3) := by decide +kernel
theorem dX12_feed_12 : decode cX12_feed 12 = .ok (.if_icmp .le 5, 3) := by decide +kernel
theorem dX12_feed_15 : decode cX12_feed 15 = .ok (.iconst (-1), 1) := by decide +kernel
theorem dX12_feed_16 : decode cX12_feed 16 = .ok (.ireturn, 1) := by decide +kernel
theorem dX12_feed_17 : decode cX12_feed 17 = .ok (.iconst 0, 1) := by decide +kernel
theorem dX12_feed_18 : decode cX12_feed 18 = .ok (.istore 6, 2) := by decide +kernel
theorem dX12_feed_20 : decode cX12_feed 20 = .ok (.iload 6, 2) := by decide +kernel
theorem dX12_feed_22 : decode cX12_feed 22 = .ok (.bipush 20, 2) := by decide +kernel
theorem dX12_feed_24 : decode cX12_feed 24 = .ok (.if_icmp .ge 98, 3) := by decide +kernel
theorem dX12_feed_27 : decode cX12_feed 27 = .ok (.iload 6, 2) := by decide +kernel
theorem dX12_feed_29 : decode cX12_feed 29 = .ok (.iconst 4, 1) := by decide +kernel
theorem dX12_feed_30 : decode cX12_feed 30 = .ok (.if_icmp .ge 7, 3) := by decide +kernel
theorem dX12_feed_33 : decode cX12_feed 33 = .ok (.iload_n 1, 1) := by decide +kernel
theorem dX12_feed_34 : decode cX12_feed 34 = .ok (.goto 39, 3) := by decide +kernel
theorem dX12_feed_37 : decode cX12_feed 37 = .ok (.iload 6, 2) := by decide +kernel
theorem dX12_feed_39 : decode cX12_feed 39 = .ok (.bipush 8, 2) := by decide +kernel
theorem dX12_feed_41 : decode cX12_feed 41 = .ok (.if_icmp .ge 7, 3) := by decide +kernel
theorem dX12_feed_44 : decode cX12_feed 44 = .ok (.iload_n 2, 1) := by decide +kernel
theorem dX12_feed_45 : decode cX12_feed 45 = .ok (.goto 28, 3) := by decide +kernel
theorem dX12_feed_48 : decode cX12_feed 48 = .ok (.iload 6, 2) := by decide +kernel
theorem dX12_feed_50 : decode cX12_feed 50 = .ok (.bipush 12, 2) := by decide +kernel
theorem dX12_feed_52 : decode cX12_feed 52 = .ok (.if_icmp .ge 7, 3) := by decide +kernel
theorem dX12_feed_55 : decode cX12_feed 55 = .ok (.iload_n 3, 1) := by decide +kernel
theorem dX12_feed_56 : decode cX12_feed 56 = .ok (.goto 17, 3) := by decide +kernel
theorem dX12_feed_59 : decode cX12_feed 59 = .ok (.iload 6, 2) := by decide +kernel
theorem dX12_feed_61 : decode cX12_feed 61 = .ok (.bipush 16, 2) := by decide +kernel
theorem dX12_feed_63 : decode cX12_feed 63 = .ok (.if_icmp .ge 8, 3) := by decide +kernel
theorem dX12_feed_66 : decode cX12_feed 66 = .ok (.iload 4, 2) := by decide +kernel
theorem dX12_feed_68 : decode cX12_feed 68 = .ok (.goto 5, 3) := by decide +kernel
theorem dX12_feed_71 : decode cX12_feed 71 = .ok (.iload 5, 2) := by decide +kernel
theorem dX12_feed_73 : decode cX12_feed 73 = .ok (.istore 7, 2) := by decide +kernel
theorem dX12_feed_75 : decode cX12_feed 75 = .ok (.aload_n 0, 1) := by decide +kernel
theorem dX12_feed_76 : decode cX12_feed 76 = .ok (.getfield 7, 3) := by decide +kernel
theorem dX12_feed_79 : decode cX12_feed 79 = .ok (.bipush 10, 2) := by decide +kernel
theorem dX12_feed_81 : decode cX12_feed 81 = .ok (.aload_n 0, 1) := by decide +kernel
theorem dX12_feed_82 : decode cX12_feed 82 = .ok (.getfield 7, 3) := by decide +kernel
theorem dX12_feed_85 : decode cX12_feed 85 = .ok (.iconst 5, 1) := by decide +kernel
theorem dX12_feed_86 : decode cX12_feed 86 = .ok (.iaload, 1) := by decide +kernel
theorem dX12_feed_87 : decode cX12_feed 87 = .ok (.iadd, 1) := by decide +kernel
theorem dX12_feed_88 : decode cX12_feed 88 = .ok (.iload 7, 2) := by decide +kernel
theorem dX12_feed_90 : decode cX12_feed 90 = .ok (.bipush 24, 2) := by decide +kernel
theorem dX12_feed_92 : decode cX12_feed 92 = .ok (.bipush 8, 2) := by decide +kernel
theorem dX12_feed_94 : decode cX12_feed 94 = .ok (.iload 6, 2) := by decide +kernel
theorem dX12_feed_96 : decode cX12_feed 96 = .ok (.iconst 4, 1) := by decide +kernel
theorem dX12_feed_97 : decode cX12_feed 97 = .ok (.irem, 1) := by decide +kernel
theorem dX12_feed_98 : decode cX12_feed 98 = .ok (.imul, 1) := by decide +kernel
theorem dX12_feed_99 : decode cX12_feed 99 = .ok (.isub, 1) := by decide +kernel
theorem dX12_feed_100 : decode cX12_feed 100 = .ok (.ishr, 1) := by decide +kernel
theorem dX12_feed_101 : decode cX12_feed 101 = .ok (.sipush 255, 3) := by decide +kernel
theorem dX12_feed_104 : decode cX12_feed 104 = .ok (.iand, 1) := by decide +kernel
theorem dX12_feed_105 : decode cX12_feed 105 = .ok (.iastore, 1) := by decide +kernel
theorem dX12_feed_106 : decode cX12_feed 106 = .ok (.aload_n 0, 1) := by decide +kernel
theorem dX12_feed_107 : decode cX12_feed 107 = .ok (.getfield 7, 3) := by decide +kernel
theorem dX12_feed_110 : decode cX12_feed 110 = .ok (.iconst 5, 1) := by decide +kernel
theorem dX12_feed_111 : decode cX12_feed 111 = .ok (.dup2, 1) := by decide +kernel
theorem dX12_feed_112 : decode cX12_feed 112 = .ok (.iaload, 1) := by decide +kernel
theorem dX12_feed_113 : decode cX12_feed 113 = .ok (.iconst 1, 1) := by decide +kernel
theorem dX12_feed_114 : decode cX12_feed 114 = .ok (.iadd, 1) := by decide +kernel
theorem dX12_feed_115 : decode cX12_feed 115 = .ok (.iastore, 1) := by decide +kernel
theorem dX12_feed_116 : decode cX12_feed 116 = .ok (.iinc 6 1, 3) := by decide +kernel
theorem dX12_feed_119 : decode cX12_feed 119 = .ok (.goto (-99), 3) := by decide +kernel
theorem dX12_feed_122 : decode cX12_feed 122 = .ok (.aload_n 0, 1) := by decide +kernel
theorem dX12_feed_123 : decode cX12_feed 123 = .ok (.getfield 7, 3) := by decide +kernel
theorem dX12_feed_126 : decode cX12_feed 126 = .ok (.iconst 5, 1) := by decide +kernel
theorem dX12_feed_127 : decode cX12_feed 127 = .ok (.iaload, 1) := by decide +kernel
theorem dX12_feed_128 : decode cX12_feed 128 = .ok (.ireturn, 1) := by decide +kernel
theorem dX12_end_0 : decode cX12_end 0 = .ok (.iload_n 1, 1) := by decide +kernel
theorem dX12_end_1 : decode cX12_end 1 = .ok (.ifCond .lt 13, 3) := by decide +kernel
theorem dX12_end_4 : decode cX12_end 4 = .ok (.iload_n 1, 1) := by decide +kernel
theorem dX12_end_5 : decode cX12_end 5 = .ok (.aload_n 0, 1) := by decide +kernel
theorem dX12_end_6 : decode cX12_end 6 = .ok (.getfield 7, 3) := by decide +kernel
theorem dX12_end_9 : decode cX12_end 9 = .ok (.iconst 5, 1) := by decide +kernel
theorem dX12_end_10 : decode cX12_end 10 = .ok (.iaload, 1) := by decide +kernel
theorem dX12_end_11 : decode cX12_end 11 = .ok (.if_icmp .le 5, 3) := by decide +kernel
theorem dX12_end_14 : decode cX12_end 14 = .ok (.iconst (-1), 1) := by decide +kernel
theorem dX12_end_15 : decode cX12_end 15 = .ok (.ireturn, 1) := by decide +kernel
theorem dX12_end_16 : decode cX12_end 16 = .ok (.aload_n 0, 1) := by decide +kernel
theorem dX12_end_17 : decode cX12_end 17 = .ok (.getfield 7, 3) := by decide +kernel
theorem dX12_end_20 : decode cX12_end 20 = .ok (.iconst 5, 1) := by decide +kernel
theorem dX12_end_21 : decode cX12_end 21 = .ok (.iload_n 1, 1) := by decide +kernel
theorem dX12_end_22 : decode cX12_end 22 = .ok (.iastore, 1) := by decide +kernel
theorem dX12_end_23 : decode cX12_end 23 = .ok (.iload_n 1, 1) := by decide +kernel
theorem dX12_end_24 : decode cX12_end 24 = .ok (.ireturn, 1) := by decide +kernel
theorem dX12_byteAt_0 : decode cX12_byteAt 0 = .ok (.iload_n 1, 1) := by decide +kernel
theorem dX12_byteAt_1 : decode cX12_byteAt 1 = .ok (.aload_n 0, 1) := by decide +kernel
theorem dX12_byteAt_2 : decode cX12_byteAt 2 = .ok (.getfield 51, 3) := by decide +kernel
theorem dX12_byteAt_5 : decode cX12_byteAt 5 = .ok (.if_icmp .ge 15, 3) := by decide +kernel
theorem dX12_byteAt_8 : decode cX12_byteAt 8 = .ok (.aload_n 0, 1) := by decide +kernel
theorem dX12_byteAt_9 : decode cX12_byteAt 9 = .ok (.getfield 7, 3) := by decide +kernel
theorem dX12_byteAt_12 : decode cX12_byteAt 12 = .ok (.bipush 10, 2) := by decide +kernel
theorem dX12_byteAt_14 : decode cX12_byteAt 14 = .ok (.iload_n 1, 1) := by decide +kernel
theorem dX12_byteAt_15 : decode cX12_byteAt 15 = .ok (.iadd, 1) := by decide +kernel
theorem dX12_byteAt_16 : decode cX12_byteAt 16 = .ok (.iaload, 1) := by decide +kernel
theorem dX12_byteAt_17 : decode cX12_byteAt 17 = .ok (.goto 4, 3) := by decide +kernel
theorem dX12_byteAt_20 : decode cX12_byteAt 20 = .ok (.iconst (-1), 1) := by decide +kernel
theorem dX12_byteAt_21 : decode cX12_byteAt 21 = .ok (.ireturn, 1) := by decide +kernel
theorem dX12_isLetter_0 : decode cX12_isLetter 0 = .ok (.iload_n 0, 1) := by decide +kernel
theorem dX12_isLetter_1 : decode cX12_isLetter 1 = .ok (.bipush 97, 2) := by decide +kernel
theorem dX12_isLetter_3 : decode cX12_isLetter 3 = .ok (.if_icmp .lt 13, 3) := by decide +kernel
theorem dX12_isLetter_6 : decode cX12_isLetter 6 = .ok (.iload_n 0, 1) := by decide +kernel
theorem dX12_isLetter_7 : decode cX12_isLetter 7 = .ok (.bipush 122, 2) := by decide +kernel
theorem dX12_isLetter_9 : decode cX12_isLetter 9 = .ok (.if_icmp .gt 7, 3) := by decide +kernel
theorem dX12_isLetter_12 : decode cX12_isLetter 12 = .ok (.iconst 1, 1) := by decide +kernel
theorem dX12_isLetter_13 : decode cX12_isLetter 13 = .ok (.goto 4, 3) := by decide +kernel
theorem dX12_isLetter_16 : decode cX12_isLetter 16 = .ok (.iconst 0, 1) := by decide +kernel
theorem dX12_isLetter_17 : decode cX12_isLetter 17 = .ok (.ireturn, 1) := by decide +kernel
theorem dX12_isDigit_0 : decode cX12_isDigit 0 = .ok (.iload_n 0, 1) := by decide +kernel
theorem dX12_isDigit_1 : decode cX12_isDigit 1 = .ok (.bipush 48, 2) := by decide +kernel
theorem dX12_isDigit_3 : decode cX12_isDigit 3 = .ok (.if_icmp .lt 13, 3) := by decide +kernel
theorem dX12_isDigit_6 : decode cX12_isDigit 6 = .ok (.iload_n 0, 1) := by decide +kernel
theorem dX12_isDigit_7 : decode cX12_isDigit 7 = .ok (.bipush 57, 2) := by decide +kernel
theorem dX12_isDigit_9 : decode cX12_isDigit 9 = .ok (.if_icmp .gt 7, 3) := by decide +kernel
theorem dX12_isDigit_12 : decode cX12_isDigit 12 = .ok (.iconst 1, 1) := by decide +kernel
theorem dX12_isDigit_13 : decode cX12_isDigit 13 = .ok (.goto 4, 3) := by decide +kernel
theorem dX12_isDigit_16 : decode cX12_isDigit 16 = .ok (.iconst 0, 1) := by decide +kernel
theorem dX12_isDigit_17 : decode cX12_isDigit 17 = .ok (.ireturn, 1) := by decide +kernel
theorem dX12_four_0 : decode cX12_four 0 = .ok (.iload_n 0, 1) := by decide +kernel
theorem dX12_four_1 : decode cX12_four 1 = .ok (.bipush 32, 2) := by decide +kernel
theorem dX12_four_3 : decode cX12_four 3 = .ok (.imul, 1) := by decide +kernel
theorem dX12_four_4 : decode cX12_four 4 = .ok (.iload_n 1, 1) := by decide +kernel
theorem dX12_four_5 : decode cX12_four 5 = .ok (.iadd, 1) := by decide +kernel
theorem dX12_four_6 : decode cX12_four 6 = .ok (.bipush 32, 2) := by decide +kernel
theorem dX12_four_8 : decode cX12_four 8 = .ok (.imul, 1) := by decide +kernel
theorem dX12_four_9 : decode cX12_four 9 = .ok (.iload_n 2, 1) := by decide +kernel
theorem dX12_four_10 : decode cX12_four 10 = .ok (.iadd, 1) := by decide +kernel
theorem dX12_four_11 : decode cX12_four 11 = .ok (.bipush 32, 2) := by decide +kernel
theorem dX12_four_13 : decode cX12_four 13 = .ok (.imul, 1) := by decide +kernel
theorem dX12_four_14 : decode cX12_four 14 = .ok (.iload_n 3, 1) := by decide +kernel
theorem dX12_four_15 : decode cX12_four 15 = .ok (.iadd, 1) := by decide +kernel
theorem dX12_four_16 : decode cX12_four 16 = .ok (.i2l, 1) := by decide +kernel
theorem dX12_four_17 : decode cX12_four 17 = .ok (.lreturn, 1) := by decide +kernel
theorem dX12_eight_0 : decode cX12_eight 0 = .ok (.iload_n 0, 1) := by decide +kernel
theorem dX12_eight_1 : decode cX12_eight 1 = .ok (.iload_n 1, 1) := by decide +kernel
theorem dX12_eight_2 : decode cX12_eight 2 = .ok (.iload_n 2, 1) := by decide +kernel
theorem dX12_eight_3 : decode cX12_eight 3 = .ok (.iload_n 3, 1) := by decide +kernel
theorem dX12_eight_4 : decode cX12_eight 4 = .ok (.invokestatic 55, 3) := by decide +kernel
theorem dX12_eight_7 : decode cX12_eight 7 = .ok (.ldc2_w 59, 3) := by decide +kernel
theorem dX12_eight_10 : decode cX12_eight 10 = .ok (.lmul, 1) := by decide +kernel
theorem dX12_eight_11 : decode cX12_eight 11 = .ok (.iload 4, 2) := by decide +kernel
theorem dX12_eight_13 : decode cX12_eight 13 = .ok (.iload 5, 2) := by decide +kernel
theorem dX12_eight_15 : decode cX12_eight 15 = .ok (.iload 6, 2) := by decide +kernel
theorem dX12_eight_17 : decode cX12_eight 17 = .ok (.iload 7, 2) := by decide +kernel
theorem dX12_eight_19 : decode cX12_eight 19 = .ok (.invokestatic 55, 3) := by decide +kernel
theorem dX12_eight_22 : decode cX12_eight 22 = .ok (.ladd, 1) := by decide +kernel
theorem dX12_eight_23 : decode cX12_eight 23 = .ok (.lreturn, 1) := by decide +kernel
theorem dX12_wordOf_0 : decode cX12_wordOf 0 = .ok (.lload_n 0, 1) := by decide +kernel
theorem dX12_wordOf_1 : decode cX12_wordOf 1 = .ok (.bipush 12, 2) := by decide +kernel
theorem dX12_wordOf_3 : decode cX12_wordOf 3 = .ok (.iconst 1, 1) := by decide +kernel
theorem dX12_wordOf_4 : decode cX12_wordOf 4 = .ok (.bipush 11, 2) := by decide +kernel
theorem dX12_wordOf_6 : decode cX12_wordOf 6 = .ok (.iconst 5, 1) := by decide +kernel
theorem dX12_wordOf_7 : decode cX12_wordOf 7 = .ok (.invokestatic 55, 3) := by decide +kernel
theorem dX12_wordOf_10 : decode cX12_wordOf 10 = .ok (.lcmp, 1) := by decide +kernel
theorem dX12_wordOf_11 : decode cX12_wordOf 11 = .ok (.ifCond .ne 5, 3) := by decide +kernel
theorem dX12_wordOf_14 : decode cX12_wordOf 14 = .ok (.iconst 1, 1) := by decide +kernel
theorem dX12_wordOf_15 : decode cX12_wordOf 15 = .ok (.ireturn, 1) := by decide +kernel
theorem dX12_wordOf_16 : decode cX12_wordOf 16 = .ok (.lload_n 0, 1) := by decide +kernel
theorem dX12_wordOf_17 : decode cX12_wordOf 17 = .ok (.bipush 18, 2) := by decide +kernel
theorem dX12_wordOf_19 : decode cX12_wordOf 19 = .ok (.iconst 1, 1) := by decide +kernel
theorem dX12_wordOf_20 : decode cX12_wordOf 20 = .ok (.bipush 6, 2) := by decide +kernel
theorem dX12_wordOf_22 : decode cX12_wordOf 22 = .ok (.bipush 20, 2) := by decide +kernel
theorem dX12_wordOf_24 : decode cX12_wordOf 24 = .ok (.invokestatic 55, 3) := by decide +kernel
theorem dX12_wordOf_27 : decode cX12_wordOf 27 = .ok (.lcmp, 1) := by decide +kernel
theorem dX12_wordOf_28 : decode cX12_wordOf 28 = .ok (.ifCond .ne 5, 3) := by decide +kernel
theorem dX12_wordOf_31 : decode cX12_wordOf 31 = .ok (.iconst 2, 1) := by decide +kernel
theorem dX12_wordOf_32 : decode cX12_wordOf 32 = .ok (.ireturn, 1) := by decide +kernel
theorem dX12_wordOf_33 : decode cX12_wordOf 33 = .ok (.lload_n 0, 1) := by decide +kernel
theorem dX12_wordOf_34 : decode cX12_wordOf 34 = .ok (.iconst 0, 1) := by decide +kernel
theorem dX12_wordOf_35 : decode cX12_wordOf 35 = .ok (.iconst 0, 1) := by decide +kernel
theorem dX12_wordOf_36 : decode cX12_wordOf 36 = .ok (.iconst 1, 1) := by decide +kernel
theorem dX12_wordOf_37 : decode cX12_wordOf 37 = .ok (.bipush 20, 2) := by decide +kernel
theorem dX12_wordOf_39 : decode cX12_wordOf 39 = .ok (.invokestatic 55, 3) := by decide +kernel
theorem dX12_wordOf_42 : decode cX12_wordOf 42 = .ok (.lcmp, 1) := by decide +kernel
theorem dX12_wordOf_43 : decode cX12_wordOf 43 = .ok (.ifCond .ne 5, 3) := by decide +kernel
theorem dX12_wordOf_46 : decode cX12_wordOf 46 = .ok (.iconst 3, 1) := by decide +kernel
theorem dX12_wordOf_47 : decode cX12_wordOf 47 = .ok (.ireturn, 1) := by decide +kernel
theorem dX12_wordOf_48 : decode cX12_wordOf 48 = .ok (.lload_n 0, 1) := by decide +kernel
theorem dX12_wordOf_49 : decode cX12_wordOf 49 = .ok (.iconst 0, 1) := by decide +kernel
theorem dX12_wordOf_50 : decode cX12_wordOf 50 = .ok (.iconst 0, 1) := by decide +kernel
theorem dX12_wordOf_51 : decode cX12_wordOf 51 = .ok (.iconst 0, 1) := by decide +kernel
theorem dX12_wordOf_52 : decode cX12_wordOf 52 = .ok (.bipush 19, 2) := by decide +kernel
theorem dX12_wordOf_54 : decode cX12_wordOf 54 = .ok (.bipush 20, 2) := by decide +kernel
theorem dX12_wordOf_56 : decode cX12_wordOf 56 = .ok (.bipush 9, 2) := by decide +kernel
theorem dX12_wordOf_58 : decode cX12_wordOf 58 = .ok (.bipush 6, 2) := by decide +kernel
theorem dX12_wordOf_60 : decode cX12_wordOf 60 = .ok (.bipush 6, 2) := by decide +kernel
theorem dX12_wordOf_62 : decode cX12_wordOf 62 = .ok (.invokestatic 61, 3) := by decide +kernel
theorem dX12_wordOf_65 : decode cX12_wordOf 65 = .ok (.lcmp, 1) := by decide +kernel
theorem dX12_wordOf_66 : decode cX12_wordOf 66 = .ok (.ifCond .ne 5, 3) := by decide +kernel
theorem dX12_wordOf_69 : decode cX12_wordOf 69 = .ok (.iconst 4, 1) := by decide +kernel
theorem dX12_wordOf_70 : decode cX12_wordOf 70 = .ok (.ireturn, 1) := by decide +kernel
theorem dX12_wordOf_71 : decode cX12_wordOf 71 = .ok (.lload_n 0, 1) := by decide +kernel
theorem dX12_wordOf_72 : decode cX12_wordOf 72 = .ok (.iconst 4, 1) := by decide +kernel
theorem dX12_wordOf_73 : decode cX12_wordOf 73 = .ok (.bipush 18, 2) := by decide +kernel
theorem dX12_wordOf_75 : decode cX12_wordOf 75 = .ok (.iconst 1, 1) := by decide +kernel
theorem dX12_wordOf_76 : decode cX12_wordOf 76 = .ok (.bipush 7, 2) := by decide +kernel
theorem dX12_wordOf_78 : decode cX12_wordOf 78 = .ok (.invokestatic 55, 3) := by decide +kernel
theorem dX12_wordOf_81 : decode cX12_wordOf 81 = .ok (.lcmp, 1) := by decide +kernel
theorem dX12_wordOf_82 : decode cX12_wordOf 82 = .ok (.ifCond .ne 5, 3) := by decide +kernel
theorem dX12_wordOf_85 : decode cX12_wordOf 85 = .ok (.iconst 5, 1) := by decide +kernel
theorem dX12_wordOf_86 : decode cX12_wordOf 86 = .ok (.ireturn, 1) := by decide +kernel
theorem dX12_wordOf_87 : decode cX12_wordOf 87 = .ok (.lload_n 0, 1) := by decide +kernel
theorem dX12_wordOf_88 : decode cX12_wordOf 88 = .ok (.iconst 0, 1) := by decide +kernel
theorem dX12_wordOf_89 : decode cX12_wordOf 89 = .ok (.iconst 0, 1) := by decide +kernel
theorem dX12_wordOf_90 : decode cX12_wordOf 90 = .ok (.iconst 0, 1) := by decide +kernel
theorem dX12_wordOf_91 : decode cX12_wordOf 91 = .ok (.bipush 6, 2) := by decide +kernel
theorem dX12_wordOf_93 : decode cX12_wordOf 93 = .ok (.bipush 12, 2) := by decide +kernel
theorem dX12_wordOf_95 : decode cX12_wordOf 95 = .ok (.bipush 15, 2) := by decide +kernel
theorem dX12_wordOf_97 : decode cX12_wordOf 97 = .ok (.iconst 1, 1) := by decide +kernel
theorem dX12_wordOf_98 : decode cX12_wordOf 98 = .ok (.bipush 20, 2) := by decide +kernel
theorem dX12_wordOf_100 : decode cX12_wordOf 100 = .ok (.invokestatic 61, 3) := by decide +kernel
theorem dX12_wordOf_103 : decode cX12_wordOf 103 = .ok (.lcmp, 1) := by decide +kernel
theorem dX12_wordOf_104 : decode cX12_wordOf 104 = .ok (.ifCond .ne 6, 3) := by decide +kernel
theorem dX12_wordOf_107 : decode cX12_wordOf 107 = .ok (.bipush 6, 2) := by decide +kernel
theorem dX12_wordOf_109 : decode cX12_wordOf 109 = .ok (.ireturn, 1) := by decide +kernel
theorem dX12_wordOf_110 : decode cX12_wordOf 110 = .ok (.lload_n 0, 1) := by decide +kernel
theorem dX12_wordOf_111 : decode cX12_wordOf 111 = .ok (.bipush 18, 2) := by decide +kernel
theorem dX12_wordOf_113 : decode cX12_wordOf 113 = .ok (.bipush 15, 2) := by decide +kernel
theorem dX12_wordOf_115 : decode cX12_wordOf 115 = .ok (.iconst 3, 1) := by decide +kernel
theorem dX12_wordOf_116 : decode cX12_wordOf 116 = .ok (.bipush 11, 2) := by decide +kernel
theorem dX12_wordOf_118 : decode cX12_wordOf 118 = .ok (.invokestatic 55, 3) := by decide +kernel
theorem dX12_wordOf_121 : decode cX12_wordOf 121 = .ok (.lcmp, 1) := by decide +kernel
theorem dX12_wordOf_122 : decode cX12_wordOf 122 = .ok (.ifCond .ne 6, 3) := by decide +kernel
theorem dX12_wordOf_125 : decode cX12_wordOf 125 = .ok (.bipush 7, 2) := by decide +kernel
theorem dX12_wordOf_127 : decode cX12_wordOf 127 = .ok (.ireturn, 1) := by decide +kernel
theorem dX12_wordOf_128 : decode cX12_wordOf 128 = .ok (.lload_n 0, 1) := by decide +kernel
theorem dX12_wordOf_129 : decode cX12_wordOf 129 = .ok (.iconst 0, 1) := by decide +kernel
theorem dX12_wordOf_130 : decode cX12_wordOf 130 = .ok (.iconst 0, 1) := by decide +kernel
theorem dX12_wordOf_131 : decode cX12_wordOf 131 = .ok (.iconst 0, 1) := by decide +kernel
theorem dX12_wordOf_132 : decode cX12_wordOf 132 = .ok (.bipush 7, 2) := by decide +kernel
theorem dX12_wordOf_134 : decode cX12_wordOf 134 = .ok (.bipush 18, 2) := by decide +kernel
theorem dX12_wordOf_136 : decode cX12_wordOf 136 = .ok (.iconst 1, 1) := by decide +kernel
theorem dX12_wordOf_137 : decode cX12_wordOf 137 = .ok (.bipush 22, 2) := by decide +kernel
theorem dX12_wordOf_139 : decode cX12_wordOf 139 = .ok (.iconst 5, 1) := by decide +kernel
theorem dX12_wordOf_140 : decode cX12_wordOf 140 = .ok (.invokestatic 61, 3) := by decide +kernel
theorem dX12_wordOf_143 : decode cX12_wordOf 143 = .ok (.lcmp, 1) := by decide +kernel
theorem dX12_wordOf_144 : decode cX12_wordOf 144 = .ok (.ifCond .ne 6, 3) := by decide +kernel
theorem dX12_wordOf_147 : decode cX12_wordOf 147 = .ok (.bipush 8, 2) := by decide +kernel
theorem dX12_wordOf_149 : decode cX12_wordOf 149 = .ok (.ireturn, 1) := by decide +kernel
theorem dX12_wordOf_150 : decode cX12_wordOf 150 = .ok (.lload_n 0, 1) := by decide +kernel
theorem dX12_wordOf_151 : decode cX12_wordOf 151 = .ok (.iconst 0, 1) := by decide +kernel
theorem dX12_wordOf_152 : decode cX12_wordOf 152 = .ok (.iconst 0, 1) := by decide +kernel
theorem dX12_wordOf_153 : decode cX12_wordOf 153 = .ok (.bipush 23, 2) := by decide +kernel
theorem dX12_wordOf_155 : decode cX12_wordOf 155 = .ok (.bipush 18, 2) := by decide +kernel
theorem dX12_wordOf_157 : decode cX12_wordOf 157 = .ok (.iconst 5, 1) := by decide +kernel
theorem dX12_wordOf_158 : decode cX12_wordOf 158 = .ok (.iconst 1, 1) := by decide +kernel
theorem dX12_wordOf_159 : decode cX12_wordOf 159 = .ok (.bipush 20, 2) := by decide +kernel
theorem dX12_wordOf_161 : decode cX12_wordOf 161 = .ok (.bipush 8, 2) := by decide +kernel
theorem dX12_wordOf_163 : decode cX12_wordOf 163 = .ok (.invokestatic 61, 3) := by decide +kernel
theorem dX12_wordOf_166 : decode cX12_wordOf 166 = .ok (.lcmp, 1) := by decide +kernel
theorem dX12_wordOf_167 : decode cX12_wordOf 167 = .ok (.ifCond .ne 6, 3) := by decide +kernel
theorem dX12_wordOf_170 : decode cX12_wordOf 170 = .ok (.bipush 9, 2) := by decide +kernel
theorem dX12_wordOf_172 : decode cX12_wordOf 172 = .ok (.ireturn, 1) := by decide +kernel
theorem dX12_wordOf_173 : decode cX12_wordOf 173 = .ok (.lload_n 0, 1) := by decide +kernel
theorem dX12_wordOf_174 : decode cX12_wordOf 174 = .ok (.iconst 0, 1) := by decide +kernel
theorem dX12_wordOf_175 : decode cX12_wordOf 175 = .ok (.bipush 13, 2) := by decide +kernel
theorem dX12_wordOf_177 : decode cX12_wordOf 177 = .ok (.bipush 15, 2) := by decide +kernel
theorem dX12_wordOf_179 : decode cX12_wordOf 179 = .ok (.bipush 21, 2) := by decide +kernel
theorem dX12_wordOf_181 : decode cX12_wordOf 181 = .ok (.bipush 18, 2) := by decide +kernel
theorem dX12_wordOf_183 : decode cX12_wordOf 183 = .ok (.bipush 14, 2) := by decide +kernel
theorem dX12_wordOf_185 : decode cX12_wordOf 185 = .ok (.iconst 5, 1) := by decide +kernel
theorem dX12_wordOf_186 : decode cX12_wordOf 186 = .ok (.bipush 18, 2) := by decide +kernel
theorem dX12_wordOf_188 : decode cX12_wordOf 188 = .ok (.invokestatic 61, 3) := by decide +kernel
theorem dX12_wordOf_191 : decode cX12_wordOf 191 = .ok (.lcmp, 1) := by decide +kernel
theorem dX12_wordOf_192 : decode cX12_wordOf 192 = .ok (.ifCond .ne 6, 3) := by decide +kernel
theorem dX12_wordOf_195 : decode cX12_wordOf 195 = .ok (.bipush 10, 2) := by decide +kernel
theorem dX12_wordOf_197 : decode cX12_wordOf 197 = .ok (.ireturn, 1) := by decide +kernel
theorem dX12_wordOf_198 : decode cX12_wordOf 198 = .ok (.lload_n 0, 1) := by decide +kernel
theorem dX12_wordOf_199 : decode cX12_wordOf 199 = .ok (.bipush 12, 2) := by decide +kernel
theorem dX12_wordOf_201 : decode cX12_wordOf 201 = .ok (.iconst 5, 1) := by decide +kernel
theorem dX12_wordOf_202 : decode cX12_wordOf 202 = .ok (.iconst 1, 1) := by decide +kernel
theorem dX12_wordOf_203 : decode cX12_wordOf 203 = .ok (.bipush 11, 2) := by decide +kernel
theorem dX12_wordOf_205 : decode cX12_wordOf 205 = .ok (.invokestatic 55, 3) := by decide +kernel
theorem dX12_wordOf_208 : decode cX12_wordOf 208 = .ok (.lcmp, 1) := by decide +kernel
theorem dX12_wordOf_209 : decode cX12_wordOf 209 = .ok (.ifCond .ne 6, 3) := by decide +kernel
theorem dX12_wordOf_212 : decode cX12_wordOf 212 = .ok (.bipush 11, 2) := by decide +kernel
theorem dX12_wordOf_214 : decode cX12_wordOf 214 = .ok (.ireturn, 1) := by decide +kernel
theorem dX12_wordOf_215 : decode cX12_wordOf 215 = .ok (.lload_n 0, 1) := by decide +kernel
theorem dX12_wordOf_216 : decode cX12_wordOf 216 = .ok (.iconst 2, 1) := by decide +kernel
theorem dX12_wordOf_217 : decode cX12_wordOf 217 = .ok (.bipush 18, 2) := by decide +kernel
theorem dX12_wordOf_219 : decode cX12_wordOf 219 = .ok (.bipush 15, 2) := by decide +kernel
theorem dX12_wordOf_221 : decode cX12_wordOf 221 = .ok (.bipush 20, 2) := by decide +kernel
theorem dX12_wordOf_223 : decode cX12_wordOf 223 = .ok (.bipush 8, 2) := by decide +kernel
theorem dX12_wordOf_225 : decode cX12_wordOf 225 = .ok (.iconst 5, 1) := by decide +kernel
theorem dX12_wordOf_226 : decode cX12_wordOf 226 = .ok (.bipush 18, 2) := by decide +kernel
theorem dX12_wordOf_228 : decode cX12_wordOf 228 = .ok (.bipush 19, 2) := by decide +kernel
theorem dX12_wordOf_230 : decode cX12_wordOf 230 = .ok (.invokestatic 61, 3) := by decide +kernel
theorem dX12_wordOf_233 : decode cX12_wordOf 233 = .ok (.lcmp, 1) := by decide +kernel
theorem dX12_wordOf_234 : decode cX12_wordOf 234 = .ok (.ifCond .ne 6, 3) := by decide +kernel
theorem dX12_wordOf_237 : decode cX12_wordOf 237 = .ok (.bipush 12, 2) := by decide +kernel
theorem dX12_wordOf_239 : decode cX12_wordOf 239 = .ok (.ireturn, 1) := by decide +kernel
theorem dX12_wordOf_240 : decode cX12_wordOf 240 = .ok (.lload_n 0, 1) := by decide +kernel
theorem dX12_wordOf_241 : decode cX12_wordOf 241 = .ok (.invokestatic 65, 3) := by decide +kernel
theorem dX12_wordOf_244 : decode cX12_wordOf 244 = .ok (.ireturn, 1) := by decide +kernel
theorem dX12_otherWord_0 : decode cX12_otherWord 0 = .ok (.lload_n 0, 1) := by decide +kernel
theorem dX12_otherWord_1 : decode cX12_otherWord 1 = .ok (.iconst 0, 1) := by decide +kernel
theorem dX12_otherWord_2 : decode cX12_otherWord 2 = .ok (.iconst 0, 1) := by decide +kernel
theorem dX12_otherWord_3 : decode cX12_otherWord 3 = .ok (.iconst 0, 1) := by decide +kernel
theorem dX12_otherWord_4 : decode cX12_otherWord 4 = .ok (.bipush 19, 2) := by decide +kernel
theorem dX12_otherWord_6 : decode cX12_otherWord 6 = .ok (.bipush 20, 2) := by decide +kernel
theorem dX12_otherWord_8 : decode cX12_otherWord 8 = .ok (.iconst 1, 1) := by decide +kernel
theorem dX12_otherWord_9 : decode cX12_otherWord 9 = .ok (.bipush 14, 2) := by decide +kernel
theorem dX12_otherWord_11 : decode cX12_otherWord 11 = .ok (.iconst 4, 1) := by decide +kernel
theorem dX12_otherWord_12 : decode cX12_otherWord 12 = .ok (.invokestatic 61, 3) := by decide +kernel
theorem dX12_otherWord_15 : decode cX12_otherWord 15 = .ok (.lcmp, 1) := by decide +kernel
theorem dX12_otherWord_16 : decode cX12_otherWord 16 = .ok (.ifCond .ne 6, 3) := by decide +kernel
theorem dX12_otherWord_19 : decode cX12_otherWord 19 = .ok (.bipush 13, 2) := by decide +kernel
theorem dX12_otherWord_21 : decode cX12_otherWord 21 = .ok (.ireturn, 1) := by decide +kernel
theorem dX12_otherWord_22 : decode cX12_otherWord 22 = .ok (.lload_n 0, 1) := by decide +kernel
theorem dX12_otherWord_23 : decode cX12_otherWord 23 = .ok (.iconst 0, 1) := by decide +kernel
theorem dX12_otherWord_24 : decode cX12_otherWord 24 = .ok (.iconst 0, 1) := by decide +kernel
theorem dX12_otherWord_25 : decode cX12_otherWord 25 = .ok (.iconst 0, 1) := by decide +kernel
theorem dX12_otherWord_26 : decode cX12_otherWord 26 = .ok (.bipush 12, 2) := by decide +kernel
theorem dX12_otherWord_28 : decode cX12_otherWord 28 = .ok (.iconst 5, 1) := by decide +kernel
theorem dX12_otherWord_29 : decode cX12_otherWord 29 = .ok (.iconst 1, 1) := by decide +kernel
theorem dX12_otherWord_30 : decode cX12_otherWord 30 = .ok (.bipush 22, 2) := by decide +kernel
theorem dX12_otherWord_32 : decode cX12_otherWord 32 = .ok (.iconst 5, 1) := by decide +kernel
theorem dX12_otherWord_33 : decode cX12_otherWord 33 = .ok (.invokestatic 61, 3) := by decide +kernel
theorem dX12_otherWord_36 : decode cX12_otherWord 36 = .ok (.lcmp, 1) := by decide +kernel
theorem dX12_otherWord_37 : decode cX12_otherWord 37 = .ok (.ifCond .ne 6, 3) := by decide +kernel
theorem dX12_otherWord_40 : decode cX12_otherWord 40 = .ok (.bipush 14, 2) := by decide +kernel
theorem dX12_otherWord_42 : decode cX12_otherWord 42 = .ok (.ireturn, 1) := by decide +kernel
theorem dX12_otherWord_43 : decode cX12_otherWord 43 = .ok (.lload_n 0, 1) := by decide +kernel
theorem dX12_otherWord_44 : decode cX12_otherWord 44 = .ok (.bipush 23, 2) := by decide +kernel
theorem dX12_otherWord_46 : decode cX12_otherWord 46 = .ok (.bipush 9, 2) := by decide +kernel
theorem dX12_otherWord_48 : decode cX12_otherWord 48 = .ok (.bipush 14, 2) := by decide +kernel
theorem dX12_otherWord_50 : decode cX12_otherWord 50 = .ok (.iconst 4, 1) := by decide +kernel
theorem dX12_otherWord_51 : decode cX12_otherWord 51 = .ok (.invokestatic 55, 3) := by decide +kernel
theorem dX12_otherWord_54 : decode cX12_otherWord 54 = .ok (.lcmp, 1) := by decide +kernel
theorem dX12_otherWord_55 : decode cX12_otherWord 55 = .ok (.ifCond .ne 6, 3) := by decide +kernel
theorem dX12_otherWord_58 : decode cX12_otherWord 58 = .ok (.bipush 15, 2) := by decide +kernel
theorem dX12_otherWord_60 : decode cX12_otherWord 60 = .ok (.ireturn, 1) := by decide +kernel
theorem dX12_otherWord_61 : decode cX12_otherWord 61 = .ok (.lload_n 0, 1) := by decide +kernel
theorem dX12_otherWord_62 : decode cX12_otherWord 62 = .ok (.iconst 3, 1) := by decide +kernel
theorem dX12_otherWord_63 : decode cX12_otherWord 63 = .ok (.iconst 1, 1) := by decide +kernel
theorem dX12_otherWord_64 : decode cX12_otherWord 64 = .ok (.bipush 12, 2) := by decide +kernel
theorem dX12_otherWord_66 : decode cX12_otherWord 66 = .ok (.bipush 13, 2) := by decide +kernel
theorem dX12_otherWord_68 : decode cX12_otherWord 68 = .ok (.invokestatic 55, 3) := by decide +kernel
theorem dX12_otherWord_71 : decode cX12_otherWord 71 = .ok (.lcmp, 1) := by decide +kernel
theorem dX12_otherWord_72 : decode cX12_otherWord 72 = .ok (.ifCond .ne 6, 3) := by decide +kernel
theorem dX12_otherWord_75 : decode cX12_otherWord 75 = .ok (.bipush 16, 2) := by decide +kernel
theorem dX12_otherWord_77 : decode cX12_otherWord 77 = .ok (.ireturn, 1) := by decide +kernel
theorem dX12_otherWord_78 : decode cX12_otherWord 78 = .ok (.lload_n 0, 1) := by decide +kernel
theorem dX12_otherWord_79 : decode cX12_otherWord 79 = .ok (.iconst 0, 1) := by decide +kernel
theorem dX12_otherWord_80 : decode cX12_otherWord 80 = .ok (.iconst 0, 1) := by decide +kernel
theorem dX12_otherWord_81 : decode cX12_otherWord 81 = .ok (.iconst 0, 1) := by decide +kernel
theorem dX12_otherWord_82 : decode cX12_otherWord 82 = .ok (.bipush 6, 2) := by decide +kernel
theorem dX12_otherWord_84 : decode cX12_otherWord 84 = .ok (.bipush 18, 2) := by decide +kernel
theorem dX12_otherWord_86 : decode cX12_otherWord 86 = .ok (.bipush 15, 2) := by decide +kernel
theorem dX12_otherWord_88 : decode cX12_otherWord 88 = .ok (.bipush 19, 2) := by decide +kernel
theorem dX12_otherWord_90 : decode cX12_otherWord 90 = .ok (.bipush 20, 2) := by decide +kernel
theorem dX12_otherWord_92 : decode cX12_otherWord 92 = .ok (.invokestatic 61, 3) := by decide +kernel
theorem dX12_otherWord_95 : decode cX12_otherWord 95 = .ok (.lcmp, 1) := by decide +kernel
theorem dX12_otherWord_96 : decode cX12_otherWord 96 = .ok (.ifCond .ne 6, 3) := by decide +kernel
theorem dX12_otherWord_99 : decode cX12_otherWord 99 = .ok (.bipush 17, 2) := by decide +kernel
theorem dX12_otherWord_101 : decode cX12_otherWord 101 = .ok (.ireturn, 1) := by decide +kernel
theorem dX12_otherWord_102 : decode cX12_otherWord 102 = .ok (.lload_n 0, 1) := by decide +kernel
theorem dX12_otherWord_103 : decode cX12_otherWord 103 = .ok (.bipush 20, 2) := by decide +kernel
theorem dX12_otherWord_105 : decode cX12_otherWord 105 = .ok (.bipush 8, 2) := by decide +kernel
theorem dX12_otherWord_107 : decode cX12_otherWord 107 = .ok (.iconst 1, 1) := by decide +kernel
theorem dX12_otherWord_108 : decode cX12_otherWord 108 = .ok (.bipush 23, 2) := by decide +kernel
theorem dX12_otherWord_110 : decode cX12_otherWord 110 = .ok (.invokestatic 55, 3) := by decide +kernel
theorem dX12_otherWord_113 : decode cX12_otherWord 113 = .ok (.lcmp, 1) := by decide +kernel
theorem dX12_otherWord_114 : decode cX12_otherWord 114 = .ok (.ifCond .ne 6, 3) := by decide +kernel
theorem dX12_otherWord_117 : decode cX12_otherWord 117 = .ok (.bipush 18, 2) := by decide +kernel
theorem dX12_otherWord_119 : decode cX12_otherWord 119 = .ok (.ireturn, 1) := by decide +kernel
theorem dX12_otherWord_120 : decode cX12_otherWord 120 = .ok (.lload_n 0, 1) := by decide +kernel
theorem dX12_otherWord_121 : decode cX12_otherWord 121 = .ok (.bipush 13, 2) := by decide +kernel
theorem dX12_otherWord_123 : decode cX12_otherWord 123 = .ok (.bipush 15, 2) := by decide +kernel
theorem dX12_otherWord_125 : decode cX12_otherWord 125 = .ok (.bipush 15, 2) := by decide +kernel
theorem dX12_otherWord_127 : decode cX12_otherWord 127 = .ok (.bipush 18, 2) := by decide +kernel
theorem dX12_otherWord_129 : decode cX12_otherWord 129 = .ok (.invokestatic 55, 3) := by decide +kernel
theorem dX12_otherWord_132 : decode cX12_otherWord 132 = .ok (.lcmp, 1) := by decide +kernel
theorem dX12_otherWord_133 : decode cX12_otherWord 133 = .ok (.ifCond .ne 6, 3) := by decide +kernel
theorem dX12_otherWord_136 : decode cX12_otherWord 136 = .ok (.bipush 19, 2) := by decide +kernel
theorem dX12_otherWord_138 : decode cX12_otherWord 138 = .ok (.ireturn, 1) := by decide +kernel
theorem dX12_otherWord_139 : decode cX12_otherWord 139 = .ok (.lload_n 0, 1) := by decide +kernel
theorem dX12_otherWord_140 : decode cX12_otherWord 140 = .ok (.iconst 3, 1) := by decide +kernel
theorem dX12_otherWord_141 : decode cX12_otherWord 141 = .ok (.iconst 1, 1) := by decide +kernel
theorem dX12_otherWord_142 : decode cX12_otherWord 142 = .ok (.bipush 19, 2) := by decide +kernel
theorem dX12_otherWord_144 : decode cX12_otherWord 144 = .ok (.bipush 20, 2) := by decide +kernel
theorem dX12_otherWord_146 : decode cX12_otherWord 146 = .ok (.invokestatic 55, 3) := by decide +kernel
theorem dX12_otherWord_149 : decode cX12_otherWord 149 = .ok (.lcmp, 1) := by decide +kernel
theorem dX12_otherWord_150 : decode cX12_otherWord 150 = .ok (.ifCond .ne 6, 3) := by decide +kernel
theorem dX12_otherWord_153 : decode cX12_otherWord 153 = .ok (.bipush 20, 2) := by decide +kernel
theorem dX12_otherWord_155 : decode cX12_otherWord 155 = .ok (.ireturn, 1) := by decide +kernel
theorem dX12_otherWord_156 : decode cX12_otherWord 156 = .ok (.lload_n 0, 1) := by decide +kernel
theorem dX12_otherWord_157 : decode cX12_otherWord 157 = .ok (.iconst 2, 1) := by decide +kernel
theorem dX12_otherWord_158 : decode cX12_otherWord 158 = .ok (.iconst 1, 1) := by decide +kernel
theorem dX12_otherWord_159 : decode cX12_otherWord 159 = .ok (.bipush 9, 2) := by decide +kernel
theorem dX12_otherWord_161 : decode cX12_otherWord 161 = .ok (.bipush 12, 2) := by decide +kernel
theorem dX12_otherWord_163 : decode cX12_otherWord 163 = .ok (.invokestatic 55, 3) := by decide +kernel
theorem dX12_otherWord_166 : decode cX12_otherWord 166 = .ok (.lcmp, 1) := by decide +kernel
theorem dX12_otherWord_167 : decode cX12_otherWord 167 = .ok (.ifCond .ne 6, 3) := by decide +kernel
theorem dX12_otherWord_170 : decode cX12_otherWord 170 = .ok (.bipush 21, 2) := by decide +kernel
theorem dX12_otherWord_172 : decode cX12_otherWord 172 = .ok (.ireturn, 1) := by decide +kernel
theorem dX12_otherWord_173 : decode cX12_otherWord 173 = .ok (.lload_n 0, 1) := by decide +kernel
theorem dX12_otherWord_174 : decode cX12_otherWord 174 = .ok (.iconst 0, 1) := by decide +kernel
theorem dX12_otherWord_175 : decode cX12_otherWord 175 = .ok (.iconst 0, 1) := by decide +kernel
theorem dX12_otherWord_176 : decode cX12_otherWord 176 = .ok (.iconst 0, 1) := by decide +kernel
theorem dX12_otherWord_177 : decode cX12_otherWord 177 = .ok (.bipush 8, 2) := by decide +kernel
theorem dX12_otherWord_179 : decode cX12_otherWord 179 = .ok (.bipush 15, 2) := by decide +kernel
theorem dX12_otherWord_181 : decode cX12_otherWord 181 = .ok (.bipush 21, 2) := by decide +kernel
theorem dX12_otherWord_183 : decode cX12_otherWord 183 = .ok (.bipush 18, 2) := by decide +kernel
theorem dX12_otherWord_185 : decode cX12_otherWord 185 = .ok (.bipush 19, 2) := by decide +kernel
theorem dX12_otherWord_187 : decode cX12_otherWord 187 = .ok (.invokestatic 61, 3) := by decide +kernel
theorem dX12_otherWord_190 : decode cX12_otherWord 190 = .ok (.lcmp, 1) := by decide +kernel
theorem dX12_otherWord_191 : decode cX12_otherWord 191 = .ok (.ifCond .ne 6, 3) := by decide +kernel
theorem dX12_otherWord_194 : decode cX12_otherWord 194 = .ok (.bipush 22, 2) := by decide +kernel
theorem dX12_otherWord_196 : decode cX12_otherWord 196 = .ok (.ireturn, 1) := by decide +kernel
theorem dX12_otherWord_197 : decode cX12_otherWord 197 = .ok (.lload_n 0, 1) := by decide +kernel
theorem dX12_otherWord_198 : decode cX12_otherWord 198 = .ok (.iconst 0, 1) := by decide +kernel
theorem dX12_otherWord_199 : decode cX12_otherWord 199 = .ok (.bipush 12, 2) := by decide +kernel
theorem dX12_otherWord_201 : decode cX12_otherWord 201 = .ok (.iconst 1, 1) := by decide +kernel
theorem dX12_otherWord_202 : decode cX12_otherWord 202 = .ok (.bipush 25, 2) := by decide +kernel
theorem dX12_otherWord_204 : decode cX12_otherWord 204 = .ok (.invokestatic 55, 3) := by decide +kernel
theorem dX12_otherWord_207 : decode cX12_otherWord 207 = .ok (.lcmp, 1) := by decide +kernel
theorem dX12_otherWord_208 : decode cX12_otherWord 208 = .ok (.ifCond .ne 6, 3) := by decide +kernel
theorem dX12_otherWord_211 : decode cX12_otherWord 211 = .ok (.bipush 23, 2) := by decide +kernel
theorem dX12_otherWord_213 : decode cX12_otherWord 213 = .ok (.ireturn, 1) := by decide +kernel
theorem dX12_otherWord_214 : decode cX12_otherWord 214 = .ok (.lload_n 0, 1) := by decide +kernel
theorem dX12_otherWord_215 : decode cX12_otherWord 215 = .ok (.iconst 4, 1) := by decide +kernel
theorem dX12_otherWord_216 : decode cX12_otherWord 216 = .ok (.iconst 5, 1) := by decide +kernel
theorem dX12_otherWord_217 : decode cX12_otherWord 217 = .ok (.iconst 1, 1) := by decide +kernel
theorem dX12_otherWord_218 : decode cX12_otherWord 218 = .ok (.iconst 4, 1) := by decide +kernel
theorem dX12_otherWord_219 : decode cX12_otherWord 219 = .ok (.invokestatic 55, 3) := by decide +kernel
theorem dX12_otherWord_222 : decode cX12_otherWord 222 = .ok (.lcmp, 1) := by decide +kernel
theorem dX12_otherWord_223 : decode cX12_otherWord 223 = .ok (.ifCond .ne 6, 3) := by decide +kernel
theorem dX12_otherWord_226 : decode cX12_otherWord 226 = .ok (.bipush 24, 2) := by decide +kernel
theorem dX12_otherWord_228 : decode cX12_otherWord 228 = .ok (.ireturn, 1) := by decide +kernel
theorem dX12_otherWord_229 : decode cX12_otherWord 229 = .ok (.lload_n 0, 1) := by decide +kernel
theorem dX12_otherWord_230 : decode cX12_otherWord 230 = .ok (.bipush 12, 2) := by decide +kernel
theorem dX12_otherWord_232 : decode cX12_otherWord 232 = .ok (.bipush 9, 2) := by decide +kernel
theorem dX12_otherWord_234 : decode cX12_otherWord 234 = .ok (.bipush 19, 2) := by decide +kernel
theorem dX12_otherWord_236 : decode cX12_otherWord 236 = .ok (.bipush 20, 2) := by decide +kernel
theorem dX12_otherWord_238 : decode cX12_otherWord 238 = .ok (.invokestatic 55, 3) := by decide +kernel
theorem dX12_otherWord_241 : decode cX12_otherWord 241 = .ok (.lcmp, 1) := by decide +kernel
theorem dX12_otherWord_242 : decode cX12_otherWord 242 = .ok (.ifCond .ne 6, 3) := by decide +kernel
theorem dX12_otherWord_245 : decode cX12_otherWord 245 = .ok (.bipush 25, 2) := by decide +kernel
theorem dX12_otherWord_247 : decode cX12_otherWord 247 = .ok (.ireturn, 1) := by decide +kernel
theorem dX12_otherWord_248 : decode cX12_otherWord 248 = .ok (.lload_n 0, 1) := by decide +kernel
theorem dX12_otherWord_249 : decode cX12_otherWord 249 = .ok (.iconst 0, 1) := by decide +kernel
theorem dX12_otherWord_250 : decode cX12_otherWord 250 = .ok (.iconst 0, 1) := by decide +kernel
theorem dX12_otherWord_251 : decode cX12_otherWord 251 = .ok (.iconst 0, 1) := by decide +kernel
theorem dX12_otherWord_252 : decode cX12_otherWord 252 = .ok (.bipush 20, 2) := by decide +kernel
theorem dX12_otherWord_254 : decode cX12_otherWord 254 = .ok (.bipush 15, 2) := by decide +kernel
theorem dX12_otherWord_256 : decode cX12_otherWord 256 = .ok (.bipush 21, 2) := by decide +kernel
theorem dX12_otherWord_258 : decode cX12_otherWord 258 = .ok (.iconst 3, 1) := by decide +kernel
theorem dX12_otherWord_259 : decode cX12_otherWord 259 = .ok (.bipush 8, 2) := by decide +kernel
theorem dX12_otherWord_261 : decode cX12_otherWord 261 = .ok (.invokestatic 61, 3) := by decide +kernel
theorem dX12_otherWord_264 : decode cX12_otherWord 264 = .ok (.lcmp, 1) := by decide +kernel
theorem dX12_otherWord_265 : decode cX12_otherWord 265 = .ok (.ifCond .ne 6, 3) := by decide +kernel
theorem dX12_otherWord_268 : decode cX12_otherWord 268 = .ok (.bipush 26, 2) := by decide +kernel
theorem dX12_otherWord_270 : decode cX12_otherWord 270 = .ok (.ireturn, 1) := by decide +kernel
theorem dX12_otherWord_271 : decode cX12_otherWord 271 = .ok (.lload_n 0, 1) := by decide +kernel
theorem dX12_otherWord_272 : decode cX12_otherWord 272 = .ok (.iconst 0, 1) := by decide +kernel
theorem dX12_otherWord_273 : decode cX12_otherWord 273 = .ok (.iconst 0, 1) := by decide +kernel
theorem dX12_otherWord_274 : decode cX12_otherWord 274 = .ok (.iconst 0, 1) := by decide +kernel
theorem dX12_otherWord_275 : decode cX12_otherWord 275 = .ok (.bipush 23, 2) := by decide +kernel
theorem dX12_otherWord_277 : decode cX12_otherWord 277 = .ok (.iconst 1, 1) := by decide +kernel
theorem dX12_otherWord_278 : decode cX12_otherWord 278 = .ok (.bipush 20, 2) := by decide +kernel
theorem dX12_otherWord_280 : decode cX12_otherWord 280 = .ok (.iconst 5, 1) := by decide +kernel
theorem dX12_otherWord_281 : decode cX12_otherWord 281 = .ok (.bipush 18, 2) := by decide +kernel
theorem dX12_otherWord_283 : decode cX12_otherWord 283 = .ok (.invokestatic 61, 3) := by decide +kernel
theorem dX12_otherWord_286 : decode cX12_otherWord 286 = .ok (.lcmp, 1) := by decide +kernel
theorem dX12_otherWord_287 : decode cX12_otherWord 287 = .ok (.ifCond .ne 6, 3) := by decide +kernel
theorem dX12_otherWord_290 : decode cX12_otherWord 290 = .ok (.bipush 27, 2) := by decide +kernel
theorem dX12_otherWord_292 : decode cX12_otherWord 292 = .ok (.ireturn, 1) := by decide +kernel
theorem dX12_otherWord_293 : decode cX12_otherWord 293 = .ok (.lload_n 0, 1) := by decide +kernel
theorem dX12_otherWord_294 : decode cX12_otherWord 294 = .ok (.iconst 0, 1) := by decide +kernel
theorem dX12_otherWord_295 : decode cX12_otherWord 295 = .ok (.bipush 15, 2) := by decide +kernel
theorem dX12_otherWord_297 : decode cX12_otherWord 297 = .ok (.iconst 4, 1) := by decide +kernel
theorem dX12_otherWord_298 : decode cX12_otherWord 298 = .ok (.iconst 4, 1) := by decide +kernel
theorem dX12_otherWord_299 : decode cX12_otherWord 299 = .ok (.invokestatic 55, 3) := by decide +kernel
theorem dX12_otherWord_302 : decode cX12_otherWord 302 = .ok (.lcmp, 1) := by decide +kernel
theorem dX12_otherWord_303 : decode cX12_otherWord 303 = .ok (.ifCond .ne 6, 3) := by decide +kernel
theorem dX12_otherWord_306 : decode cX12_otherWord 306 = .ok (.bipush 28, 2) := by decide +kernel
theorem dX12_otherWord_308 : decode cX12_otherWord 308 = .ok (.ireturn, 1) := by decide +kernel
theorem dX12_otherWord_309 : decode cX12_otherWord 309 = .ok (.lload_n 0, 1) := by decide +kernel
theorem dX12_otherWord_310 : decode cX12_otherWord 310 = .ok (.bipush 13, 2) := by decide +kernel
theorem dX12_otherWord_312 : decode cX12_otherWord 312 = .ok (.bipush 15, 2) := by decide +kernel
theorem dX12_otherWord_314 : decode cX12_otherWord 314 = .ok (.bipush 19, 2) := by decide +kernel
theorem dX12_otherWord_316 : decode cX12_otherWord 316 = .ok (.bipush 20, 2) := by decide +kernel
theorem dX12_otherWord_318 : decode cX12_otherWord 318 = .ok (.invokestatic 55, 3) := by decide +kernel
theorem dX12_otherWord_321 : decode cX12_otherWord 321 = .ok (.lcmp, 1) := by decide +kernel
theorem dX12_otherWord_322 : decode cX12_otherWord 322 = .ok (.ifCond .ne 8, 3) := by decide +kernel
theorem dX12_otherWord_325 : decode cX12_otherWord 325 = .ok (.bipush 29, 2) := by decide +kernel
theorem dX12_otherWord_327 : decode cX12_otherWord 327 = .ok (.goto 5, 3) := by decide +kernel
theorem dX12_otherWord_330 : decode cX12_otherWord 330 = .ok (.bipush 99, 2) := by decide +kernel
theorem dX12_otherWord_332 : decode cX12_otherWord 332 = .ok (.ireturn, 1) := by decide +kernel
theorem dX12_advance_0 : decode cX12_advance 0 = .ok (.aload_n 0, 1) := by decide +kernel
theorem dX12_advance_1 : decode cX12_advance 1 = .ok (.aload_n 0, 1) := by decide +kernel
theorem dX12_advance_2 : decode cX12_advance 2 = .ok (.getfield 69, 3) := by decide +kernel
theorem dX12_advance_5 : decode cX12_advance 5 = .ok (.invokevirtual 72, 3) := by decide +kernel
theorem dX12_advance_8 : decode cX12_advance 8 = .ok (.bipush 10, 2) := by decide +kernel
theorem dX12_advance_10 : decode cX12_advance 10 = .ok (.if_icmp .eq 16, 3) := by decide +kernel
theorem dX12_advance_13 : decode cX12_advance 13 = .ok (.aload_n 0, 1) := by decide +kernel
theorem dX12_advance_14 : decode cX12_advance 14 = .ok (.aload_n 0, 1) := by decide +kernel
theorem dX12_advance_15 : decode cX12_advance 15 = .ok (.getfield 69, 3) := by decide +kernel
theorem dX12_advance_18 : decode cX12_advance 18 = .ok (.invokevirtual 72, 3) := by decide +kernel
theorem dX12_advance_21 : decode cX12_advance 21 = .ok (.bipush 32, 2) := by decide +kernel
theorem dX12_advance_23 : decode cX12_advance 23 = .ok (.if_icmp .ne 16, 3) := by decide +kernel
theorem dX12_advance_26 : decode cX12_advance 26 = .ok (.aload_n 0, 1) := by decide +kernel
theorem dX12_advance_27 : decode cX12_advance 27 = .ok (.dup, 1) := by decide +kernel
theorem dX12_advance_28 : decode cX12_advance 28 = .ok (.getfield 69, 3) := by decide +kernel
theorem dX12_advance_31 : decode cX12_advance 31 = .ok (.iconst 1, 1) := by decide +kernel
theorem dX12_advance_32 : decode cX12_advance 32 = .ok (.iadd, 1) := by decide +kernel
theorem dX12_advance_33 : decode cX12_advance 33 = .ok (.putfield 69, 3) := by decide +kernel
theorem dX12_advance_36 : decode cX12_advance 36 = .ok (.goto (-36), 3) := by decide +kernel
theorem dX12_advance_39 : decode cX12_advance 39 = .ok (.aload_n 0, 1) := by decide +kernel
theorem dX12_advance_40 : decode cX12_advance 40 = .ok (.aload_n 0, 1) := by decide +kernel
theorem dX12_advance_41 : decode cX12_advance 41 = .ok (.getfield 69, 3) := by decide +kernel
theorem dX12_advance_44 : decode cX12_advance 44 = .ok (.putfield 76, 3) := by decide +kernel
theorem dX12_advance_47 : decode cX12_advance 47 = .ok (.aload_n 0, 1) := by decide +kernel
theorem dX12_advance_48 : decode cX12_advance 48 = .ok (.aload_n 0, 1) := by decide +kernel
theorem dX12_advance_49 : decode cX12_advance 49 = .ok (.getfield 69, 3) := by decide +kernel
theorem dX12_advance_52 : decode cX12_advance 52 = .ok (.invokevirtual 72, 3) := by decide +kernel
theorem dX12_advance_55 : decode cX12_advance 55 = .ok (.istore_n 1, 1) := by decide +kernel
theorem dX12_advance_56 : decode cX12_advance 56 = .ok (.iload_n 1, 1) := by decide +kernel
theorem dX12_advance_57 : decode cX12_advance 57 = .ok (.ifCond .ge 11, 3) := by decide +kernel
theorem dX12_advance_60 : decode cX12_advance 60 = .ok (.aload_n 0, 1) := by decide +kernel
theorem dX12_advance_61 : decode cX12_advance 61 = .ok (.iconst 0, 1) := by decide +kernel
theorem dX12_advance_62 : decode cX12_advance 62 = .ok (.putfield 79, 3) := by decide +kernel
theorem dX12_advance_65 : decode cX12_advance 65 = .ok (.goto 246, 3) := by decide +kernel
theorem dX12_advance_68 : decode cX12_advance 68 = .ok (.iload_n 1, 1) := by decide +kernel
theorem dX12_advance_69 : decode cX12_advance 69 = .ok (.invokestatic 82, 3) := by decide +kernel
theorem dX12_advance_72 : decode cX12_advance 72 = .ok (.ifCond .eq 114, 3) := by decide +kernel
theorem dX12_advance_75 : decode cX12_advance 75 = .ok (.lconst 0, 1) := by decide +kernel
theorem dX12_advance_76 : decode cX12_advance 76 = .ok (.lstore_n 2, 1) := by decide +kernel
theorem dX12_advance_77 : decode cX12_advance 77 = .ok (.aload_n 0, 1) := by decide +kernel
theorem dX12_advance_78 : decode cX12_advance 78 = .ok (.aload_n 0, 1) := by decide +kernel
theorem dX12_advance_79 : decode cX12_advance 79 = .ok (.getfield 69, 3) := by decide +kernel
theorem dX12_advance_82 : decode cX12_advance 82 = .ok (.invokevirtual 72, 3) := by decide +kernel
theorem dX12_advance_85 : decode cX12_advance 85 = .ok (.invokestatic 82, 3) := by decide +kernel
theorem dX12_advance_88 : decode cX12_advance 88 = .ok (.ifCond .eq 50, 3) := by decide +kernel
theorem dX12_advance_91 : decode cX12_advance 91 = .ok (.aload_n 0, 1) := by decide +kernel
theorem dX12_advance_92 : decode cX12_advance 92 = .ok (.getfield 69, 3) := by decide +kernel
theorem dX12_advance_95 : decode cX12_advance 95 = .ok (.aload_n 0, 1) := by decide +kernel
theorem dX12_advance_96 : decode cX12_advance 96 = .ok (.getfield 76, 3) := by decide +kernel
theorem dX12_advance_99 : decode cX12_advance 99 = .ok (.isub, 1) := by decide +kernel
theorem dX12_advance_100 : decode cX12_advance 100 = .ok (.bipush 8, 2) := by decide +kernel
theorem dX12_advance_102 : decode cX12_advance 102 = .ok (.if_icmp .ge 23, 3) := by decide +kernel
theorem dX12_advance_105 : decode cX12_advance 105 = .ok (.ldc2_w 86, 3) := by decide +kernel
theorem dX12_advance_108 : decode cX12_advance 108 = .ok (.lload_n 2, 1) := by decide +kernel
theorem dX12_advance_109 : decode cX12_advance 109 = .ok (.lmul, 1) := by decide +kernel
theorem dX12_advance_110 : decode cX12_advance 110 = .ok (.aload_n 0, 1) := by decide +kernel
theorem dX12_advance_111 : decode cX12_advance 111 = .ok (.aload_n 0, 1) := by decide +kernel
theorem dX12_advance_112 : decode cX12_advance 112 = .ok (.getfield 69, 3) := by decide +kernel
theorem dX12_advance_115 : decode cX12_advance 115 = .ok (.invokevirtual 72, 3) := by decide +kernel
theorem dX12_advance_118 : decode cX12_advance 118 = .ok (.i2l, 1) := by decide +kernel
theorem dX12_advance_119 : decode cX12_advance 119 = .ok (.ladd, 1) := by decide +kernel
theorem dX12_advance_120 : decode cX12_advance 120 = .ok (.ldc2_w 88, 3) := by decide +kernel
theorem dX12_advance_123 : decode cX12_advance 123 = .ok (.lsub, 1) := by decide +kernel
theorem dX12_advance_124 : decode cX12_advance 124 = .ok (.lstore_n 2, 1) := by decide +kernel
theorem dX12_advance_125 : decode cX12_advance 125 = .ok (.aload_n 0, 1) := by decide +kernel
theorem dX12_advance_126 : decode cX12_advance 126 = .ok (.dup, 1) := by decide +kernel
theorem dX12_advance_127 : decode cX12_advance 127 = .ok (.getfield 69, 3) := by decide +kernel
theorem dX12_advance_130 : decode cX12_advance 130 = .ok (.iconst 1, 1) := by decide +kernel
theorem dX12_advance_131 : decode cX12_advance 131 = .ok (.iadd, 1) := by decide +kernel
theorem dX12_advance_132 : decode cX12_advance 132 = .ok (.putfield 69, 3) := by decide +kernel
theorem dX12_advance_135 : decode cX12_advance 135 = .ok (.goto (-58), 3) := by decide +kernel
theorem dX12_advance_138 : decode cX12_advance 138 = .ok (.aload_n 0, 1) := by decide +kernel
theorem dX12_advance_139 : decode cX12_advance 139 = .ok (.aload_n 0, 1) := by decide +kernel
theorem dX12_advance_140 : decode cX12_advance 140 = .ok (.getfield 69, 3) := by decide +kernel
theorem dX12_advance_143 : decode cX12_advance 143 = .ok (.aload_n 0, 1) := by decide +kernel
theorem dX12_advance_144 : decode cX12_advance 144 = .ok (.getfield 76, 3) := by decide +kernel
theorem dX12_advance_147 : decode cX12_advance 147 = .ok (.isub, 1) := by decide +kernel
theorem dX12_advance_148 : decode cX12_advance 148 = .ok (.bipush 8, 2) := by decide +kernel
theorem dX12_advance_150 : decode cX12_advance 150 = .ok (.if_icmp .le 8, 3) := by decide +kernel
theorem dX12_advance_153 : decode cX12_advance 153 = .ok (.bipush 99, 2) := by decide +kernel
theorem dX12_advance_155 : decode cX12_advance 155 = .ok (.goto 7, 3) := by decide +kernel
theorem dX12_advance_158 : decode cX12_advance 158 = .ok (.lload_n 2, 1) := by decide +kernel
theorem dX12_advance_159 : decode cX12_advance 159 = .ok (.invokestatic 90, 3) := by decide +kernel
theorem dX12_advance_162 : decode cX12_advance 162 = .ok (.putfield 93, 3) := by decide +kernel
theorem dX12_advance_165 : decode cX12_advance 165 = .ok (.aload_n 0, 1) := by decide +kernel
theorem dX12_advance_166 : decode cX12_advance 166 = .ok (.aload_n 0, 1) := by decide +kernel
theorem dX12_advance_167 : decode cX12_advance 167 = .ok (.getfield 93, 3) := by decide +kernel
theorem dX12_advance_170 : decode cX12_advance 170 = .ok (.bipush 99, 2) := by decide +kernel
theorem dX12_advance_172 : decode cX12_advance 172 = .ok (.if_icmp .ne 7, 3) := by decide +kernel
theorem dX12_advance_175 : decode cX12_advance 175 = .ok (.iconst 4, 1) := by decide +kernel
theorem dX12_advance_176 : decode cX12_advance 176 = .ok (.goto 4, 3) := by decide +kernel
theorem dX12_advance_179 : decode cX12_advance 179 = .ok (.iconst 3, 1) := by decide +kernel
theorem dX12_advance_180 : decode cX12_advance 180 = .ok (.putfield 79, 3) := by decide +kernel
theorem dX12_advance_183 : decode cX12_advance 183 = .ok (.goto 128, 3) := by decide +kernel
theorem dX12_advance_186 : decode cX12_advance 186 = .ok (.iload_n 1, 1) := by decide +kernel
theorem dX12_advance_187 : decode cX12_advance 187 = .ok (.invokestatic 96, 3) := by decide +kernel
theorem dX12_advance_190 : decode cX12_advance 190 = .ok (.ifCond .eq 96, 3) := by decide +kernel
theorem dX12_advance_193 : decode cX12_advance 193 = .ok (.aload_n 0, 1) := by decide +kernel
theorem dX12_advance_194 : decode cX12_advance 194 = .ok (.iconst 0, 1) := by decide +kernel
theorem dX12_advance_195 : decode cX12_advance 195 = .ok (.putfield 99, 3) := by decide +kernel
theorem dX12_advance_198 : decode cX12_advance 198 = .ok (.aload_n 0, 1) := by decide +kernel
theorem dX12_advance_199 : decode cX12_advance 199 = .ok (.aload_n 0, 1) := by decide +kernel
theorem dX12_advance_200 : decode cX12_advance 200 = .ok (.getfield 69, 3) := by decide +kernel
theorem dX12_advance_203 : decode cX12_advance 203 = .ok (.invokevirtual 72, 3) := by decide +kernel
theorem dX12_advance_206 : decode cX12_advance 206 = .ok (.invokestatic 96, 3) := by decide +kernel
theorem dX12_advance_209 : decode cX12_advance 209 = .ok (.ifCond .eq 52, 3) := by decide +kernel
theorem dX12_advance_212 : decode cX12_advance 212 = .ok (.aload_n 0, 1) := by decide +kernel
theorem dX12_advance_213 : decode cX12_advance 213 = .ok (.getfield 69, 3) := by decide +kernel
theorem dX12_advance_216 : decode cX12_advance 216 = .ok (.aload_n 0, 1) := by decide +kernel
theorem dX12_advance_217 : decode cX12_advance 217 = .ok (.getfield 76, 3) := by decide +kernel
theorem dX12_advance_220 : decode cX12_advance 220 = .ok (.isub, 1) := by decide +kernel
theorem dX12_advance_221 : decode cX12_advance 221 = .ok (.iconst 3, 1) := by decide +kernel
theorem dX12_advance_222 : decode cX12_advance 222 = .ok (.if_icmp .ge 26, 3) := by decide +kernel
theorem dX12_advance_225 : decode cX12_advance 225 = .ok (.aload_n 0, 1) := by decide +kernel
theorem dX12_advance_226 : decode cX12_advance 226 = .ok (.bipush 10, 2) := by decide +kernel
theorem dX12_advance_228 : decode cX12_advance 228 = .ok (.aload_n 0, 1) := by decide +kernel
theorem dX12_advance_229 : decode cX12_advance 229 = .ok (.getfield 99, 3) := by decide +kernel
theorem dX12_advance_232 : decode cX12_advance 232 = .ok (.imul, 1) := by decide +kernel
theorem dX12_advance_233 : decode cX12_advance 233 = .ok (.aload_n 0, 1) := by decide +kernel
theorem dX12_advance_234 : decode cX12_advance 234 = .ok (.aload_n 0, 1) := by decide +kernel
theorem dX12_advance_235 : decode cX12_advance 235 = .ok (.getfield 69, 3) := by decide +kernel
theorem dX12_advance_238 : decode cX12_advance 238 = .ok (.invokevirtual 72, 3) := by decide +kernel
theorem dX12_advance_241 : decode cX12_advance 241 = .ok (.iadd, 1) := by decide +kernel
theorem dX12_advance_242 : decode cX12_advance 242 = .ok (.bipush 48, 2) := by decide +kernel
theorem dX12_advance_244 : decode cX12_advance 244 = .ok (.isub, 1) := by decide +kernel
theorem dX12_advance_245 : decode cX12_advance 245 = .ok (.putfield 99, 3) := by decide +kernel
theorem dX12_advance_248 : decode cX12_advance 248 = .ok (.aload_n 0, 1) := by decide +kernel
theorem dX12_advance_249 : decode cX12_advance 249 = .ok (.dup, 1) := by decide +kernel
theorem dX12_advance_250 : decode cX12_advance 250 = .ok (.getfield 69, 3) := by decide +kernel
theorem dX12_advance_253 : decode cX12_advance 253 = .ok (.iconst 1, 1) := by decide +kernel
theorem dX12_advance_254 : decode cX12_advance 254 = .ok (.iadd, 1) := by decide +kernel
theorem dX12_advance_255 : decode cX12_advance 255 = .ok (.putfield 69, 3) := by decide +kernel
theorem dX12_advance_258 : decode cX12_advance 258 = .ok (.goto (-60), 3) := by decide +kernel
theorem dX12_advance_261 : decode cX12_advance 261 = .ok (.aload_n 0, 1) := by decide +kernel
theorem dX12_advance_262 : decode cX12_advance 262 = .ok (.aload_n 0, 1) := by decide +kernel
theorem dX12_advance_263 : decode cX12_advance 263 = .ok (.getfield 69, 3) := by decide +kernel
theorem dX12_advance_266 : decode cX12_advance 266 = .ok (.aload_n 0, 1) := by decide +kernel
theorem dX12_advance_267 : decode cX12_advance 267 = .ok (.getfield 76, 3) := by decide +kernel
theorem dX12_advance_270 : decode cX12_advance 270 = .ok (.isub, 1) := by decide +kernel
theorem dX12_advance_271 : decode cX12_advance 271 = .ok (.iconst 3, 1) := by decide +kernel
theorem dX12_advance_272 : decode cX12_advance 272 = .ok (.if_icmp .le 7, 3) := by decide +kernel
theorem dX12_advance_275 : decode cX12_advance 275 = .ok (.iconst 4, 1) := by decide +kernel
theorem dX12_advance_276 : decode cX12_advance 276 = .ok (.goto 4, 3) := by decide +kernel
theorem dX12_advance_279 : decode cX12_advance 279 = .ok (.iconst 1, 1) := by decide +kernel
theorem dX12_advance_280 : decode cX12_advance 280 = .ok (.putfield 79, 3) := by decide +kernel
theorem dX12_advance_283 : decode cX12_advance 283 = .ok (.goto 28, 3) := by decide +kernel
theorem dX12_advance_286 : decode cX12_advance 286 = .ok (.aload_n 0, 1) := by decide +kernel
theorem dX12_advance_287 : decode cX12_advance 287 = .ok (.dup, 1) := by decide +kernel
theorem dX12_advance_288 : decode cX12_advance 288 = .ok (.getfield 69, 3) := by decide +kernel
theorem dX12_advance_291 : decode cX12_advance 291 = .ok (.iconst 1, 1) := by decide +kernel
theorem dX12_advance_292 : decode cX12_advance 292 = .ok (.iadd, 1) := by decide +kernel
theorem dX12_advance_293 : decode cX12_advance 293 = .ok (.putfield 69, 3) := by decide +kernel
theorem dX12_advance_296 : decode cX12_advance 296 = .ok (.aload_n 0, 1) := by decide +kernel
theorem dX12_advance_297 : decode cX12_advance 297 = .ok (.iload_n 1, 1) := by decide +kernel
theorem dX12_advance_298 : decode cX12_advance 298 = .ok (.bipush 59, 2) := by decide +kernel
theorem dX12_advance_300 : decode cX12_advance 300 = .ok (.if_icmp .ne 7, 3) := by decide +kernel
theorem dX12_advance_303 : decode cX12_advance 303 = .ok (.iconst 2, 1) := by decide +kernel
theorem dX12_advance_304 : decode cX12_advance 304 = .ok (.goto 4, 3) := by decide +kernel
theorem dX12_advance_307 : decode cX12_advance 307 = .ok (.iconst 4, 1) := by decide +kernel
theorem dX12_advance_308 : decode cX12_advance 308 = .ok (.putfield 79, 3) := by decide +kernel
theorem dX12_advance_311 : decode cX12_advance 311 = .ok (.return_, 1) := by decide +kernel
theorem dX12_ends_0 : decode cX12_ends 0 = .ok (.aload_n 0, 1) := by decide +kernel
theorem dX12_ends_1 : decode cX12_ends 1 = .ok (.getfield 102, 3) := by decide +kernel
theorem dX12_ends_4 : decode cX12_ends 4 = .ok (.ifCond .eq 4, 3) := by decide +kernel
theorem dX12_ends_7 : decode cX12_ends 7 = .ok (.return_, 1) := by decide +kernel
theorem dX12_ends_8 : decode cX12_ends 8 = .ok (.aload_n 0, 1) := by decide +kernel
theorem dX12_ends_9 : decode cX12_ends 9 = .ok (.iconst 1, 1) := by decide +kernel
theorem dX12_ends_10 : decode cX12_ends 10 = .ok (.putfield 102, 3) := by decide +kernel
theorem dX12_ends_13 : decode cX12_ends 13 = .ok (.aload_n 0, 1) := by decide +kernel
theorem dX12_ends_14 : decode cX12_ends 14 = .ok (.getfield 7, 3) := by decide +kernel
theorem dX12_ends_17 : decode cX12_ends 17 = .ok (.bipush 6, 2) := by decide +kernel
theorem dX12_ends_19 : decode cX12_ends 19 = .ok (.iconst 1, 1) := by decide +kernel
theorem dX12_ends_20 : decode cX12_ends 20 = .ok (.iastore, 1) := by decide +kernel
theorem dX12_ends_21 : decode cX12_ends 21 = .ok (.aload_n 0, 1) := by decide +kernel
theorem dX12_ends_22 : decode cX12_ends 22 = .ok (.getfield 7, 3) := by decide +kernel
theorem dX12_ends_25 : decode cX12_ends 25 = .ok (.bipush 7, 2) := by decide +kernel
theorem dX12_ends_27 : decode cX12_ends 27 = .ok (.aload_n 0, 1) := by decide +kernel
theorem dX12_ends_28 : decode cX12_ends 28 = .ok (.getfield 76, 3) := by decide +kernel
theorem dX12_ends_31 : decode cX12_ends 31 = .ok (.iastore, 1) := by decide +kernel
theorem dX12_ends_32 : decode cX12_ends 32 = .ok (.return_, 1) := by decide +kernel
theorem dX12_also_0 : decode cX12_also 0 = .ok (.aload_n 0, 1) := by decide +kernel
theorem dX12_also_1 : decode cX12_also 1 = .ok (.getfield 102, 3) := by decide +kernel
theorem dX12_also_4 : decode cX12_also 4 = .ok (.ifCond .ne 46, 3) := by decide +kernel
theorem dX12_also_7 : decode cX12_also 7 = .ok (.aload_n 0, 1) := by decide +kernel
theorem dX12_also_8 : decode cX12_also 8 = .ok (.getfield 7, 3) := by decide +kernel
theorem dX12_also_11 : decode cX12_also 11 = .ok (.bipush 6, 2) := by decide +kernel
theorem dX12_also_13 : decode cX12_also 13 = .ok (.iaload, 1) := by decide +kernel
theorem dX12_also_14 : decode cX12_also 14 = .ok (.ifCond .eq 37, 3) := by decide +kernel
theorem dX12_also_17 : decode cX12_also 17 = .ok (.aload_n 0, 1) := by decide +kernel
theorem dX12_also_18 : decode cX12_also 18 = .ok (.getfield 7, 3) := by decide +kernel
theorem dX12_also_21 : decode cX12_also 21 = .ok (.bipush 7, 2) := by decide +kernel
theorem dX12_also_23 : decode cX12_also 23 = .ok (.iaload, 1) := by decide +kernel
theorem dX12_also_24 : decode cX12_also 24 = .ok (.iload_n 2, 1) := by decide +kernel
theorem dX12_also_25 : decode cX12_also 25 = .ok (.if_icmp .lt 25, 3) := by decide +kernel
theorem dX12_also_28 : decode cX12_also 28 = .ok (.aload_n 0, 1) := by decide +kernel
theorem dX12_also_29 : decode cX12_also 29 = .ok (.getfield 7, 3) := by decide +kernel
theorem dX12_also_32 : decode cX12_also 32 = .ok (.bipush 7, 2) := by decide +kernel
theorem dX12_also_34 : decode cX12_also 34 = .ok (.iaload, 1) := by decide +kernel
theorem dX12_also_35 : decode cX12_also 35 = .ok (.iload_n 2, 1) := by decide +kernel
theorem dX12_also_36 : decode cX12_also 36 = .ok (.if_icmp .ne 15, 3) := by decide +kernel
theorem dX12_also_39 : decode cX12_also 39 = .ok (.aload_n 0, 1) := by decide +kernel
theorem dX12_also_40 : decode cX12_also 40 = .ok (.getfield 7, 3) := by decide +kernel
theorem dX12_also_43 : decode cX12_also 43 = .ok (.bipush 6, 2) := by decide +kernel
theorem dX12_also_45 : decode cX12_also 45 = .ok (.iaload, 1) := by decide +kernel
theorem dX12_also_46 : decode cX12_also 46 = .ok (.iload_n 1, 1) := by decide +kernel
theorem dX12_also_47 : decode cX12_also 47 = .ok (.if_icmp .gt 4, 3) := by decide +kernel
theorem dX12_also_50 : decode cX12_also 50 = .ok (.return_, 1) := by decide +kernel
theorem dX12_also_51 : decode cX12_also 51 = .ok (.aload_n 0, 1) := by decide +kernel
theorem dX12_also_52 : decode cX12_also 52 = .ok (.getfield 7, 3) := by decide +kernel
theorem dX12_also_55 : decode cX12_also 55 = .ok (.bipush 6, 2) := by decide +kernel
theorem dX12_also_57 : decode cX12_also 57 = .ok (.iload_n 1, 1) := by decide +kernel
theorem dX12_also_58 : decode cX12_also 58 = .ok (.iastore, 1) := by decide +kernel
theorem dX12_also_59 : decode cX12_also 59 = .ok (.aload_n 0, 1) := by decide +kernel
theorem dX12_also_60 : decode cX12_also 60 = .ok (.getfield 7, 3) := by decide +kernel
theorem dX12_also_63 : decode cX12_also 63 = .ok (.bipush 7, 2) := by decide +kernel
theorem dX12_also_65 : decode cX12_also 65 = .ok (.iload_n 2, 1) := by decide +kernel
theorem dX12_also_66 : decode cX12_also 66 = .ok (.iastore, 1) := by decide +kernel
theorem dX12_also_67 : decode cX12_also 67 = .ok (.return_, 1) := by decide +kernel
theorem dX12_numbered_0 : decode cX12_numbered 0 = .ok (.aload_n 0, 1) := by decide +kernel
theorem dX12_numbered_1 : decode cX12_numbered 1 = .ok (.getfield 102, 3) := by decide +kernel
theorem dX12_numbered_4 : decode cX12_numbered 4 = .ok (.ifCond .ne 11, 3) := by decide +kernel
theorem dX12_numbered_7 : decode cX12_numbered 7 = .ok (.aload_n 0, 1) := by decide +kernel
theorem dX12_numbered_8 : decode cX12_numbered 8 = .ok (.getfield 79, 3) := by decide +kernel
theorem dX12_numbered_11 : decode cX12_numbered 11 = .ok (.iconst 1, 1) := by decide +kernel
theorem dX12_numbered_12 : decode cX12_numbered 12 = .ok (.if_icmp .eq 9, 3) := by decide +kernel
theorem dX12_numbered_15 : decode cX12_numbered 15 = .ok (.aload_n 0, 1) := by decide +kernel
theorem dX12_numbered_16 : decode cX12_numbered 16 = .ok (.invokevirtual 106, 3) := by decide +kernel
theorem dX12_numbered_19 : decode cX12_numbered 19 = .ok (.iload_n 1, 1) := by decide +kernel
theorem dX12_numbered_20 : decode cX12_numbered 20 = .ok (.ireturn, 1) := by decide +kernel
theorem dX12_numbered_21 : decode cX12_numbered 21 = .ok (.aload_n 0, 1) := by decide +kernel
theorem dX12_numbered_22 : decode cX12_numbered 22 = .ok (.getfield 99, 3) := by decide +kernel
theorem dX12_numbered_25 : decode cX12_numbered 25 = .ok (.istore_n 3, 1) := by decide +kernel
theorem dX12_numbered_26 : decode cX12_numbered 26 = .ok (.iload_n 3, 1) := by decide +kernel
theorem dX12_numbered_27 : decode cX12_numbered 27 = .ok (.iload_n 1, 1) := by decide +kernel
theorem dX12_numbered_28 : decode cX12_numbered 28 = .ok (.iload_n 2, 1) := by decide +kernel
theorem dX12_numbered_29 : decode cX12_numbered 29 = .ok (.invokestatic 109, 3) := by decide +kernel
theorem dX12_numbered_32 : decode cX12_numbered 32 = .ok (.ifCond .ne 12, 3) := by decide +kernel
theorem dX12_numbered_35 : decode cX12_numbered 35 = .ok (.aload_n 0, 1) := by decide +kernel
theorem dX12_numbered_36 : decode cX12_numbered 36 = .ok (.iconst 2, 1) := by decide +kernel
theorem dX12_numbered_37 : decode cX12_numbered 37 = .ok (.aload_n 0, 1) := by decide +kernel
theorem dX12_numbered_38 : decode cX12_numbered 38 = .ok (.getfield 76, 3) := by decide +kernel
theorem dX12_numbered_41 : decode cX12_numbered 41 = .ok (.invokevirtual 113, 3) := by decide +kernel
theorem dX12_numbered_44 : decode cX12_numbered 44 = .ok (.aload_n 0, 1) := by decide +kernel
theorem dX12_numbered_45 : decode cX12_numbered 45 = .ok (.invokevirtual 117, 3) := by decide +kernel
theorem dX12_numbered_48 : decode cX12_numbered 48 = .ok (.iload_n 3, 1) := by decide +kernel
theorem dX12_numbered_49 : decode cX12_numbered 49 = .ok (.iload_n 1, 1) := by decide +kernel
theorem dX12_numbered_50 : decode cX12_numbered 50 = .ok (.iload_n 2, 1) := by decide +kernel
theorem dX12_numbered_51 : decode cX12_numbered 51 = .ok (.invokestatic 109, 3) := by decide +kernel
theorem dX12_numbered_54 : decode cX12_numbered 54 = .ok (.ifCond .eq 7, 3) := by decide +kernel
theorem dX12_numbered_57 : decode cX12_numbered 57 = .ok (.iload_n 3, 1) := by decide +kernel
theorem dX12_numbered_58 : decode cX12_numbered 58 = .ok (.goto 4, 3) := by decide +kernel
theorem dX12_numbered_61 : decode cX12_numbered 61 = .ok (.iload_n 1, 1) := by decide +kernel
theorem dX12_numbered_62 : decode cX12_numbered 62 = .ok (.ireturn, 1) := by decide +kernel
theorem dX12_takes_0 : decode cX12_takes 0 = .ok (.aload_n 0, 1) := by decide +kernel
theorem dX12_takes_1 : decode cX12_takes 1 = .ok (.getfield 102, 3) := by decide +kernel
theorem dX12_takes_4 : decode cX12_takes 4 = .ok (.ifCond .ne 23, 3) := by decide +kernel
theorem dX12_takes_7 : decode cX12_takes 7 = .ok (.aload_n 0, 1) := by decide +kernel
theorem dX12_takes_8 : decode cX12_takes 8 = .ok (.getfield 79, 3) := by decide +kernel
theorem dX12_takes_11 : decode cX12_takes 11 = .ok (.iconst 3, 1) := by decide +kernel
theorem dX12_takes_12 : decode cX12_takes 12 = .ok (.if_icmp .ne 15, 3) := by decide +kernel
theorem dX12_takes_15 : decode cX12_takes 15 = .ok (.aload_n 0, 1) := by decide +kernel
theorem dX12_takes_16 : decode cX12_takes 16 = .ok (.getfield 93, 3) := by decide +kernel
theorem dX12_takes_19 : decode cX12_takes 19 = .ok (.iload_n 1, 1) := by decide +kernel
theorem dX12_takes_20 : decode cX12_takes 20 = .ok (.iload_n 2, 1) := by decide +kernel
theorem dX12_takes_21 : decode cX12_takes 21 = .ok (.invokestatic 109, 3) := by decide +kernel
theorem dX12_takes_24 : decode cX12_takes 24 = .ok (.ifCond .ne 9, 3) := by decide +kernel
theorem dX12_takes_27 : decode cX12_takes 27 = .ok (.aload_n 0, 1) := by decide +kernel
theorem dX12_takes_28 : decode cX12_takes 28 = .ok (.invokevirtual 106, 3) := by decide +kernel
theorem dX12_takes_31 : decode cX12_takes 31 = .ok (.iconst 0, 1) := by decide +kernel
theorem dX12_takes_32 : decode cX12_takes 32 = .ok (.ireturn, 1) := by decide +kernel
theorem dX12_takes_33 : decode cX12_takes 33 = .ok (.aload_n 0, 1) := by decide +kernel
theorem dX12_takes_34 : decode cX12_takes 34 = .ok (.getfield 93, 3) := by decide +kernel
theorem dX12_takes_37 : decode cX12_takes 37 = .ok (.istore_n 3, 1) := by decide +kernel
theorem dX12_takes_38 : decode cX12_takes 38 = .ok (.aload_n 0, 1) := by decide +kernel
theorem dX12_takes_39 : decode cX12_takes 39 = .ok (.invokevirtual 117, 3) := by decide +kernel
theorem dX12_takes_42 : decode cX12_takes 42 = .ok (.iload_n 3, 1) := by decide +kernel
theorem dX12_takes_43 : decode cX12_takes 43 = .ok (.ireturn, 1) := by decide +kernel
theorem dX12_endsLine_0 : decode cX12_endsLine 0 = .ok (.aload_n 0, 1) := by decide +kernel
theorem dX12_endsLine_1 : decode cX12_endsLine 1 = .ok (.getfield 102, 3) := by decide +kernel
theorem dX12_endsLine_4 : decode cX12_endsLine 4 = .ok (.ifCond .ne 18, 3) := by decide +kernel
theorem dX12_endsLine_7 : decode cX12_endsLine 7 = .ok (.aload_n 0, 1) := by decide +kernel
theorem dX12_endsLine_8 : decode cX12_endsLine 8 = .ok (.getfield 79, 3) := by decide +kernel
theorem dX12_endsLine_11 : decode cX12_endsLine 11 = .ok (.iconst 2, 1) := by decide +kernel
theorem dX12_endsLine_12 : decode cX12_endsLine 12 = .ok (.if_icmp .ne 10, 3) := by decide +kernel
theorem dX12_endsLine_15 : decode cX12_endsLine 15 = .ok (.aload_n 0, 1) := by decide +kernel
theorem dX12_endsLine_16 : decode cX12_endsLine 16 = .ok (.invokevirtual 117, 3) := by decide +kernel
theorem dX12_endsLine_19 : decode cX12_endsLine 19 = .ok (.goto 7, 3) := by decide +kernel
theorem dX12_endsLine_22 : decode cX12_endsLine 22 = .ok (.aload_n 0, 1) := by decide +kernel
theorem dX12_endsLine_23 : decode cX12_endsLine 23 = .ok (.invokevirtual 106, 3) := by decide +kernel
theorem dX12_endsLine_26 : decode cX12_endsLine 26 = .ok (.return_, 1) := by decide +kernel
theorem dX12_further_0 : decode cX12_further 0 = .ok (.aload_n 0, 1) := by decide +kernel
theorem dX12_further_1 : decode cX12_further 1 = .ok (.getfield 17, 3) := by decide +kernel
theorem dX12_further_4 : decode cX12_further 4 = .ok (.iload_n 2, 1) := by decide +kernel
theorem dX12_further_5 : decode cX12_further 5 = .ok (.iaload, 1) := by decide +kernel
theorem dX12_further_6 : decode cX12_further 6 = .ok (.iload_n 3, 1) := by decide +kernel
theorem dX12_further_7 : decode cX12_further 7 = .ok (.if_icmp .ge 7, 3) := by decide +kernel
theorem dX12_further_10 : decode cX12_further 10 = .ok (.iconst 1, 1) := by decide +kernel
theorem dX12_further_11 : decode cX12_further 11 = .ok (.goto 4, 3) := by decide +kernel
theorem dX12_further_14 : decode cX12_further 14 = .ok (.iconst 0, 1) := by decide +kernel
theorem dX12_further_15 : decode cX12_further 15 = .ok (.istore 7, 2) := by decide +kernel
theorem dX12_further_17 : decode cX12_further 17 = .ok (.iload 7, 2) := by decide +kernel
theorem dX12_further_19 : decode cX12_further 19 = .ok (.ifCond .ne 9, 3) := by decide +kernel
theorem dX12_further_22 : decode cX12_further 22 = .ok (.aload_n 0, 1) := by decide +kernel
theorem dX12_further_23 : decode cX12_further 23 = .ok (.iconst 3, 1) := by decide +kernel
theorem dX12_further_24 : decode cX12_further 24 = .ok (.iload_n 1, 1) := by decide +kernel
theorem dX12_further_25 : decode cX12_further 25 = .ok (.invokevirtual 113, 3) := by decide +kernel
theorem dX12_further_28 : decode cX12_further 28 = .ok (.iload 4, 2) := by decide +kernel
theorem dX12_further_30 : decode cX12_further 30 = .ok (.iload 5, 2) := by decide +kernel
theorem dX12_further_32 : decode cX12_further 32 = .ok (.aload_n 0, 1) := by decide +kernel
theorem dX12_further_33 : decode cX12_further 33 = .ok (.getfield 17, 3) := by decide +kernel
theorem dX12_further_36 : decode cX12_further 36 = .ok (.iload_n 2, 1) := by decide +kernel
theorem dX12_further_37 : decode cX12_further 37 = .ok (.iaload, 1) := by decide +kernel
theorem dX12_further_38 : decode cX12_further 38 = .ok (.imul, 1) := by decide +kernel
theorem dX12_further_39 : decode cX12_further 39 = .ok (.iadd, 1) := by decide +kernel
theorem dX12_further_40 : decode cX12_further 40 = .ok (.istore 8, 2) := by decide +kernel
theorem dX12_further_42 : decode cX12_further 42 = .ok (.iconst 0, 1) := by decide +kernel
theorem dX12_further_43 : decode cX12_further 43 = .ok (.istore 9, 2) := by decide +kernel
theorem dX12_further_45 : decode cX12_further 45 = .ok (.iload 9, 2) := by decide +kernel
theorem dX12_further_47 : decode cX12_further 47 = .ok (.iload 5, 2) := by decide +kernel
theorem dX12_further_49 : decode cX12_further 49 = .ok (.if_icmp .ge 56, 3) := by decide +kernel
theorem dX12_further_52 : decode cX12_further 52 = .ok (.aload_n 0, 1) := by decide +kernel
theorem dX12_further_53 : decode cX12_further 53 = .ok (.getstatic 120, 3) := by decide +kernel
theorem dX12_further_56 : decode cX12_further 56 = .ok (.iload 6, 2) := by decide +kernel
theorem dX12_further_58 : decode cX12_further 58 = .ok (.iconst 2, 1) := by decide +kernel
theorem dX12_further_59 : decode cX12_further 59 = .ok (.iload 9, 2) := by decide +kernel
theorem dX12_further_61 : decode cX12_further 61 = .ok (.imul, 1) := by decide +kernel
theorem dX12_further_62 : decode cX12_further 62 = .ok (.iadd, 1) := by decide +kernel
theorem dX12_further_63 : decode cX12_further 63 = .ok (.iaload, 1) := by decide +kernel
theorem dX12_further_64 : decode cX12_further 64 = .ok (.getstatic 120, 3) := by decide +kernel
theorem dX12_further_67 : decode cX12_further 67 = .ok (.iload 6, 2) := by decide +kernel
theorem dX12_further_69 : decode cX12_further 69 = .ok (.iconst 2, 1) := by decide +kernel
theorem dX12_further_70 : decode cX12_further 70 = .ok (.iload 9, 2) := by decide +kernel
theorem dX12_further_72 : decode cX12_further 72 = .ok (.imul, 1) := by decide +kernel
theorem dX12_further_73 : decode cX12_further 73 = .ok (.iadd, 1) := by decide +kernel
theorem dX12_further_74 : decode cX12_further 74 = .ok (.iconst 1, 1) := by decide +kernel
theorem dX12_further_75 : decode cX12_further 75 = .ok (.iadd, 1) := by decide +kernel
theorem dX12_further_76 : decode cX12_further 76 = .ok (.iaload, 1) := by decide +kernel
theorem dX12_further_77 : decode cX12_further 77 = .ok (.invokevirtual 123, 3) := by decide +kernel
theorem dX12_further_80 : decode cX12_further 80 = .ok (.istore 10, 2) := by decide +kernel
theorem dX12_further_82 : decode cX12_further 82 = .ok (.iload 7, 2) := by decide +kernel
theorem dX12_further_84 : decode cX12_further 84 = .ok (.ifCond .eq 15, 3) := by decide +kernel
theorem dX12_further_87 : decode cX12_further 87 = .ok (.aload_n 0, 1) := by decide +kernel
theorem dX12_further_88 : decode cX12_further 88 = .ok (.getfield 17, 3) := by decide +kernel
theorem dX12_further_91 : decode cX12_further 91 = .ok (.iload 8, 2) := by decide +kernel
theorem dX12_further_93 : decode cX12_further 93 = .ok (.iload 9, 2) := by decide +kernel
theorem dX12_further_95 : decode cX12_further 95 = .ok (.iadd, 1) := by decide +kernel
theorem dX12_further_96 : decode cX12_further 96 = .ok (.iload 10, 2) := by decide +kernel
theorem dX12_further_98 : decode cX12_further 98 = .ok (.iastore, 1) := by decide +kernel
theorem dX12_further_99 : decode cX12_further 99 = .ok (.iinc 9 1, 3) := by decide +kernel
theorem dX12_further_102 : decode cX12_further 102 = .ok (.goto (-57), 3) := by decide +kernel
theorem dX12_further_105 : decode cX12_further 105 = .ok (.iload 7, 2) := by decide +kernel
theorem dX12_further_107 : decode cX12_further 107 = .ok (.ifCond .eq 13, 3) := by decide +kernel
theorem dX12_further_110 : decode cX12_further 110 = .ok (.aload_n 0, 1) := by decide +kernel
theorem dX12_further_111 : decode cX12_further 111 = .ok (.getfield 17, 3) := by decide +kernel
theorem dX12_further_114 : decode cX12_further 114 = .ok (.iload_n 2, 1) := by decide +kernel
theorem dX12_further_115 : decode cX12_further 115 = .ok (.dup2, 1) := by decide +kernel
theorem dX12_further_116 : decode cX12_further 116 = .ok (.iaload, 1) := by decide +kernel
theorem dX12_further_117 : decode cX12_further 117 = .ok (.iconst 1, 1) := by decide +kernel
theorem dX12_further_118 : decode cX12_further 118 = .ok (.iadd, 1) := by decide +kernel
theorem dX12_further_119 : decode cX12_further 119 = .ok (.iastore, 1) := by decide +kernel
theorem dX12_further_120 : decode cX12_further 120 = .ok (.return_, 1) := by decide +kernel
theorem dX12_lakeLine_0 : decode cX12_lakeLine 0 = .ok (.aload_n 0, 1) := by decide +kernel
theorem dX12_lakeLine_1 : decode cX12_lakeLine 1 = .ok (.getfield 76, 3) := by decide +kernel
theorem dX12_lakeLine_4 : decode cX12_lakeLine 4 = .ok (.istore_n 1, 1) := by decide +kernel
theorem dX12_lakeLine_5 : decode cX12_lakeLine 5 = .ok (.aload_n 0, 1) := by decide +kernel
theorem dX12_lakeLine_6 : decode cX12_lakeLine 6 = .ok (.iconst 1, 1) := by decide +kernel
theorem dX12_lakeLine_7 : decode cX12_lakeLine 7 = .ok (.bipush 12, 2) := by decide +kernel
theorem dX12_lakeLine_9 : decode cX12_lakeLine 9 = .ok (.invokevirtual 127, 3) := by decide +kernel
theorem dX12_lakeLine_12 : decode cX12_lakeLine 12 = .ok (.istore_n 2, 1) := by decide +kernel
theorem dX12_lakeLine_13 : decode cX12_lakeLine 13 = .ok (.iload_n 2, 1) := by decide +kernel
theorem dX12_lakeLine_14 : decode cX12_lakeLine 14 = .ok (.tableswitch 286 1 12 #[62, 91, 118, 147, 164, 181, 198, 214, 230, 247, 263, 279], 62) := by decide +kernel
theorem dX12_lakeLine_76 : decode cX12_lakeLine 76 = .ok (.aload_n 0, 1) := by decide +kernel
theorem dX12_lakeLine_77 : decode cX12_lakeLine 77 = .ok (.getfield 17, 3) := by decide +kernel
theorem dX12_lakeLine_80 : decode cX12_lakeLine 80 = .ok (.iconst 0, 1) := by decide +kernel
theorem dX12_lakeLine_81 : decode cX12_lakeLine 81 = .ok (.aload_n 0, 1) := by decide +kernel
theorem dX12_lakeLine_82 : decode cX12_lakeLine 82 = .ok (.iconst 2, 1) := by decide +kernel
theorem dX12_lakeLine_83 : decode cX12_lakeLine 83 = .ok (.bipush 12, 2) := by decide +kernel
theorem dX12_lakeLine_85 : decode cX12_lakeLine 85 = .ok (.invokevirtual 123, 3) := by decide +kernel
theorem dX12_lakeLine_88 : decode cX12_lakeLine 88 = .ok (.iastore, 1) := by decide +kernel
theorem dX12_lakeLine_89 : decode cX12_lakeLine 89 = .ok (.aload_n 0, 1) := by decide +kernel
theorem dX12_lakeLine_90 : decode cX12_lakeLine 90 = .ok (.getfield 17, 3) := by decide +kernel
theorem dX12_lakeLine_93 : decode cX12_lakeLine 93 = .ok (.iconst 1, 1) := by decide +kernel
theorem dX12_lakeLine_94 : decode cX12_lakeLine 94 = .ok (.aload_n 0, 1) := by decide +kernel
theorem dX12_lakeLine_95 : decode cX12_lakeLine 95 = .ok (.iconst 2, 1) := by decide +kernel
theorem dX12_lakeLine_96 : decode cX12_lakeLine 96 = .ok (.bipush 12, 2) := by decide +kernel
theorem dX12_lakeLine_98 : decode cX12_lakeLine 98 = .ok (.invokevirtual 123, 3) := by decide +kernel
theorem dX12_lakeLine_101 : decode cX12_lakeLine 101 = .ok (.iastore, 1) := by decide +kernel
theorem dX12_lakeLine_102 : decode cX12_lakeLine 102 = .ok (.goto 198, 3) := by decide +kernel
theorem dX12_lakeLine_105 : decode cX12_lakeLine 105 = .ok (.aload_n 0, 1) := by decide +kernel
theorem dX12_lakeLine_106 : decode cX12_lakeLine 106 = .ok (.getfield 17, 3) := by decide +kernel
theorem dX12_lakeLine_109 : decode cX12_lakeLine 109 = .ok (.iconst 2, 1) := by decide +kernel
theorem dX12_lakeLine_110 : decode cX12_lakeLine 110 = .ok (.aload_n 0, 1) := by decide +kernel
theorem dX12_lakeLine_111 : decode cX12_lakeLine 111 = .ok (.iconst 1, 1) := by decide +kernel
theorem dX12_lakeLine_112 : decode cX12_lakeLine 112 = .ok (.iconst 4, 1) := by decide +kernel
theorem dX12_lakeLine_113 : decode cX12_lakeLine 113 = .ok (.invokevirtual 123, 3) := by decide +kernel
theorem dX12_lakeLine_116 : decode cX12_lakeLine 116 = .ok (.iastore, 1) := by decide +kernel
theorem dX12_lakeLine_117 : decode cX12_lakeLine 117 = .ok (.aload_n 0, 1) := by decide +kernel
theorem dX12_lakeLine_118 : decode cX12_lakeLine 118 = .ok (.getfield 17, 3) := by decide +kernel
theorem dX12_lakeLine_121 : decode cX12_lakeLine 121 = .ok (.iconst 3, 1) := by decide +kernel
theorem dX12_lakeLine_122 : decode cX12_lakeLine 122 = .ok (.aload_n 0, 1) := by decide +kernel
theorem dX12_lakeLine_123 : decode cX12_lakeLine 123 = .ok (.iconst 1, 1) := by decide +kernel
theorem dX12_lakeLine_124 : decode cX12_lakeLine 124 = .ok (.iconst 4, 1) := by decide +kernel
theorem dX12_lakeLine_125 : decode cX12_lakeLine 125 = .ok (.invokevirtual 123, 3) := by decide +kernel
theorem dX12_lakeLine_128 : decode cX12_lakeLine 128 = .ok (.iastore, 1) := by decide +kernel
theorem dX12_lakeLine_129 : decode cX12_lakeLine 129 = .ok (.goto 171, 3) := by decide +kernel
theorem dX12_lakeLine_132 : decode cX12_lakeLine 132 = .ok (.aload_n 0, 1) := by decide +kernel
theorem dX12_lakeLine_133 : decode cX12_lakeLine 133 = .ok (.getfield 17, 3) := by decide +kernel
theorem dX12_lakeLine_136 : decode cX12_lakeLine 136 = .ok (.iconst 4, 1) := by decide +kernel
theorem dX12_lakeLine_137 : decode cX12_lakeLine 137 = .ok (.aload_n 0, 1) := by decide +kernel
theorem dX12_lakeLine_138 : decode cX12_lakeLine 138 = .ok (.iconst 0, 1) := by decide +kernel
theorem dX12_lakeLine_139 : decode cX12_lakeLine 139 = .ok (.bipush 11, 2) := by decide +kernel
theorem dX12_lakeLine_141 : decode cX12_lakeLine 141 = .ok (.invokevirtual 123, 3) := by decide +kernel
theorem dX12_lakeLine_144 : decode cX12_lakeLine 144 = .ok (.iastore, 1) := by decide +kernel
theorem dX12_lakeLine_145 : decode cX12_lakeLine 145 = .ok (.aload_n 0, 1) := by decide +kernel
theorem dX12_lakeLine_146 : decode cX12_lakeLine 146 = .ok (.getfield 17, 3) := by decide +kernel
theorem dX12_lakeLine_149 : decode cX12_lakeLine 149 = .ok (.iconst 5, 1) := by decide +kernel
theorem dX12_lakeLine_150 : decode cX12_lakeLine 150 = .ok (.aload_n 0, 1) := by decide +kernel
theorem dX12_lakeLine_151 : decode cX12_lakeLine 151 = .ok (.iconst 0, 1) := by decide +kernel
theorem dX12_lakeLine_152 : decode cX12_lakeLine 152 = .ok (.bipush 11, 2) := by decide +kernel
theorem dX12_lakeLine_154 : decode cX12_lakeLine 154 = .ok (.invokevirtual 123, 3) := by decide +kernel
theorem dX12_lakeLine_157 : decode cX12_lakeLine 157 = .ok (.iastore, 1) := by decide +kernel
theorem dX12_lakeLine_158 : decode cX12_lakeLine 158 = .ok (.goto 142, 3) := by decide +kernel
theorem dX12_lakeLine_161 : decode cX12_lakeLine 161 = .ok (.aload_n 0, 1) := by decide +kernel
theorem dX12_lakeLine_162 : decode cX12_lakeLine 162 = .ok (.getfield 17, 3) := by decide +kernel
theorem dX12_lakeLine_165 : decode cX12_lakeLine 165 = .ok (.bipush 6, 2) := by decide +kernel
theorem dX12_lakeLine_167 : decode cX12_lakeLine 167 = .ok (.aload_n 0, 1) := by decide +kernel
theorem dX12_lakeLine_168 : decode cX12_lakeLine 168 = .ok (.iconst 0, 1) := by decide +kernel
theorem dX12_lakeLine_169 : decode cX12_lakeLine 169 = .ok (.bipush 99, 2) := by decide +kernel
theorem dX12_lakeLine_171 : decode cX12_lakeLine 171 = .ok (.invokevirtual 123, 3) := by decide +kernel
theorem dX12_lakeLine_174 : decode cX12_lakeLine 174 = .ok (.iastore, 1) := by decide +kernel
theorem dX12_lakeLine_175 : decode cX12_lakeLine 175 = .ok (.goto 125, 3) := by decide +kernel
theorem dX12_lakeLine_178 : decode cX12_lakeLine 178 = .ok (.aload_n 0, 1) := by decide +kernel
theorem dX12_lakeLine_179 : decode cX12_lakeLine 179 = .ok (.getfield 17, 3) := by decide +kernel
theorem dX12_lakeLine_182 : decode cX12_lakeLine 182 = .ok (.bipush 7, 2) := by decide +kernel
theorem dX12_lakeLine_184 : decode cX12_lakeLine 184 = .ok (.aload_n 0, 1) := by decide +kernel
theorem dX12_lakeLine_185 : decode cX12_lakeLine 185 = .ok (.iconst 1, 1) := by decide +kernel
theorem dX12_lakeLine_186 : decode cX12_lakeLine 186 = .ok (.bipush 99, 2) := by decide +kernel
theorem dX12_lakeLine_188 : decode cX12_lakeLine 188 = .ok (.invokevirtual 123, 3) := by decide +kernel
theorem dX12_lakeLine_191 : decode cX12_lakeLine 191 = .ok (.iastore, 1) := by decide +kernel
theorem dX12_lakeLine_192 : decode cX12_lakeLine 192 = .ok (.goto 108, 3) := by decide +kernel
theorem dX12_lakeLine_195 : decode cX12_lakeLine 195 = .ok (.aload_n 0, 1) := by decide +kernel
theorem dX12_lakeLine_196 : decode cX12_lakeLine 196 = .ok (.getfield 17, 3) := by decide +kernel
theorem dX12_lakeLine_199 : decode cX12_lakeLine 199 = .ok (.bipush 8, 2) := by decide +kernel
theorem dX12_lakeLine_201 : decode cX12_lakeLine 201 = .ok (.aload_n 0, 1) := by decide +kernel
theorem dX12_lakeLine_202 : decode cX12_lakeLine 202 = .ok (.iconst 1, 1) := by decide +kernel
theorem dX12_lakeLine_203 : decode cX12_lakeLine 203 = .ok (.bipush 99, 2) := by decide +kernel
theorem dX12_lakeLine_205 : decode cX12_lakeLine 205 = .ok (.invokevirtual 123, 3) := by decide +kernel
theorem dX12_lakeLine_208 : decode cX12_lakeLine 208 = .ok (.iastore, 1) := by decide +kernel
theorem dX12_lakeLine_209 : decode cX12_lakeLine 209 = .ok (.goto 91, 3) := by decide +kernel
theorem dX12_lakeLine_212 : decode cX12_lakeLine 212 = .ok (.aload_n 0, 1) := by decide +kernel
theorem dX12_lakeLine_213 : decode cX12_lakeLine 213 = .ok (.iload_n 1, 1) := by decide +kernel
theorem dX12_lakeLine_214 : decode cX12_lakeLine 214 = .ok (.bipush 11, 2) := by decide +kernel
theorem dX12_lakeLine_216 : decode cX12_lakeLine 216 = .ok (.bipush 20, 2) := by decide +kernel
theorem dX12_lakeLine_218 : decode cX12_lakeLine 218 = .ok (.bipush 16, 2) := by decide +kernel
theorem dX12_lakeLine_220 : decode cX12_lakeLine 220 = .ok (.iconst 2, 1) := by decide +kernel
theorem dX12_lakeLine_221 : decode cX12_lakeLine 221 = .ok (.iconst 0, 1) := by decide +kernel
theorem dX12_lakeLine_222 : decode cX12_lakeLine 222 = .ok (.invokevirtual 130, 3) := by decide +kernel
theorem dX12_lakeLine_225 : decode cX12_lakeLine 225 = .ok (.goto 75, 3) := by decide +kernel
theorem dX12_lakeLine_228 : decode cX12_lakeLine 228 = .ok (.aload_n 0, 1) := by decide +kernel
theorem dX12_lakeLine_229 : decode cX12_lakeLine 229 = .ok (.iload_n 1, 1) := by decide +kernel
theorem dX12_lakeLine_230 : decode cX12_lakeLine 230 = .ok (.bipush 12, 2) := by decide +kernel
theorem dX12_lakeLine_232 : decode cX12_lakeLine 232 = .ok (.bipush 12, 2) := by decide +kernel
theorem dX12_lakeLine_234 : decode cX12_lakeLine 234 = .ok (.bipush 56, 2) := by decide +kernel
theorem dX12_lakeLine_236 : decode cX12_lakeLine 236 = .ok (.iconst 2, 1) := by decide +kernel
theorem dX12_lakeLine_237 : decode cX12_lakeLine 237 = .ok (.iconst 4, 1) := by decide +kernel
theorem dX12_lakeLine_238 : decode cX12_lakeLine 238 = .ok (.invokevirtual 130, 3) := by decide +kernel
theorem dX12_lakeLine_241 : decode cX12_lakeLine 241 = .ok (.goto 59, 3) := by decide +kernel
theorem dX12_lakeLine_244 : decode cX12_lakeLine 244 = .ok (.aload_n 0, 1) := by decide +kernel
theorem dX12_lakeLine_245 : decode cX12_lakeLine 245 = .ok (.iload_n 1, 1) := by decide +kernel
theorem dX12_lakeLine_246 : decode cX12_lakeLine 246 = .ok (.bipush 13, 2) := by decide +kernel
theorem dX12_lakeLine_248 : decode cX12_lakeLine 248 = .ok (.bipush 6, 2) := by decide +kernel
theorem dX12_lakeLine_250 : decode cX12_lakeLine 250 = .ok (.bipush 80, 2) := by decide +kernel
theorem dX12_lakeLine_252 : decode cX12_lakeLine 252 = .ok (.iconst 1, 1) := by decide +kernel
theorem dX12_lakeLine_253 : decode cX12_lakeLine 253 = .ok (.bipush 8, 2) := by decide +kernel
theorem dX12_lakeLine_255 : decode cX12_lakeLine 255 = .ok (.invokevirtual 130, 3) := by decide +kernel
theorem dX12_lakeLine_258 : decode cX12_lakeLine 258 = .ok (.goto 42, 3) := by decide +kernel
theorem dX12_lakeLine_261 : decode cX12_lakeLine 261 = .ok (.aload_n 0, 1) := by decide +kernel
theorem dX12_lakeLine_262 : decode cX12_lakeLine 262 = .ok (.iload_n 1, 1) := by decide +kernel
theorem dX12_lakeLine_263 : decode cX12_lakeLine 263 = .ok (.bipush 14, 2) := by decide +kernel
theorem dX12_lakeLine_265 : decode cX12_lakeLine 265 = .ok (.iconst 5, 1) := by decide +kernel
theorem dX12_lakeLine_266 : decode cX12_lakeLine 266 = .ok (.bipush 86, 2) := by decide +kernel
theorem dX12_lakeLine_268 : decode cX12_lakeLine 268 = .ok (.iconst 3, 1) := by decide +kernel
theorem dX12_lakeLine_269 : decode cX12_lakeLine 269 = .ok (.bipush 10, 2) := by decide +kernel
theorem dX12_lakeLine_271 : decode cX12_lakeLine 271 = .ok (.invokevirtual 130, 3) := by decide +kernel
theorem dX12_lakeLine_274 : decode cX12_lakeLine 274 = .ok (.goto 26, 3) := by decide +kernel
theorem dX12_lakeLine_277 : decode cX12_lakeLine 277 = .ok (.aload_n 0, 1) := by decide +kernel
theorem dX12_lakeLine_278 : decode cX12_lakeLine 278 = .ok (.iload_n 1, 1) := by decide +kernel
theorem dX12_lakeLine_279 : decode cX12_lakeLine 279 = .ok (.bipush 15, 2) := by decide +kernel
theorem dX12_lakeLine_281 : decode cX12_lakeLine 281 = .ok (.iconst 4, 1) := by decide +kernel
theorem dX12_lakeLine_282 : decode cX12_lakeLine 282 = .ok (.bipush 101, 2) := by decide +kernel
theorem dX12_lakeLine_284 : decode cX12_lakeLine 284 = .ok (.iconst 2, 1) := by decide +kernel
theorem dX12_lakeLine_285 : decode cX12_lakeLine 285 = .ok (.bipush 16, 2) := by decide +kernel
theorem dX12_lakeLine_287 : decode cX12_lakeLine 287 = .ok (.invokevirtual 130, 3) := by decide +kernel
theorem dX12_lakeLine_290 : decode cX12_lakeLine 290 = .ok (.goto 10, 3) := by decide +kernel
theorem dX12_lakeLine_293 : decode cX12_lakeLine 293 = .ok (.aload_n 0, 1) := by decide +kernel
theorem dX12_lakeLine_294 : decode cX12_lakeLine 294 = .ok (.invokevirtual 134, 3) := by decide +kernel
theorem dX12_lakeLine_297 : decode cX12_lakeLine 297 = .ok (.goto 3, 3) := by decide +kernel
theorem dX12_lakeLine_300 : decode cX12_lakeLine 300 = .ok (.aload_n 0, 1) := by decide +kernel
theorem dX12_lakeLine_301 : decode cX12_lakeLine 301 = .ok (.invokevirtual 137, 3) := by decide +kernel
theorem dX12_lakeLine_304 : decode cX12_lakeLine 304 = .ok (.return_, 1) := by decide +kernel
theorem dX12_brothers_0 : decode cX12_brothers 0 = .ok (.aload_n 0, 1) := by decide +kernel
theorem dX12_brothers_1 : decode cX12_brothers 1 = .ok (.iconst 0, 1) := by decide +kernel
theorem dX12_brothers_2 : decode cX12_brothers 2 = .ok (.iconst 3, 1) := by decide +kernel
theorem dX12_brothers_3 : decode cX12_brothers 3 = .ok (.invokevirtual 123, 3) := by decide +kernel
theorem dX12_brothers_6 : decode cX12_brothers 6 = .ok (.istore_n 1, 1) := by decide +kernel
theorem dX12_brothers_7 : decode cX12_brothers 7 = .ok (.aload_n 0, 1) := by decide +kernel
theorem dX12_brothers_8 : decode cX12_brothers 8 = .ok (.getfield 102, 3) := by decide +kernel
theorem dX12_brothers_11 : decode cX12_brothers 11 = .ok (.ifCond .ne 28, 3) := by decide +kernel
theorem dX12_brothers_14 : decode cX12_brothers 14 = .ok (.aload_n 0, 1) := by decide +kernel
theorem dX12_brothers_15 : decode cX12_brothers 15 = .ok (.getfield 79, 3) := by decide +kernel
theorem dX12_brothers_18 : decode cX12_brothers 18 = .ok (.iconst 1, 1) := by decide +kernel
theorem dX12_brothers_19 : decode cX12_brothers 19 = .ok (.if_icmp .ne 20, 3) := by decide +kernel
theorem dX12_brothers_22 : decode cX12_brothers 22 = .ok (.aload_n 0, 1) := by decide +kernel
theorem dX12_brothers_23 : decode cX12_brothers 23 = .ok (.getfield 99, 3) := by decide +kernel
theorem dX12_brothers_26 : decode cX12_brothers 26 = .ok (.iload_n 1, 1) := by decide +kernel
theorem dX12_brothers_27 : decode cX12_brothers 27 = .ok (.if_icmp .ne 12, 3) := by decide +kernel
theorem dX12_brothers_30 : decode cX12_brothers 30 = .ok (.aload_n 0, 1) := by decide +kernel
theorem dX12_brothers_31 : decode cX12_brothers 31 = .ok (.iconst 2, 1) := by decide +kernel
theorem dX12_brothers_32 : decode cX12_brothers 32 = .ok (.aload_n 0, 1) := by decide +kernel
theorem dX12_brothers_33 : decode cX12_brothers 33 = .ok (.getfield 76, 3) := by decide +kernel
theorem dX12_brothers_36 : decode cX12_brothers 36 = .ok (.invokevirtual 113, 3) := by decide +kernel
theorem dX12_brothers_39 : decode cX12_brothers 39 = .ok (.aload_n 0, 1) := by decide +kernel
theorem dX12_brothers_40 : decode cX12_brothers 40 = .ok (.getfield 17, 3) := by decide +kernel
theorem dX12_brothers_43 : decode cX12_brothers 43 = .ok (.bipush 9, 2) := by decide +kernel
theorem dX12_brothers_45 : decode cX12_brothers 45 = .ok (.iload_n 1, 1) := by decide +kernel
theorem dX12_brothers_46 : decode cX12_brothers 46 = .ok (.iastore, 1) := by decide +kernel
theorem dX12_brothers_47 : decode cX12_brothers 47 = .ok (.aload_n 0, 1) := by decide +kernel
theorem dX12_brothers_48 : decode cX12_brothers 48 = .ok (.getfield 17, 3) := by decide +kernel
theorem dX12_brothers_51 : decode cX12_brothers 51 = .ok (.bipush 10, 2) := by decide +kernel
theorem dX12_brothers_53 : decode cX12_brothers 53 = .ok (.aload_n 0, 1) := by decide +kernel
theorem dX12_brothers_54 : decode cX12_brothers 54 = .ok (.iconst 0, 1) := by decide +kernel
theorem dX12_brothers_55 : decode cX12_brothers 55 = .ok (.iconst 3, 1) := by decide +kernel
theorem dX12_brothers_56 : decode cX12_brothers 56 = .ok (.invokevirtual 123, 3) := by decide +kernel
theorem dX12_brothers_59 : decode cX12_brothers 59 = .ok (.iastore, 1) := by decide +kernel
theorem dX12_brothers_60 : decode cX12_brothers 60 = .ok (.return_, 1) := by decide +kernel
theorem dX12_adds_0 : decode cX12_adds 0 = .ok (.aload_n 0, 1) := by decide +kernel
theorem dX12_adds_1 : decode cX12_adds 1 = .ok (.getfield 17, 3) := by decide +kernel
theorem dX12_adds_4 : decode cX12_adds 4 = .ok (.iconst 0, 1) := by decide +kernel
theorem dX12_adds_5 : decode cX12_adds 5 = .ok (.iaload, 1) := by decide +kernel
theorem dX12_adds_6 : decode cX12_adds 6 = .ok (.iload_n 1, 1) := by decide +kernel
theorem dX12_adds_7 : decode cX12_adds 7 = .ok (.if_icmp .lt 4, 3) := by decide +kernel
theorem dX12_adds_10 : decode cX12_adds 10 = .ok (.return_, 1) := by decide +kernel
theorem dX12_adds_11 : decode cX12_adds 11 = .ok (.aload_n 0, 1) := by decide +kernel
theorem dX12_adds_12 : decode cX12_adds 12 = .ok (.getfield 17, 3) := by decide +kernel
theorem dX12_adds_15 : decode cX12_adds 15 = .ok (.iconst 1, 1) := by decide +kernel
theorem dX12_adds_16 : decode cX12_adds 16 = .ok (.iconst 3, 1) := by decide +kernel
theorem dX12_adds_17 : decode cX12_adds 17 = .ok (.aload_n 0, 1) := by decide +kernel
theorem dX12_adds_18 : decode cX12_adds 18 = .ok (.getfield 17, 3) := by decide +kernel
theorem dX12_adds_21 : decode cX12_adds 21 = .ok (.iconst 0, 1) := by decide +kernel
theorem dX12_adds_22 : decode cX12_adds 22 = .ok (.iaload, 1) := by decide +kernel
theorem dX12_adds_23 : decode cX12_adds 23 = .ok (.imul, 1) := by decide +kernel
theorem dX12_adds_24 : decode cX12_adds 24 = .ok (.iadd, 1) := by decide +kernel
theorem dX12_adds_25 : decode cX12_adds 25 = .ok (.iload_n 2, 1) := by decide +kernel
theorem dX12_adds_26 : decode cX12_adds 26 = .ok (.iastore, 1) := by decide +kernel
theorem dX12_adds_27 : decode cX12_adds 27 = .ok (.aload_n 0, 1) := by decide +kernel
theorem dX12_adds_28 : decode cX12_adds 28 = .ok (.getfield 17, 3) := by decide +kernel
theorem dX12_adds_31 : decode cX12_adds 31 = .ok (.iconst 2, 1) := by decide +kernel
theorem dX12_adds_32 : decode cX12_adds 32 = .ok (.iconst 3, 1) := by decide +kernel
theorem dX12_adds_33 : decode cX12_adds 33 = .ok (.aload_n 0, 1) := by decide +kernel
theorem dX12_adds_34 : decode cX12_adds 34 = .ok (.getfield 17, 3) := by decide +kernel
theorem dX12_adds_37 : decode cX12_adds 37 = .ok (.iconst 0, 1) := by decide +kernel
theorem dX12_adds_38 : decode cX12_adds 38 = .ok (.iaload, 1) := by decide +kernel
theorem dX12_adds_39 : decode cX12_adds 39 = .ok (.imul, 1) := by decide +kernel
theorem dX12_adds_40 : decode cX12_adds 40 = .ok (.iadd, 1) := by decide +kernel
theorem dX12_adds_41 : decode cX12_adds 41 = .ok (.iload_n 3, 1) := by decide +kernel
theorem dX12_adds_42 : decode cX12_adds 42 = .ok (.iastore, 1) := by decide +kernel
theorem dX12_adds_43 : decode cX12_adds 43 = .ok (.aload_n 0, 1) := by decide +kernel
theorem dX12_adds_44 : decode cX12_adds 44 = .ok (.getfield 17, 3) := by decide +kernel
theorem dX12_adds_47 : decode cX12_adds 47 = .ok (.iconst 3, 1) := by decide +kernel
theorem dX12_adds_48 : decode cX12_adds 48 = .ok (.iconst 3, 1) := by decide +kernel
theorem dX12_adds_49 : decode cX12_adds 49 = .ok (.aload_n 0, 1) := by decide +kernel
theorem dX12_adds_50 : decode cX12_adds 50 = .ok (.getfield 17, 3) := by decide +kernel
theorem dX12_adds_53 : decode cX12_adds 53 = .ok (.iconst 0, 1) := by decide +kernel
theorem dX12_adds_54 : decode cX12_adds 54 = .ok (.iaload, 1) := by decide +kernel
theorem dX12_adds_55 : decode cX12_adds 55 = .ok (.imul, 1) := by decide +kernel
theorem dX12_adds_56 : decode cX12_adds 56 = .ok (.iadd, 1) := by decide +kernel
theorem dX12_adds_57 : decode cX12_adds 57 = .ok (.iload 4, 2) := by decide +kernel
theorem dX12_adds_59 : decode cX12_adds 59 = .ok (.iastore, 1) := by decide +kernel
theorem dX12_adds_60 : decode cX12_adds 60 = .ok (.aload_n 0, 1) := by decide +kernel
theorem dX12_adds_61 : decode cX12_adds 61 = .ok (.getfield 17, 3) := by decide +kernel
theorem dX12_adds_64 : decode cX12_adds 64 = .ok (.iconst 0, 1) := by decide +kernel
theorem dX12_adds_65 : decode cX12_adds 65 = .ok (.dup2, 1) := by decide +kernel
theorem dX12_adds_66 : decode cX12_adds 66 = .ok (.iaload, 1) := by decide +kernel
theorem dX12_adds_67 : decode cX12_adds 67 = .ok (.iconst 1, 1) := by decide +kernel
theorem dX12_adds_68 : decode cX12_adds 68 = .ok (.iadd, 1) := by decide +kernel
theorem dX12_adds_69 : decode cX12_adds 69 = .ok (.iastore, 1) := by decide +kernel
theorem dX12_adds_70 : decode cX12_adds 70 = .ok (.return_, 1) := by decide +kernel
theorem dX12_dayLine_0 : decode cX12_dayLine 0 = .ok (.aload_n 0, 1) := by decide +kernel
theorem dX12_dayLine_1 : decode cX12_dayLine 1 = .ok (.getfield 76, 3) := by decide +kernel
theorem dX12_dayLine_4 : decode cX12_dayLine 4 = .ok (.istore_n 1, 1) := by decide +kernel
theorem dX12_dayLine_5 : decode cX12_dayLine 5 = .ok (.aload_n 0, 1) := by decide +kernel
theorem dX12_dayLine_6 : decode cX12_dayLine 6 = .ok (.bipush 13, 2) := by decide +kernel
theorem dX12_dayLine_8 : decode cX12_dayLine 8 = .ok (.bipush 22, 2) := by decide +kernel
theorem dX12_dayLine_10 : decode cX12_dayLine 10 = .ok (.invokevirtual 127, 3) := by decide +kernel
theorem dX12_dayLine_13 : decode cX12_dayLine 13 = .ok (.bipush 13, 2) := by decide +kernel
theorem dX12_dayLine_15 : decode cX12_dayLine 15 = .ok (.isub, 1) := by decide +kernel
theorem dX12_dayLine_16 : decode cX12_dayLine 16 = .ok (.istore_n 2, 1) := by decide +kernel
theorem dX12_dayLine_17 : decode cX12_dayLine 17 = .ok (.aload_n 0, 1) := by decide +kernel
theorem dX12_dayLine_18 : decode cX12_dayLine 18 = .ok (.getfield 102, 3) := by decide +kernel
theorem dX12_dayLine_21 : decode cX12_dayLine 21 = .ok (.ifCond .ne 20, 3) := by decide +kernel
theorem dX12_dayLine_24 : decode cX12_dayLine 24 = .ok (.aload_n 0, 1) := by decide +kernel
theorem dX12_dayLine_25 : decode cX12_dayLine 25 = .ok (.getfield 17, 3) := by decide +kernel
theorem dX12_dayLine_28 : decode cX12_dayLine 28 = .ok (.iconst 0, 1) := by decide +kernel
theorem dX12_dayLine_29 : decode cX12_dayLine 29 = .ok (.iaload, 1) := by decide +kernel
theorem dX12_dayLine_30 : decode cX12_dayLine 30 = .ok (.bipush 40, 2) := by decide +kernel
theorem dX12_dayLine_32 : decode cX12_dayLine 32 = .ok (.if_icmp .lt 9, 3) := by decide +kernel
theorem dX12_dayLine_35 : decode cX12_dayLine 35 = .ok (.aload_n 0, 1) := by decide +kernel
theorem dX12_dayLine_36 : decode cX12_dayLine 36 = .ok (.iconst 3, 1) := by decide +kernel
theorem dX12_dayLine_37 : decode cX12_dayLine 37 = .ok (.iload_n 1, 1) := by decide +kernel
theorem dX12_dayLine_38 : decode cX12_dayLine 38 = .ok (.invokevirtual 113, 3) := by decide +kernel
theorem dX12_dayLine_41 : decode cX12_dayLine 41 = .ok (.iconst (-1), 1) := by decide +kernel
theorem dX12_dayLine_42 : decode cX12_dayLine 42 = .ok (.istore_n 3, 1) := by decide +kernel
theorem dX12_dayLine_43 : decode cX12_dayLine 43 = .ok (.iconst (-1), 1) := by decide +kernel
theorem dX12_dayLine_44 : decode cX12_dayLine 44 = .ok (.istore 4, 2) := by decide +kernel
theorem dX12_dayLine_46 : decode cX12_dayLine 46 = .ok (.iload_n 2, 1) := by decide +kernel
theorem dX12_dayLine_47 : decode cX12_dayLine 47 = .ok (.ifCond .ne 19, 3) := by decide +kernel
theorem dX12_dayLine_50 : decode cX12_dayLine 50 = .ok (.aload_n 0, 1) := by decide +kernel
theorem dX12_dayLine_51 : decode cX12_dayLine 51 = .ok (.iconst 0, 1) := by decide +kernel
theorem dX12_dayLine_52 : decode cX12_dayLine 52 = .ok (.iconst 4, 1) := by decide +kernel
theorem dX12_dayLine_53 : decode cX12_dayLine 53 = .ok (.invokevirtual 123, 3) := by decide +kernel
theorem dX12_dayLine_56 : decode cX12_dayLine 56 = .ok (.istore_n 3, 1) := by decide +kernel
theorem dX12_dayLine_57 : decode cX12_dayLine 57 = .ok (.aload_n 0, 1) := by decide +kernel
theorem dX12_dayLine_58 : decode cX12_dayLine 58 = .ok (.iconst 0, 1) := by decide +kernel
theorem dX12_dayLine_59 : decode cX12_dayLine 59 = .ok (.bipush 15, 2) := by decide +kernel
theorem dX12_dayLine_61 : decode cX12_dayLine 61 = .ok (.invokevirtual 123, 3) := by decide +kernel
theorem dX12_dayLine_64 : decode cX12_dayLine 64 = .ok (.istore 4, 2) := by decide +kernel
theorem dX12_dayLine_66 : decode cX12_dayLine 66 = .ok (.iload_n 2, 1) := by decide +kernel
theorem dX12_dayLine_67 : decode cX12_dayLine 67 = .ok (.iconst 1, 1) := by decide +kernel
theorem dX12_dayLine_68 : decode cX12_dayLine 68 = .ok (.if_icmp .ne 10, 3) := by decide +kernel
theorem dX12_dayLine_71 : decode cX12_dayLine 71 = .ok (.aload_n 0, 1) := by decide +kernel
theorem dX12_dayLine_72 : decode cX12_dayLine 72 = .ok (.iconst 0, 1) := by decide +kernel
theorem dX12_dayLine_73 : decode cX12_dayLine 73 = .ok (.iconst 4, 1) := by decide +kernel
theorem dX12_dayLine_74 : decode cX12_dayLine 74 = .ok (.invokevirtual 123, 3) := by decide +kernel
theorem dX12_dayLine_77 : decode cX12_dayLine 77 = .ok (.istore_n 3, 1) := by decide +kernel
theorem dX12_dayLine_78 : decode cX12_dayLine 78 = .ok (.iload_n 2, 1) := by decide +kernel
theorem dX12_dayLine_79 : decode cX12_dayLine 79 = .ok (.iconst 2, 1) := by decide +kernel
theorem dX12_dayLine_80 : decode cX12_dayLine 80 = .ok (.if_icmp .ne 19, 3) := by decide +kernel
theorem dX12_dayLine_83 : decode cX12_dayLine 83 = .ok (.aload_n 0, 1) := by decide +kernel
theorem dX12_dayLine_84 : decode cX12_dayLine 84 = .ok (.iconst 0, 1) := by decide +kernel
theorem dX12_dayLine_85 : decode cX12_dayLine 85 = .ok (.iconst 3, 1) := by decide +kernel
theorem dX12_dayLine_86 : decode cX12_dayLine 86 = .ok (.invokevirtual 123, 3) := by decide +kernel
theorem dX12_dayLine_89 : decode cX12_dayLine 89 = .ok (.istore_n 3, 1) := by decide +kernel
theorem dX12_dayLine_90 : decode cX12_dayLine 90 = .ok (.aload_n 0, 1) := by decide +kernel
theorem dX12_dayLine_91 : decode cX12_dayLine 91 = .ok (.iconst 1, 1) := by decide +kernel
theorem dX12_dayLine_92 : decode cX12_dayLine 92 = .ok (.bipush 9, 2) := by decide +kernel
theorem dX12_dayLine_94 : decode cX12_dayLine 94 = .ok (.invokevirtual 123, 3) := by decide +kernel
theorem dX12_dayLine_97 : decode cX12_dayLine 97 = .ok (.istore 4, 2) := by decide +kernel
theorem dX12_dayLine_99 : decode cX12_dayLine 99 = .ok (.iload_n 2, 1) := by decide +kernel
theorem dX12_dayLine_100 : decode cX12_dayLine 100 = .ok (.bipush 8, 2) := by decide +kernel
theorem dX12_dayLine_102 : decode cX12_dayLine 102 = .ok (.if_icmp .ne 11, 3) := by decide +kernel
theorem dX12_dayLine_105 : decode cX12_dayLine 105 = .ok (.aload_n 0, 1) := by decide +kernel
theorem dX12_dayLine_106 : decode cX12_dayLine 106 = .ok (.iconst 0, 1) := by decide +kernel
theorem dX12_dayLine_107 : decode cX12_dayLine 107 = .ok (.bipush 15, 2) := by decide +kernel
theorem dX12_dayLine_109 : decode cX12_dayLine 109 = .ok (.invokevirtual 123, 3) := by decide +kernel
theorem dX12_dayLine_112 : decode cX12_dayLine 112 = .ok (.istore_n 3, 1) := by decide +kernel
theorem dX12_dayLine_113 : decode cX12_dayLine 113 = .ok (.iload_n 2, 1) := by decide +kernel
theorem dX12_dayLine_114 : decode cX12_dayLine 114 = .ok (.bipush 9, 2) := by decide +kernel
theorem dX12_dayLine_116 : decode cX12_dayLine 116 = .ok (.if_icmp .ne 11, 3) := by decide +kernel
theorem dX12_dayLine_119 : decode cX12_dayLine 119 = .ok (.aload_n 0, 1) := by decide +kernel
theorem dX12_dayLine_120 : decode cX12_dayLine 120 = .ok (.iconst 1, 1) := by decide +kernel
theorem dX12_dayLine_121 : decode cX12_dayLine 121 = .ok (.bipush 9, 2) := by decide +kernel
theorem dX12_dayLine_123 : decode cX12_dayLine 123 = .ok (.invokevirtual 123, 3) := by decide +kernel
theorem dX12_dayLine_126 : decode cX12_dayLine 126 = .ok (.istore_n 3, 1) := by decide +kernel
theorem dX12_dayLine_127 : decode cX12_dayLine 127 = .ok (.aload_n 0, 1) := by decide +kernel
theorem dX12_dayLine_128 : decode cX12_dayLine 128 = .ok (.bipush 40, 2) := by decide +kernel
theorem dX12_dayLine_130 : decode cX12_dayLine 130 = .ok (.iload_n 2, 1) := by decide +kernel
theorem dX12_dayLine_131 : decode cX12_dayLine 131 = .ok (.iload_n 3, 1) := by decide +kernel
theorem dX12_dayLine_132 : decode cX12_dayLine 132 = .ok (.iload 4, 2) := by decide +kernel
theorem dX12_dayLine_134 : decode cX12_dayLine 134 = .ok (.invokevirtual 140, 3) := by decide +kernel
theorem dX12_dayLine_137 : decode cX12_dayLine 137 = .ok (.aload_n 0, 1) := by decide +kernel
theorem dX12_dayLine_138 : decode cX12_dayLine 138 = .ok (.invokevirtual 137, 3) := by decide +kernel
theorem dX12_dayLine_141 : decode cX12_dayLine 141 = .ok (.return_, 1) := by decide +kernel
theorem dX12_nightLine_0 : decode cX12_nightLine 0 = .ok (.aload_n 0, 1) := by decide +kernel
theorem dX12_nightLine_1 : decode cX12_nightLine 1 = .ok (.getfield 76, 3) := by decide +kernel
theorem dX12_nightLine_4 : decode cX12_nightLine 4 = .ok (.istore_n 1, 1) := by decide +kernel
theorem dX12_nightLine_5 : decode cX12_nightLine 5 = .ok (.aload_n 0, 1) := by decide +kernel
theorem dX12_nightLine_6 : decode cX12_nightLine 6 = .ok (.bipush 23, 2) := by decide +kernel
theorem dX12_nightLine_8 : decode cX12_nightLine 8 = .ok (.bipush 23, 2) := by decide +kernel
theorem dX12_nightLine_10 : decode cX12_nightLine 10 = .ok (.invokevirtual 127, 3) := by decide +kernel
theorem dX12_nightLine_13 : decode cX12_nightLine 13 = .ok (.bipush 23, 2) := by decide +kernel
theorem dX12_nightLine_15 : decode cX12_nightLine 15 = .ok (.if_icmp .ne 15, 3) := by decide +kernel
theorem dX12_nightLine_18 : decode cX12_nightLine 18 = .ok (.aload_n 0, 1) := by decide +kernel
theorem dX12_nightLine_19 : decode cX12_nightLine 19 = .ok (.iload_n 1, 1) := by decide +kernel
theorem dX12_nightLine_20 : decode cX12_nightLine 20 = .ok (.iconst 0, 1) := by decide +kernel
theorem dX12_nightLine_21 : decode cX12_nightLine 21 = .ok (.bipush 8, 2) := by decide +kernel
theorem dX12_nightLine_23 : decode cX12_nightLine 23 = .ok (.iconst 1, 1) := by decide +kernel
theorem dX12_nightLine_24 : decode cX12_nightLine 24 = .ok (.iconst 2, 1) := by decide +kernel
theorem dX12_nightLine_25 : decode cX12_nightLine 25 = .ok (.bipush 20, 2) := by decide +kernel
theorem dX12_nightLine_27 : decode cX12_nightLine 27 = .ok (.invokevirtual 130, 3) := by decide +kernel
theorem dX12_nightLine_30 : decode cX12_nightLine 30 = .ok (.aload_n 0, 1) := by decide +kernel
theorem dX12_nightLine_31 : decode cX12_nightLine 31 = .ok (.invokevirtual 137, 3) := by decide +kernel
theorem dX12_nightLine_34 : decode cX12_nightLine 34 = .ok (.return_, 1) := by decide +kernel
theorem dX12_fogLine_0 : decode cX12_fogLine 0 = .ok (.aload_n 0, 1) := by decide +kernel
theorem dX12_fogLine_1 : decode cX12_fogLine 1 = .ok (.getfield 76, 3) := by decide +kernel
theorem dX12_fogLine_4 : decode cX12_fogLine 4 = .ok (.istore_n 1, 1) := by decide +kernel
theorem dX12_fogLine_5 : decode cX12_fogLine 5 = .ok (.aload_n 0, 1) := by decide +kernel
theorem dX12_fogLine_6 : decode cX12_fogLine 6 = .ok (.getfield 17, 3) := by decide +kernel
theorem dX12_fogLine_9 : decode cX12_fogLine 9 = .ok (.iconst 0, 1) := by decide +kernel
theorem dX12_fogLine_10 : decode cX12_fogLine 10 = .ok (.iaload, 1) := by decide +kernel
theorem dX12_fogLine_11 : decode cX12_fogLine 11 = .ok (.bipush 8, 2) := by decide +kernel
theorem dX12_fogLine_13 : decode cX12_fogLine 13 = .ok (.if_icmp .ge 7, 3) := by decide +kernel
theorem dX12_fogLine_16 : decode cX12_fogLine 16 = .ok (.iconst 1, 1) := by decide +kernel
theorem dX12_fogLine_17 : decode cX12_fogLine 17 = .ok (.goto 4, 3) := by decide +kernel
theorem dX12_fogLine_20 : decode cX12_fogLine 20 = .ok (.iconst 0, 1) := by decide +kernel
theorem dX12_fogLine_21 : decode cX12_fogLine 21 = .ok (.istore_n 2, 1) := by decide +kernel
theorem dX12_fogLine_22 : decode cX12_fogLine 22 = .ok (.aload_n 0, 1) := by decide +kernel
theorem dX12_fogLine_23 : decode cX12_fogLine 23 = .ok (.bipush 24, 2) := by decide +kernel
theorem dX12_fogLine_25 : decode cX12_fogLine 25 = .ok (.bipush 24, 2) := by decide +kernel
theorem dX12_fogLine_27 : decode cX12_fogLine 27 = .ok (.invokevirtual 127, 3) := by decide +kernel
theorem dX12_fogLine_30 : decode cX12_fogLine 30 = .ok (.bipush 24, 2) := by decide +kernel
theorem dX12_fogLine_32 : decode cX12_fogLine 32 = .ok (.if_icmp .ne 122, 3) := by decide +kernel
theorem dX12_fogLine_35 : decode cX12_fogLine 35 = .ok (.iload_n 2, 1) := by decide +kernel
theorem dX12_fogLine_36 : decode cX12_fogLine 36 = .ok (.ifCond .ne 9, 3) := by decide +kernel
theorem dX12_fogLine_39 : decode cX12_fogLine 39 = .ok (.aload_n 0, 1) := by decide +kernel
theorem dX12_fogLine_40 : decode cX12_fogLine 40 = .ok (.iconst 3, 1) := by decide +kernel
theorem dX12_fogLine_41 : decode cX12_fogLine 41 = .ok (.iload_n 1, 1) := by decide +kernel
theorem dX12_fogLine_42 : decode cX12_fogLine 42 = .ok (.invokevirtual 113, 3) := by decide +kernel
theorem dX12_fogLine_45 : decode cX12_fogLine 45 = .ok (.iconst 0, 1) := by decide +kernel
theorem dX12_fogLine_46 : decode cX12_fogLine 46 = .ok (.istore_n 3, 1) := by decide +kernel
theorem dX12_fogLine_47 : decode cX12_fogLine 47 = .ok (.iconst 1, 1) := by decide +kernel
theorem dX12_fogLine_48 : decode cX12_fogLine 48 = .ok (.istore 4, 2) := by decide +kernel
theorem dX12_fogLine_50 : decode cX12_fogLine 50 = .ok (.aload_n 0, 1) := by decide +kernel
theorem dX12_fogLine_51 : decode cX12_fogLine 51 = .ok (.getfield 102, 3) := by decide +kernel
theorem dX12_fogLine_54 : decode cX12_fogLine 54 = .ok (.ifCond .ne 72, 3) := by decide +kernel
theorem dX12_fogLine_57 : decode cX12_fogLine 57 = .ok (.iload 4, 2) := by decide +kernel
theorem dX12_fogLine_59 : decode cX12_fogLine 59 = .ok (.ifCond .ne 11, 3) := by decide +kernel
theorem dX12_fogLine_62 : decode cX12_fogLine 62 = .ok (.aload_n 0, 1) := by decide +kernel
theorem dX12_fogLine_63 : decode cX12_fogLine 63 = .ok (.getfield 79, 3) := by decide +kernel
theorem dX12_fogLine_66 : decode cX12_fogLine 66 = .ok (.iconst 1, 1) := by decide +kernel
theorem dX12_fogLine_67 : decode cX12_fogLine 67 = .ok (.if_icmp .ne 59, 3) := by decide +kernel
theorem dX12_fogLine_70 : decode cX12_fogLine 70 = .ok (.aload_n 0, 1) := by decide +kernel
theorem dX12_fogLine_71 : decode cX12_fogLine 71 = .ok (.getfield 79, 3) := by decide +kernel
theorem dX12_fogLine_74 : decode cX12_fogLine 74 = .ok (.iconst 1, 1) := by decide +kernel
theorem dX12_fogLine_75 : decode cX12_fogLine 75 = .ok (.if_icmp .ne 33, 3) := by decide +kernel
theorem dX12_fogLine_78 : decode cX12_fogLine 78 = .ok (.aload_n 0, 1) := by decide +kernel
theorem dX12_fogLine_79 : decode cX12_fogLine 79 = .ok (.getfield 99, 3) := by decide +kernel
theorem dX12_fogLine_82 : decode cX12_fogLine 82 = .ok (.bipush 8, 2) := by decide +kernel
theorem dX12_fogLine_84 : decode cX12_fogLine 84 = .ok (.if_icmp .ge 24, 3) := by decide +kernel
theorem dX12_fogLine_87 : decode cX12_fogLine 87 = .ok (.iload_n 3, 1) := by decide +kernel
theorem dX12_fogLine_88 : decode cX12_fogLine 88 = .ok (.aload_n 0, 1) := by decide +kernel
theorem dX12_fogLine_89 : decode cX12_fogLine 89 = .ok (.getfield 99, 3) := by decide +kernel
theorem dX12_fogLine_92 : decode cX12_fogLine 92 = .ok (.ishr, 1) := by decide +kernel
theorem dX12_fogLine_93 : decode cX12_fogLine 93 = .ok (.iconst 1, 1) := by decide +kernel
theorem dX12_fogLine_94 : decode cX12_fogLine 94 = .ok (.iand, 1) := by decide +kernel
theorem dX12_fogLine_95 : decode cX12_fogLine 95 = .ok (.iconst 1, 1) := by decide +kernel
theorem dX12_fogLine_96 : decode cX12_fogLine 96 = .ok (.if_icmp .ne 12, 3) := by decide +kernel
theorem dX12_fogLine_99 : decode cX12_fogLine 99 = .ok (.aload_n 0, 1) := by decide +kernel
theorem dX12_fogLine_100 : decode cX12_fogLine 100 = .ok (.iconst 2, 1) := by decide +kernel
theorem dX12_fogLine_101 : decode cX12_fogLine 101 = .ok (.aload_n 0, 1) := by decide +kernel
theorem dX12_fogLine_102 : decode cX12_fogLine 102 = .ok (.getfield 76, 3) := by decide +kernel
theorem dX12_fogLine_105 : decode cX12_fogLine 105 = .ok (.invokevirtual 113, 3) := by decide +kernel
theorem dX12_fogLine_108 : decode cX12_fogLine 108 = .ok (.iload_n 3, 1) := by decide +kernel
theorem dX12_fogLine_109 : decode cX12_fogLine 109 = .ok (.iconst 1, 1) := by decide +kernel
theorem dX12_fogLine_110 : decode cX12_fogLine 110 = .ok (.aload_n 0, 1) := by decide +kernel
theorem dX12_fogLine_111 : decode cX12_fogLine 111 = .ok (.iconst 0, 1) := by decide +kernel
theorem dX12_fogLine_112 : decode cX12_fogLine 112 = .ok (.bipush 7, 2) := by decide +kernel
theorem dX12_fogLine_114 : decode cX12_fogLine 114 = .ok (.invokevirtual 123, 3) := by decide +kernel
theorem dX12_fogLine_117 : decode cX12_fogLine 117 = .ok (.ishl, 1) := by decide +kernel
theorem dX12_fogLine_118 : decode cX12_fogLine 118 = .ok (.ior, 1) := by decide +kernel
theorem dX12_fogLine_119 : decode cX12_fogLine 119 = .ok (.istore_n 3, 1) := by decide +kernel
theorem dX12_fogLine_120 : decode cX12_fogLine 120 = .ok (.iconst 0, 1) := by decide +kernel
theorem dX12_fogLine_121 : decode cX12_fogLine 121 = .ok (.istore 4, 2) := by decide +kernel
theorem dX12_fogLine_123 : decode cX12_fogLine 123 = .ok (.goto (-73), 3) := by decide +kernel
theorem dX12_fogLine_126 : decode cX12_fogLine 126 = .ok (.iload_n 2, 1) := by decide +kernel
theorem dX12_fogLine_127 : decode cX12_fogLine 127 = .ok (.ifCond .eq 27, 3) := by decide +kernel
theorem dX12_fogLine_130 : decode cX12_fogLine 130 = .ok (.aload_n 0, 1) := by decide +kernel
theorem dX12_fogLine_131 : decode cX12_fogLine 131 = .ok (.getfield 17, 3) := by decide +kernel
theorem dX12_fogLine_134 : decode cX12_fogLine 134 = .ok (.iconst 1, 1) := by decide +kernel
theorem dX12_fogLine_135 : decode cX12_fogLine 135 = .ok (.aload_n 0, 1) := by decide +kernel
theorem dX12_fogLine_136 : decode cX12_fogLine 136 = .ok (.getfield 17, 3) := by decide +kernel
theorem dX12_fogLine_139 : decode cX12_fogLine 139 = .ok (.iconst 0, 1) := by decide +kernel
theorem dX12_fogLine_140 : decode cX12_fogLine 140 = .ok (.iaload, 1) := by decide +kernel
theorem dX12_fogLine_141 : decode cX12_fogLine 141 = .ok (.iadd, 1) := by decide +kernel
theorem dX12_fogLine_142 : decode cX12_fogLine 142 = .ok (.iload_n 3, 1) := by decide +kernel
theorem dX12_fogLine_143 : decode cX12_fogLine 143 = .ok (.iastore, 1) := by decide +kernel
theorem dX12_fogLine_144 : decode cX12_fogLine 144 = .ok (.aload_n 0, 1) := by decide +kernel
theorem dX12_fogLine_145 : decode cX12_fogLine 145 = .ok (.getfield 17, 3) := by decide +kernel
theorem dX12_fogLine_148 : decode cX12_fogLine 148 = .ok (.iconst 0, 1) := by decide +kernel
theorem dX12_fogLine_149 : decode cX12_fogLine 149 = .ok (.dup2, 1) := by decide +kernel
theorem dX12_fogLine_150 : decode cX12_fogLine 150 = .ok (.iaload, 1) := by decide +kernel
theorem dX12_fogLine_151 : decode cX12_fogLine 151 = .ok (.iconst 1, 1) := by decide +kernel
theorem dX12_fogLine_152 : decode cX12_fogLine 152 = .ok (.iadd, 1) := by decide +kernel
theorem dX12_fogLine_153 : decode cX12_fogLine 153 = .ok (.iastore, 1) := by decide +kernel
theorem dX12_fogLine_154 : decode cX12_fogLine 154 = .ok (.aload_n 0, 1) := by decide +kernel
theorem dX12_fogLine_155 : decode cX12_fogLine 155 = .ok (.invokevirtual 137, 3) := by decide +kernel
theorem dX12_fogLine_158 : decode cX12_fogLine 158 = .ok (.return_, 1) := by decide +kernel
theorem dX12_lawLine_0 : decode cX12_lawLine 0 = .ok (.aload_n 0, 1) := by decide +kernel
theorem dX12_lawLine_1 : decode cX12_lawLine 1 = .ok (.getfield 76, 3) := by decide +kernel
theorem dX12_lawLine_4 : decode cX12_lawLine 4 = .ok (.istore_n 1, 1) := by decide +kernel
theorem dX12_lawLine_5 : decode cX12_lawLine 5 = .ok (.aload_n 0, 1) := by decide +kernel
theorem dX12_lawLine_6 : decode cX12_lawLine 6 = .ok (.getfield 93, 3) := by decide +kernel
theorem dX12_lawLine_9 : decode cX12_lawLine 9 = .ok (.bipush 8, 2) := by decide +kernel
theorem dX12_lawLine_11 : decode cX12_lawLine 11 = .ok (.if_icmp .ne 17, 3) := by decide +kernel
theorem dX12_lawLine_14 : decode cX12_lawLine 14 = .ok (.aload_n 0, 1) := by decide +kernel
theorem dX12_lawLine_15 : decode cX12_lawLine 15 = .ok (.bipush 8, 2) := by decide +kernel
theorem dX12_lawLine_17 : decode cX12_lawLine 17 = .ok (.bipush 8, 2) := by decide +kernel
theorem dX12_lawLine_19 : decode cX12_lawLine 19 = .ok (.invokevirtual 127, 3) := by decide +kernel
theorem dX12_lawLine_22 : decode cX12_lawLine 22 = .ok (.bipush 8, 2) := by decide +kernel
theorem dX12_lawLine_24 : decode cX12_lawLine 24 = .ok (.isub, 1) := by decide +kernel
theorem dX12_lawLine_25 : decode cX12_lawLine 25 = .ok (.goto 16, 3) := by decide +kernel
theorem dX12_lawLine_28 : decode cX12_lawLine 28 = .ok (.aload_n 0, 1) := by decide +kernel
theorem dX12_lawLine_29 : decode cX12_lawLine 29 = .ok (.bipush 25, 2) := by decide +kernel
theorem dX12_lawLine_31 : decode cX12_lawLine 31 = .ok (.bipush 29, 2) := by decide +kernel
theorem dX12_lawLine_33 : decode cX12_lawLine 33 = .ok (.invokevirtual 127, 3) := by decide +kernel
theorem dX12_lawLine_36 : decode cX12_lawLine 36 = .ok (.bipush 25, 2) := by decide +kernel
theorem dX12_lawLine_38 : decode cX12_lawLine 38 = .ok (.isub, 1) := by decide +kernel
theorem dX12_lawLine_39 : decode cX12_lawLine 39 = .ok (.iconst 1, 1) := by decide +kernel
theorem dX12_lawLine_40 : decode cX12_lawLine 40 = .ok (.iadd, 1) := by decide +kernel
theorem dX12_lawLine_41 : decode cX12_lawLine 41 = .ok (.istore_n 2, 1) := by decide +kernel
theorem dX12_lawLine_42 : decode cX12_lawLine 42 = .ok (.aload_n 0, 1) := by decide +kernel
theorem dX12_lawLine_43 : decode cX12_lawLine 43 = .ok (.getfield 102, 3) := by decide +kernel
theorem dX12_lawLine_46 : decode cX12_lawLine 46 = .ok (.ifCond .ne 20, 3) := by decide +kernel
theorem dX12_lawLine_49 : decode cX12_lawLine 49 = .ok (.aload_n 0, 1) := by decide +kernel
theorem dX12_lawLine_50 : decode cX12_lawLine 50 = .ok (.getfield 17, 3) := by decide +kernel
theorem dX12_lawLine_53 : decode cX12_lawLine 53 = .ok (.iconst 0, 1) := by decide +kernel
theorem dX12_lawLine_54 : decode cX12_lawLine 54 = .ok (.iaload, 1) := by decide +kernel
theorem dX12_lawLine_55 : decode cX12_lawLine 55 = .ok (.bipush 8, 2) := by decide +kernel
theorem dX12_lawLine_57 : decode cX12_lawLine 57 = .ok (.if_icmp .lt 9, 3) := by decide +kernel
theorem dX12_lawLine_60 : decode cX12_lawLine 60 = .ok (.aload_n 0, 1) := by decide +kernel
theorem dX12_lawLine_61 : decode cX12_lawLine 61 = .ok (.iconst 3, 1) := by decide +kernel
theorem dX12_lawLine_62 : decode cX12_lawLine 62 = .ok (.iload_n 1, 1) := by decide +kernel
theorem dX12_lawLine_63 : decode cX12_lawLine 63 = .ok (.invokevirtual 113, 3) := by decide +kernel
theorem dX12_lawLine_66 : decode cX12_lawLine 66 = .ok (.iconst (-1), 1) := by decide +kernel
theorem dX12_lawLine_67 : decode cX12_lawLine 67 = .ok (.istore_n 3, 1) := by decide +kernel
theorem dX12_lawLine_68 : decode cX12_lawLine 68 = .ok (.iconst (-1), 1) := by decide +kernel
theorem dX12_lawLine_69 : decode cX12_lawLine 69 = .ok (.istore 4, 2) := by decide +kernel
theorem dX12_lawLine_71 : decode cX12_lawLine 71 = .ok (.iload_n 2, 1) := by decide +kernel
theorem dX12_lawLine_72 : decode cX12_lawLine 72 = .ok (.ifCond .eq 8, 3) := by decide +kernel
theorem dX12_lawLine_75 : decode cX12_lawLine 75 = .ok (.iload_n 2, 1) := by decide +kernel
theorem dX12_lawLine_76 : decode cX12_lawLine 76 = .ok (.iconst 3, 1) := by decide +kernel
theorem dX12_lawLine_77 : decode cX12_lawLine 77 = .ok (.if_icmp .ne 11, 3) := by decide +kernel
theorem dX12_lawLine_80 : decode cX12_lawLine 80 = .ok (.aload_n 0, 1) := by decide +kernel
theorem dX12_lawLine_81 : decode cX12_lawLine 81 = .ok (.iconst 0, 1) := by decide +kernel
theorem dX12_lawLine_82 : decode cX12_lawLine 82 = .ok (.bipush 9, 2) := by decide +kernel
theorem dX12_lawLine_84 : decode cX12_lawLine 84 = .ok (.invokevirtual 123, 3) := by decide +kernel
theorem dX12_lawLine_87 : decode cX12_lawLine 87 = .ok (.istore_n 3, 1) := by decide +kernel
theorem dX12_lawLine_88 : decode cX12_lawLine 88 = .ok (.iload_n 2, 1) := by decide +kernel
theorem dX12_lawLine_89 : decode cX12_lawLine 89 = .ok (.iconst 1, 1) := by decide +kernel
theorem dX12_lawLine_90 : decode cX12_lawLine 90 = .ok (.if_icmp .ne 12, 3) := by decide +kernel
theorem dX12_lawLine_93 : decode cX12_lawLine 93 = .ok (.aload_n 0, 1) := by decide +kernel
theorem dX12_lawLine_94 : decode cX12_lawLine 94 = .ok (.iconst 0, 1) := by decide +kernel
theorem dX12_lawLine_95 : decode cX12_lawLine 95 = .ok (.sipush 999, 3) := by decide +kernel
theorem dX12_lawLine_98 : decode cX12_lawLine 98 = .ok (.invokevirtual 123, 3) := by decide +kernel
theorem dX12_lawLine_101 : decode cX12_lawLine 101 = .ok (.istore_n 3, 1) := by decide +kernel
theorem dX12_lawLine_102 : decode cX12_lawLine 102 = .ok (.iload_n 2, 1) := by decide +kernel
theorem dX12_lawLine_103 : decode cX12_lawLine 103 = .ok (.iconst 2, 1) := by decide +kernel
theorem dX12_lawLine_104 : decode cX12_lawLine 104 = .ok (.if_icmp .ne 10, 3) := by decide +kernel
theorem dX12_lawLine_107 : decode cX12_lawLine 107 = .ok (.aload_n 0, 1) := by decide +kernel
theorem dX12_lawLine_108 : decode cX12_lawLine 108 = .ok (.iconst 0, 1) := by decide +kernel
theorem dX12_lawLine_109 : decode cX12_lawLine 109 = .ok (.iconst 3, 1) := by decide +kernel
theorem dX12_lawLine_110 : decode cX12_lawLine 110 = .ok (.invokevirtual 123, 3) := by decide +kernel
theorem dX12_lawLine_113 : decode cX12_lawLine 113 = .ok (.istore_n 3, 1) := by decide +kernel
theorem dX12_lawLine_114 : decode cX12_lawLine 114 = .ok (.iload_n 2, 1) := by decide +kernel
theorem dX12_lawLine_115 : decode cX12_lawLine 115 = .ok (.iconst 1, 1) := by decide +kernel
theorem dX12_lawLine_116 : decode cX12_lawLine 116 = .ok (.if_icmp .eq 8, 3) := by decide +kernel
theorem dX12_lawLine_119 : decode cX12_lawLine 119 = .ok (.iload_n 2, 1) := by decide +kernel
theorem dX12_lawLine_120 : decode cX12_lawLine 120 = .ok (.iconst 2, 1) := by decide +kernel
theorem dX12_lawLine_121 : decode cX12_lawLine 121 = .ok (.if_icmp .ne 12, 3) := by decide +kernel
theorem dX12_lawLine_124 : decode cX12_lawLine 124 = .ok (.aload_n 0, 1) := by decide +kernel
theorem dX12_lawLine_125 : decode cX12_lawLine 125 = .ok (.iconst 0, 1) := by decide +kernel
theorem dX12_lawLine_126 : decode cX12_lawLine 126 = .ok (.bipush 99, 2) := by decide +kernel
theorem dX12_lawLine_128 : decode cX12_lawLine 128 = .ok (.invokevirtual 123, 3) := by decide +kernel
theorem dX12_lawLine_131 : decode cX12_lawLine 131 = .ok (.istore 4, 2) := by decide +kernel
theorem dX12_lawLine_133 : decode cX12_lawLine 133 = .ok (.iload_n 2, 1) := by decide +kernel
theorem dX12_lawLine_134 : decode cX12_lawLine 134 = .ok (.iconst 4, 1) := by decide +kernel
theorem dX12_lawLine_135 : decode cX12_lawLine 135 = .ok (.if_icmp .ne 11, 3) := by decide +kernel
theorem dX12_lawLine_138 : decode cX12_lawLine 138 = .ok (.aload_n 0, 1) := by decide +kernel
theorem dX12_lawLine_139 : decode cX12_lawLine 139 = .ok (.iconst 0, 1) := by decide +kernel
theorem dX12_lawLine_140 : decode cX12_lawLine 140 = .ok (.bipush 99, 2) := by decide +kernel
theorem dX12_lawLine_142 : decode cX12_lawLine 142 = .ok (.invokevirtual 123, 3) := by decide +kernel
theorem dX12_lawLine_145 : decode cX12_lawLine 145 = .ok (.istore_n 3, 1) := by decide +kernel
theorem dX12_lawLine_146 : decode cX12_lawLine 146 = .ok (.iload_n 2, 1) := by decide +kernel
theorem dX12_lawLine_147 : decode cX12_lawLine 147 = .ok (.iconst 5, 1) := by decide +kernel
theorem dX12_lawLine_148 : decode cX12_lawLine 148 = .ok (.if_icmp .ne 12, 3) := by decide +kernel
theorem dX12_lawLine_151 : decode cX12_lawLine 151 = .ok (.aload_n 0, 1) := by decide +kernel
theorem dX12_lawLine_152 : decode cX12_lawLine 152 = .ok (.iconst 0, 1) := by decide +kernel
theorem dX12_lawLine_153 : decode cX12_lawLine 153 = .ok (.sipush 999, 3) := by decide +kernel
theorem dX12_lawLine_156 : decode cX12_lawLine 156 = .ok (.invokevirtual 123, 3) := by decide +kernel
theorem dX12_lawLine_159 : decode cX12_lawLine 159 = .ok (.istore_n 3, 1) := by decide +kernel
theorem dX12_lawLine_160 : decode cX12_lawLine 160 = .ok (.aload_n 0, 1) := by decide +kernel
theorem dX12_lawLine_161 : decode cX12_lawLine 161 = .ok (.bipush 8, 2) := by decide +kernel
theorem dX12_lawLine_163 : decode cX12_lawLine 163 = .ok (.iload_n 2, 1) := by decide +kernel
theorem dX12_lawLine_164 : decode cX12_lawLine 164 = .ok (.iload_n 3, 1) := by decide +kernel
theorem dX12_lawLine_165 : decode cX12_lawLine 165 = .ok (.iload 4, 2) := by decide +kernel
theorem dX12_lawLine_167 : decode cX12_lawLine 167 = .ok (.invokevirtual 140, 3) := by decide +kernel
theorem dX12_lawLine_170 : decode cX12_lawLine 170 = .ok (.aload_n 0, 1) := by decide +kernel
theorem dX12_lawLine_171 : decode cX12_lawLine 171 = .ok (.invokevirtual 137, 3) := by decide +kernel
theorem dX12_lawLine_174 : decode cX12_lawLine 174 = .ok (.return_, 1) := by decide +kernel
theorem dX12_placeOf_0 : decode cX12_placeOf 0 = .ok (.iload_n 0, 1) := by decide +kernel
theorem dX12_placeOf_1 : decode cX12_placeOf 1 = .ok (.tableswitch 67 0 3 #[31, 40, 49, 58], 31) := by decide +kernel
theorem dX12_placeOf_32 : decode cX12_placeOf 32 = .ok (.sipush 610, 3) := by decide +kernel
theorem dX12_placeOf_35 : decode cX12_placeOf 35 = .ok (.bipush 109, 2) := by decide +kernel
theorem dX12_placeOf_37 : decode cX12_placeOf 37 = .ok (.iload_n 1, 1) := by decide +kernel
theorem dX12_placeOf_38 : decode cX12_placeOf 38 = .ok (.imul, 1) := by decide +kernel
theorem dX12_placeOf_39 : decode cX12_placeOf 39 = .ok (.iadd, 1) := by decide +kernel
theorem dX12_placeOf_40 : decode cX12_placeOf 40 = .ok (.ireturn, 1) := by decide +kernel
theorem dX12_placeOf_41 : decode cX12_placeOf 41 = .ok (.sipush 828, 3) := by decide +kernel
theorem dX12_placeOf_44 : decode cX12_placeOf 44 = .ok (.bipush 121, 2) := by decide +kernel
theorem dX12_placeOf_46 : decode cX12_placeOf 46 = .ok (.iload_n 1, 1) := by decide +kernel
theorem dX12_placeOf_47 : decode cX12_placeOf 47 = .ok (.imul, 1) := by decide +kernel
theorem dX12_placeOf_48 : decode cX12_placeOf 48 = .ok (.iadd, 1) := by decide +kernel
theorem dX12_placeOf_49 : decode cX12_placeOf 49 = .ok (.ireturn, 1) := by decide +kernel
theorem dX12_placeOf_50 : decode cX12_placeOf 50 = .ok (.sipush 1070, 3) := by decide +kernel
theorem dX12_placeOf_53 : decode cX12_placeOf 53 = .ok (.bipush 17, 2) := by decide +kernel
theorem dX12_placeOf_55 : decode cX12_placeOf 55 = .ok (.iload_n 1, 1) := by decide +kernel
theorem dX12_placeOf_56 : decode cX12_placeOf 56 = .ok (.imul, 1) := by decide +kernel
theorem dX12_placeOf_57 : decode cX12_placeOf 57 = .ok (.iadd, 1) := by decide +kernel
theorem dX12_placeOf_58 : decode cX12_placeOf 58 = .ok (.ireturn, 1) := by decide +kernel
theorem dX12_placeOf_59 : decode cX12_placeOf 59 = .ok (.sipush 1104, 3) := by decide +kernel
theorem dX12_placeOf_62 : decode cX12_placeOf 62 = .ok (.bipush 9, 2) := by decide +kernel
theorem dX12_placeOf_64 : decode cX12_placeOf 64 = .ok (.iload_n 1, 1) := by decide +kernel
theorem dX12_placeOf_65 : decode cX12_placeOf 65 = .ok (.imul, 1) := by decide +kernel
theorem dX12_placeOf_66 : decode cX12_placeOf 66 = .ok (.iadd, 1) := by decide +kernel
theorem dX12_placeOf_67 : decode cX12_placeOf 67 = .ok (.ireturn, 1) := by decide +kernel
theorem dX12_placeOf_68 : decode cX12_placeOf 68 = .ok (.sipush 1122, 3) := by decide +kernel
theorem dX12_placeOf_71 : decode cX12_placeOf 71 = .ok (.bipush 25, 2) := by decide +kernel
theorem dX12_placeOf_73 : decode cX12_placeOf 73 = .ok (.iload_n 1, 1) := by decide +kernel
theorem dX12_placeOf_74 : decode cX12_placeOf 74 = .ok (.imul, 1) := by decide +kernel
theorem dX12_placeOf_75 : decode cX12_placeOf 75 = .ok (.iadd, 1) := by decide +kernel
theorem dX12_placeOf_76 : decode cX12_placeOf 76 = .ok (.ireturn, 1) := by decide +kernel
theorem dX12_sizeOf_0 : decode cX12_sizeOf 0 = .ok (.iload_n 0, 1) := by decide +kernel
theorem dX12_sizeOf_1 : decode cX12_sizeOf 1 = .ok (.ifCond .ne 8, 3) := by decide +kernel
theorem dX12_sizeOf_4 : decode cX12_sizeOf 4 = .ok (.bipush 109, 2) := by decide +kernel
theorem dX12_sizeOf_6 : decode cX12_sizeOf 6 = .ok (.goto 35, 3) := by decide +kernel
theorem dX12_sizeOf_9 : decode cX12_sizeOf 9 = .ok (.iload_n 0, 1) := by decide +kernel
theorem dX12_sizeOf_10 : decode cX12_sizeOf 10 = .ok (.iconst 1, 1) := by decide +kernel
theorem dX12_sizeOf_11 : decode cX12_sizeOf 11 = .ok (.if_icmp .ne 8, 3) := by decide +kernel
theorem dX12_sizeOf_14 : decode cX12_sizeOf 14 = .ok (.bipush 121, 2) := by decide +kernel
theorem dX12_sizeOf_16 : decode cX12_sizeOf 16 = .ok (.goto 25, 3) := by decide +kernel
theorem dX12_sizeOf_19 : decode cX12_sizeOf 19 = .ok (.iload_n 0, 1) := by decide +kernel
theorem dX12_sizeOf_20 : decode cX12_sizeOf 20 = .ok (.iconst 2, 1) := by decide +kernel
theorem dX12_sizeOf_21 : decode cX12_sizeOf 21 = .ok (.if_icmp .ne 8, 3) := by decide +kernel
theorem dX12_sizeOf_24 : decode cX12_sizeOf 24 = .ok (.bipush 17, 2) := by decide +kernel
theorem dX12_sizeOf_26 : decode cX12_sizeOf 26 = .ok (.goto 15, 3) := by decide +kernel
theorem dX12_sizeOf_29 : decode cX12_sizeOf 29 = .ok (.iload_n 0, 1) := by decide +kernel
theorem dX12_sizeOf_30 : decode cX12_sizeOf 30 = .ok (.iconst 3, 1) := by decide +kernel
theorem dX12_sizeOf_31 : decode cX12_sizeOf 31 = .ok (.if_icmp .ne 8, 3) := by decide +kernel
theorem dX12_sizeOf_34 : decode cX12_sizeOf 34 = .ok (.bipush 9, 2) := by decide +kernel
theorem dX12_sizeOf_36 : decode cX12_sizeOf 36 = .ok (.goto 5, 3) := by decide +kernel
theorem dX12_sizeOf_39 : decode cX12_sizeOf 39 = .ok (.bipush 25, 2) := by decide +kernel
theorem dX12_sizeOf_41 : decode cX12_sizeOf 41 = .ok (.ireturn, 1) := by decide +kernel
theorem dX12_isOf_0 : decode cX12_isOf 0 = .ok (.iload_n 2, 1) := by decide +kernel
theorem dX12_isOf_1 : decode cX12_isOf 1 = .ok (.iconst 0, 1) := by decide +kernel
theorem dX12_isOf_2 : decode cX12_isOf 2 = .ok (.aload_n 0, 1) := by decide +kernel
theorem dX12_isOf_3 : decode cX12_isOf 3 = .ok (.getfield 7, 3) := by decide +kernel
theorem dX12_isOf_6 : decode cX12_isOf 6 = .ok (.iload_n 1, 1) := by decide +kernel
theorem dX12_isOf_7 : decode cX12_isOf 7 = .ok (.iaload, 1) := by decide +kernel
theorem dX12_isOf_8 : decode cX12_isOf 8 = .ok (.iconst 1, 1) := by decide +kernel
theorem dX12_isOf_9 : decode cX12_isOf 9 = .ok (.isub, 1) := by decide +kernel
theorem dX12_isOf_10 : decode cX12_isOf 10 = .ok (.invokestatic 109, 3) := by decide +kernel
theorem dX12_isOf_13 : decode cX12_isOf 13 = .ok (.ireturn, 1) := by decide +kernel
theorem dX12_clears_0 : decode cX12_clears 0 = .ok (.iconst 0, 1) := by decide +kernel
theorem dX12_clears_1 : decode cX12_clears 1 = .ok (.istore_n 2, 1) := by decide +kernel
theorem dX12_clears_2 : decode cX12_clears 2 = .ok (.iload_n 2, 1) := by decide +kernel
theorem dX12_clears_3 : decode cX12_clears 3 = .ok (.bipush 121, 2) := by decide +kernel
theorem dX12_clears_5 : decode cX12_clears 5 = .ok (.if_icmp .ge 16, 3) := by decide +kernel
theorem dX12_clears_8 : decode cX12_clears 8 = .ok (.aload_n 0, 1) := by decide +kernel
theorem dX12_clears_9 : decode cX12_clears 9 = .ok (.getfield 17, 3) := by decide +kernel
theorem dX12_clears_12 : decode cX12_clears 12 = .ok (.iload_n 2, 1) := by decide +kernel
theorem dX12_clears_13 : decode cX12_clears 13 = .ok (.iconst 0, 1) := by decide +kernel
theorem dX12_clears_14 : decode cX12_clears 14 = .ok (.iastore, 1) := by decide +kernel
theorem dX12_clears_15 : decode cX12_clears 15 = .ok (.iinc 2 1, 3) := by decide +kernel
theorem dX12_clears_18 : decode cX12_clears 18 = .ok (.goto (-16), 3) := by decide +kernel
theorem dX12_clears_21 : decode cX12_clears 21 = .ok (.iload_n 1, 1) := by decide +kernel
theorem dX12_clears_22 : decode cX12_clears 22 = .ok (.ifCond .eq 4, 3) := by decide +kernel
theorem dX12_clears_25 : decode cX12_clears 25 = .ok (.return_, 1) := by decide +kernel
theorem dX12_clears_26 : decode cX12_clears 26 = .ok (.aload_n 0, 1) := by decide +kernel
theorem dX12_clears_27 : decode cX12_clears 27 = .ok (.getfield 17, 3) := by decide +kernel
theorem dX12_clears_30 : decode cX12_clears 30 = .ok (.iconst 0, 1) := by decide +kernel
theorem dX12_clears_31 : decode cX12_clears 31 = .ok (.bipush 8, 2) := by decide +kernel
theorem dX12_clears_33 : decode cX12_clears 33 = .ok (.iastore, 1) := by decide +kernel
theorem dX12_clears_34 : decode cX12_clears 34 = .ok (.aload_n 0, 1) := by decide +kernel
theorem dX12_clears_35 : decode cX12_clears 35 = .ok (.getfield 17, 3) := by decide +kernel
theorem dX12_clears_38 : decode cX12_clears 38 = .ok (.iconst 1, 1) := by decide +kernel
theorem dX12_clears_39 : decode cX12_clears 39 = .ok (.bipush 8, 2) := by decide +kernel
theorem dX12_clears_41 : decode cX12_clears 41 = .ok (.iastore, 1) := by decide +kernel
theorem dX12_clears_42 : decode cX12_clears 42 = .ok (.aload_n 0, 1) := by decide +kernel
theorem dX12_clears_43 : decode cX12_clears 43 = .ok (.getfield 17, 3) := by decide +kernel
theorem dX12_clears_46 : decode cX12_clears 46 = .ok (.iconst 2, 1) := by decide +kernel
theorem dX12_clears_47 : decode cX12_clears 47 = .ok (.iconst 3, 1) := by decide +kernel
theorem dX12_clears_48 : decode cX12_clears 48 = .ok (.iastore, 1) := by decide +kernel
theorem dX12_clears_49 : decode cX12_clears 49 = .ok (.aload_n 0, 1) := by decide +kernel
theorem dX12_clears_50 : decode cX12_clears 50 = .ok (.getfield 17, 3) := by decide +kernel
theorem dX12_clears_53 : decode cX12_clears 53 = .ok (.iconst 3, 1) := by decide +kernel
theorem dX12_clears_54 : decode cX12_clears 54 = .ok (.iconst 2, 1) := by decide +kernel
theorem dX12_clears_55 : decode cX12_clears 55 = .ok (.iastore, 1) := by decide +kernel
theorem dX12_clears_56 : decode cX12_clears 56 = .ok (.aload_n 0, 1) := by decide +kernel
theorem dX12_clears_57 : decode cX12_clears 57 = .ok (.getfield 17, 3) := by decide +kernel
theorem dX12_clears_60 : decode cX12_clears 60 = .ok (.bipush 6, 2) := by decide +kernel
theorem dX12_clears_62 : decode cX12_clears 62 = .ok (.iconst 5, 1) := by decide +kernel
theorem dX12_clears_63 : decode cX12_clears 63 = .ok (.iastore, 1) := by decide +kernel
theorem dX12_clears_64 : decode cX12_clears 64 = .ok (.aload_n 0, 1) := by decide +kernel
theorem dX12_clears_65 : decode cX12_clears 65 = .ok (.getfield 17, 3) := by decide +kernel
theorem dX12_clears_68 : decode cX12_clears 68 = .ok (.bipush 7, 2) := by decide +kernel
theorem dX12_clears_70 : decode cX12_clears 70 = .ok (.iconst 4, 1) := by decide +kernel
theorem dX12_clears_71 : decode cX12_clears 71 = .ok (.iastore, 1) := by decide +kernel
theorem dX12_clears_72 : decode cX12_clears 72 = .ok (.aload_n 0, 1) := by decide +kernel
theorem dX12_clears_73 : decode cX12_clears 73 = .ok (.getfield 17, 3) := by decide +kernel
theorem dX12_clears_76 : decode cX12_clears 76 = .ok (.bipush 8, 2) := by decide +kernel
theorem dX12_clears_78 : decode cX12_clears 78 = .ok (.bipush 40, 2) := by decide +kernel
theorem dX12_clears_80 : decode cX12_clears 80 = .ok (.iastore, 1) := by decide +kernel
theorem dX12_clears_81 : decode cX12_clears 81 = .ok (.aload_n 0, 1) := by decide +kernel
theorem dX12_clears_82 : decode cX12_clears 82 = .ok (.getfield 17, 3) := by decide +kernel
theorem dX12_clears_85 : decode cX12_clears 85 = .ok (.bipush 9, 2) := by decide +kernel
theorem dX12_clears_87 : decode cX12_clears 87 = .ok (.iconst 1, 1) := by decide +kernel
theorem dX12_clears_88 : decode cX12_clears 88 = .ok (.iastore, 1) := by decide +kernel
theorem dX12_clears_89 : decode cX12_clears 89 = .ok (.aload_n 0, 1) := by decide +kernel
theorem dX12_clears_90 : decode cX12_clears 90 = .ok (.getfield 17, 3) := by decide +kernel
theorem dX12_clears_93 : decode cX12_clears 93 = .ok (.bipush 10, 2) := by decide +kernel
theorem dX12_clears_95 : decode cX12_clears 95 = .ok (.iconst 3, 1) := by decide +kernel
theorem dX12_clears_96 : decode cX12_clears 96 = .ok (.iastore, 1) := by decide +kernel
theorem dX12_clears_97 : decode cX12_clears 97 = .ok (.return_, 1) := by decide +kernel
theorem dX12_wrongAtEnd_0 : decode cX12_wrongAtEnd 0 = .ok (.aload_n 0, 1) := by decide +kernel
theorem dX12_wrongAtEnd_1 : decode cX12_wrongAtEnd 1 = .ok (.getfield 17, 3) := by decide +kernel
theorem dX12_wrongAtEnd_4 : decode cX12_wrongAtEnd 4 = .ok (.iconst 4, 1) := by decide +kernel
theorem dX12_wrongAtEnd_5 : decode cX12_wrongAtEnd 5 = .ok (.iaload, 1) := by decide +kernel
theorem dX12_wrongAtEnd_6 : decode cX12_wrongAtEnd 6 = .ok (.aload_n 0, 1) := by decide +kernel
theorem dX12_wrongAtEnd_7 : decode cX12_wrongAtEnd 7 = .ok (.getfield 17, 3) := by decide +kernel
theorem dX12_wrongAtEnd_10 : decode cX12_wrongAtEnd 10 = .ok (.iconst 2, 1) := by decide +kernel
theorem dX12_wrongAtEnd_11 : decode cX12_wrongAtEnd 11 = .ok (.iaload, 1) := by decide +kernel
theorem dX12_wrongAtEnd_12 : decode cX12_wrongAtEnd 12 = .ok (.iadd, 1) := by decide +kernel
theorem dX12_wrongAtEnd_13 : decode cX12_wrongAtEnd 13 = .ok (.aload_n 0, 1) := by decide +kernel
theorem dX12_wrongAtEnd_14 : decode cX12_wrongAtEnd 14 = .ok (.getfield 17, 3) := by decide +kernel
theorem dX12_wrongAtEnd_17 : decode cX12_wrongAtEnd 17 = .ok (.iconst 0, 1) := by decide +kernel
theorem dX12_wrongAtEnd_18 : decode cX12_wrongAtEnd 18 = .ok (.iaload, 1) := by decide +kernel
theorem dX12_wrongAtEnd_19 : decode cX12_wrongAtEnd 19 = .ok (.if_icmp .gt 25, 3) := by decide +kernel
theorem dX12_wrongAtEnd_22 : decode cX12_wrongAtEnd 22 = .ok (.aload_n 0, 1) := by decide +kernel
theorem dX12_wrongAtEnd_23 : decode cX12_wrongAtEnd 23 = .ok (.getfield 17, 3) := by decide +kernel
theorem dX12_wrongAtEnd_26 : decode cX12_wrongAtEnd 26 = .ok (.iconst 5, 1) := by decide +kernel
theorem dX12_wrongAtEnd_27 : decode cX12_wrongAtEnd 27 = .ok (.iaload, 1) := by decide +kernel
theorem dX12_wrongAtEnd_28 : decode cX12_wrongAtEnd 28 = .ok (.aload_n 0, 1) := by decide +kernel
theorem dX12_wrongAtEnd_29 : decode cX12_wrongAtEnd 29 = .ok (.getfield 17, 3) := by decide +kernel
theorem dX12_wrongAtEnd_32 : decode cX12_wrongAtEnd 32 = .ok (.iconst 3, 1) := by decide +kernel
theorem dX12_wrongAtEnd_33 : decode cX12_wrongAtEnd 33 = .ok (.iaload, 1) := by decide +kernel
theorem dX12_wrongAtEnd_34 : decode cX12_wrongAtEnd 34 = .ok (.iadd, 1) := by decide +kernel
theorem dX12_wrongAtEnd_35 : decode cX12_wrongAtEnd 35 = .ok (.aload_n 0, 1) := by decide +kernel
theorem dX12_wrongAtEnd_36 : decode cX12_wrongAtEnd 36 = .ok (.getfield 17, 3) := by decide +kernel
theorem dX12_wrongAtEnd_39 : decode cX12_wrongAtEnd 39 = .ok (.iconst 1, 1) := by decide +kernel
theorem dX12_wrongAtEnd_40 : decode cX12_wrongAtEnd 40 = .ok (.iaload, 1) := by decide +kernel
theorem dX12_wrongAtEnd_41 : decode cX12_wrongAtEnd 41 = .ok (.if_icmp .le 5, 3) := by decide +kernel
theorem dX12_wrongAtEnd_44 : decode cX12_wrongAtEnd 44 = .ok (.iconst 4, 1) := by decide +kernel
theorem dX12_wrongAtEnd_45 : decode cX12_wrongAtEnd 45 = .ok (.ireturn, 1) := by decide +kernel
theorem dX12_wrongAtEnd_46 : decode cX12_wrongAtEnd 46 = .ok (.aload_n 0, 1) := by decide +kernel
theorem dX12_wrongAtEnd_47 : decode cX12_wrongAtEnd 47 = .ok (.getfield 17, 3) := by decide +kernel
theorem dX12_wrongAtEnd_50 : decode cX12_wrongAtEnd 50 = .ok (.iconst 2, 1) := by decide +kernel
theorem dX12_wrongAtEnd_51 : decode cX12_wrongAtEnd 51 = .ok (.iaload, 1) := by decide +kernel
theorem dX12_wrongAtEnd_52 : decode cX12_wrongAtEnd 52 = .ok (.aload_n 0, 1) := by decide +kernel
theorem dX12_wrongAtEnd_53 : decode cX12_wrongAtEnd 53 = .ok (.getfield 17, 3) := by decide +kernel
theorem dX12_wrongAtEnd_56 : decode cX12_wrongAtEnd 56 = .ok (.iconst 3, 1) := by decide +kernel
theorem dX12_wrongAtEnd_57 : decode cX12_wrongAtEnd 57 = .ok (.iaload, 1) := by decide +kernel
theorem dX12_wrongAtEnd_58 : decode cX12_wrongAtEnd 58 = .ok (.imul, 1) := by decide +kernel
theorem dX12_wrongAtEnd_59 : decode cX12_wrongAtEnd 59 = .ok (.istore_n 1, 1) := by decide +kernel
theorem dX12_wrongAtEnd_60 : decode cX12_wrongAtEnd 60 = .ok (.iconst 1, 1) := by decide +kernel
theorem dX12_wrongAtEnd_61 : decode cX12_wrongAtEnd 61 = .ok (.istore_n 2, 1) := by decide +kernel
theorem dX12_wrongAtEnd_62 : decode cX12_wrongAtEnd 62 = .ok (.iconst 0, 1) := by decide +kernel
theorem dX12_wrongAtEnd_63 : decode cX12_wrongAtEnd 63 = .ok (.istore_n 3, 1) := by decide +kernel
theorem dX12_wrongAtEnd_64 : decode cX12_wrongAtEnd 64 = .ok (.iload_n 3, 1) := by decide +kernel
theorem dX12_wrongAtEnd_65 : decode cX12_wrongAtEnd 65 = .ok (.aload_n 0, 1) := by decide +kernel
theorem dX12_wrongAtEnd_66 : decode cX12_wrongAtEnd 66 = .ok (.getfield 17, 3) := by decide +kernel
theorem dX12_wrongAtEnd_69 : decode cX12_wrongAtEnd 69 = .ok (.bipush 12, 2) := by decide +kernel
theorem dX12_wrongAtEnd_71 : decode cX12_wrongAtEnd 71 = .ok (.iaload, 1) := by decide +kernel
theorem dX12_wrongAtEnd_72 : decode cX12_wrongAtEnd 72 = .ok (.if_icmp .ge 34, 3) := by decide +kernel
theorem dX12_wrongAtEnd_75 : decode cX12_wrongAtEnd 75 = .ok (.iload_n 2, 1) := by decide +kernel
theorem dX12_wrongAtEnd_76 : decode cX12_wrongAtEnd 76 = .ok (.ifCond .eq 22, 3) := by decide +kernel
theorem dX12_wrongAtEnd_79 : decode cX12_wrongAtEnd 79 = .ok (.aload_n 0, 1) := by decide +kernel
theorem dX12_wrongAtEnd_80 : decode cX12_wrongAtEnd 80 = .ok (.getfield 17, 3) := by decide +kernel
theorem dX12_wrongAtEnd_83 : decode cX12_wrongAtEnd 83 = .ok (.bipush 56, 2) := by decide +kernel
theorem dX12_wrongAtEnd_85 : decode cX12_wrongAtEnd 85 = .ok (.iconst 2, 1) := by decide +kernel
theorem dX12_wrongAtEnd_86 : decode cX12_wrongAtEnd 86 = .ok (.iload_n 3, 1) := by decide +kernel
theorem dX12_wrongAtEnd_87 : decode cX12_wrongAtEnd 87 = .ok (.imul, 1) := by decide +kernel
theorem dX12_wrongAtEnd_88 : decode cX12_wrongAtEnd 88 = .ok (.iadd, 1) := by decide +kernel
theorem dX12_wrongAtEnd_89 : decode cX12_wrongAtEnd 89 = .ok (.iaload, 1) := by decide +kernel
theorem dX12_wrongAtEnd_90 : decode cX12_wrongAtEnd 90 = .ok (.iload_n 1, 1) := by decide +kernel
theorem dX12_wrongAtEnd_91 : decode cX12_wrongAtEnd 91 = .ok (.if_icmp .ge 7, 3) := by decide +kernel
theorem dX12_wrongAtEnd_94 : decode cX12_wrongAtEnd 94 = .ok (.iconst 1, 1) := by decide +kernel
theorem dX12_wrongAtEnd_95 : decode cX12_wrongAtEnd 95 = .ok (.goto 4, 3) := by decide +kernel
theorem dX12_wrongAtEnd_98 : decode cX12_wrongAtEnd 98 = .ok (.iconst 0, 1) := by decide +kernel
theorem dX12_wrongAtEnd_99 : decode cX12_wrongAtEnd 99 = .ok (.istore_n 2, 1) := by decide +kernel
theorem dX12_wrongAtEnd_100 : decode cX12_wrongAtEnd 100 = .ok (.iinc 3 1, 3) := by decide +kernel
theorem dX12_wrongAtEnd_103 : decode cX12_wrongAtEnd 103 = .ok (.goto (-39), 3) := by decide +kernel
theorem dX12_wrongAtEnd_106 : decode cX12_wrongAtEnd 106 = .ok (.iconst 0, 1) := by decide +kernel
theorem dX12_wrongAtEnd_107 : decode cX12_wrongAtEnd 107 = .ok (.istore_n 3, 1) := by decide +kernel
theorem dX12_wrongAtEnd_108 : decode cX12_wrongAtEnd 108 = .ok (.iload_n 3, 1) := by decide +kernel
theorem dX12_wrongAtEnd_109 : decode cX12_wrongAtEnd 109 = .ok (.aload_n 0, 1) := by decide +kernel
theorem dX12_wrongAtEnd_110 : decode cX12_wrongAtEnd 110 = .ok (.getfield 17, 3) := by decide +kernel
theorem dX12_wrongAtEnd_113 : decode cX12_wrongAtEnd 113 = .ok (.bipush 15, 2) := by decide +kernel
theorem dX12_wrongAtEnd_115 : decode cX12_wrongAtEnd 115 = .ok (.iaload, 1) := by decide +kernel
theorem dX12_wrongAtEnd_116 : decode cX12_wrongAtEnd 116 = .ok (.if_icmp .ge 34, 3) := by decide +kernel
theorem dX12_wrongAtEnd_119 : decode cX12_wrongAtEnd 119 = .ok (.iload_n 2, 1) := by decide +kernel
theorem dX12_wrongAtEnd_120 : decode cX12_wrongAtEnd 120 = .ok (.ifCond .eq 22, 3) := by decide +kernel
theorem dX12_wrongAtEnd_123 : decode cX12_wrongAtEnd 123 = .ok (.aload_n 0, 1) := by decide +kernel
theorem dX12_wrongAtEnd_124 : decode cX12_wrongAtEnd 124 = .ok (.getfield 17, 3) := by decide +kernel
theorem dX12_wrongAtEnd_127 : decode cX12_wrongAtEnd 127 = .ok (.bipush 101, 2) := by decide +kernel
theorem dX12_wrongAtEnd_129 : decode cX12_wrongAtEnd 129 = .ok (.iconst 2, 1) := by decide +kernel
theorem dX12_wrongAtEnd_130 : decode cX12_wrongAtEnd 130 = .ok (.iload_n 3, 1) := by decide +kernel
theorem dX12_wrongAtEnd_131 : decode cX12_wrongAtEnd 131 = .ok (.imul, 1) := by decide +kernel
theorem dX12_wrongAtEnd_132 : decode cX12_wrongAtEnd 132 = .ok (.iadd, 1) := by decide +kernel
theorem dX12_wrongAtEnd_133 : decode cX12_wrongAtEnd 133 = .ok (.iaload, 1) := by decide +kernel
theorem dX12_wrongAtEnd_134 : decode cX12_wrongAtEnd 134 = .ok (.iload_n 1, 1) := by decide +kernel
theorem dX12_wrongAtEnd_135 : decode cX12_wrongAtEnd 135 = .ok (.if_icmp .ge 7, 3) := by decide +kernel
theorem dX12_wrongAtEnd_138 : decode cX12_wrongAtEnd 138 = .ok (.iconst 1, 1) := by decide +kernel
theorem dX12_wrongAtEnd_139 : decode cX12_wrongAtEnd 139 = .ok (.goto 4, 3) := by decide +kernel
theorem dX12_wrongAtEnd_142 : decode cX12_wrongAtEnd 142 = .ok (.iconst 0, 1) := by decide +kernel
theorem dX12_wrongAtEnd_143 : decode cX12_wrongAtEnd 143 = .ok (.istore_n 2, 1) := by decide +kernel
theorem dX12_wrongAtEnd_144 : decode cX12_wrongAtEnd 144 = .ok (.iinc 3 1, 3) := by decide +kernel
theorem dX12_wrongAtEnd_147 : decode cX12_wrongAtEnd 147 = .ok (.goto (-39), 3) := by decide +kernel
theorem dX12_wrongAtEnd_150 : decode cX12_wrongAtEnd 150 = .ok (.iload_n 2, 1) := by decide +kernel
theorem dX12_wrongAtEnd_151 : decode cX12_wrongAtEnd 151 = .ok (.ifCond .ne 5, 3) := by decide +kernel
theorem dX12_wrongAtEnd_154 : decode cX12_wrongAtEnd 154 = .ok (.iconst 5, 1) := by decide +kernel
theorem dX12_wrongAtEnd_155 : decode cX12_wrongAtEnd 155 = .ok (.ireturn, 1) := by decide +kernel
theorem dX12_wrongAtEnd_156 : decode cX12_wrongAtEnd 156 = .ok (.iconst 0, 1) := by decide +kernel
theorem dX12_wrongAtEnd_157 : decode cX12_wrongAtEnd 157 = .ok (.istore_n 3, 1) := by decide +kernel
theorem dX12_wrongAtEnd_158 : decode cX12_wrongAtEnd 158 = .ok (.iload_n 3, 1) := by decide +kernel
theorem dX12_wrongAtEnd_159 : decode cX12_wrongAtEnd 159 = .ok (.aload_n 0, 1) := by decide +kernel
theorem dX12_wrongAtEnd_160 : decode cX12_wrongAtEnd 160 = .ok (.getfield 17, 3) := by decide +kernel
theorem dX12_wrongAtEnd_163 : decode cX12_wrongAtEnd 163 = .ok (.bipush 11, 2) := by decide +kernel
theorem dX12_wrongAtEnd_165 : decode cX12_wrongAtEnd 165 = .ok (.iaload, 1) := by decide +kernel
theorem dX12_wrongAtEnd_166 : decode cX12_wrongAtEnd 166 = .ok (.if_icmp .ge 127, 3) := by decide +kernel
theorem dX12_wrongAtEnd_169 : decode cX12_wrongAtEnd 169 = .ok (.aload_n 0, 1) := by decide +kernel
theorem dX12_wrongAtEnd_170 : decode cX12_wrongAtEnd 170 = .ok (.getfield 17, 3) := by decide +kernel
theorem dX12_wrongAtEnd_173 : decode cX12_wrongAtEnd 173 = .ok (.bipush 16, 2) := by decide +kernel
theorem dX12_wrongAtEnd_175 : decode cX12_wrongAtEnd 175 = .ok (.iconst 2, 1) := by decide +kernel
theorem dX12_wrongAtEnd_176 : decode cX12_wrongAtEnd 176 = .ok (.iload_n 3, 1) := by decide +kernel
theorem dX12_wrongAtEnd_177 : decode cX12_wrongAtEnd 177 = .ok (.imul, 1) := by decide +kernel
theorem dX12_wrongAtEnd_178 : decode cX12_wrongAtEnd 178 = .ok (.iadd, 1) := by decide +kernel
theorem dX12_wrongAtEnd_179 : decode cX12_wrongAtEnd 179 = .ok (.iaload, 1) := by decide +kernel
theorem dX12_wrongAtEnd_180 : decode cX12_wrongAtEnd 180 = .ok (.istore 4, 2) := by decide +kernel
theorem dX12_wrongAtEnd_182 : decode cX12_wrongAtEnd 182 = .ok (.aload_n 0, 1) := by decide +kernel
theorem dX12_wrongAtEnd_183 : decode cX12_wrongAtEnd 183 = .ok (.getfield 17, 3) := by decide +kernel
theorem dX12_wrongAtEnd_186 : decode cX12_wrongAtEnd 186 = .ok (.bipush 16, 2) := by decide +kernel
theorem dX12_wrongAtEnd_188 : decode cX12_wrongAtEnd 188 = .ok (.iconst 2, 1) := by decide +kernel
theorem dX12_wrongAtEnd_189 : decode cX12_wrongAtEnd 189 = .ok (.iload_n 3, 1) := by decide +kernel
theorem dX12_wrongAtEnd_190 : decode cX12_wrongAtEnd 190 = .ok (.imul, 1) := by decide +kernel
theorem dX12_wrongAtEnd_191 : decode cX12_wrongAtEnd 191 = .ok (.iadd, 1) := by decide +kernel
theorem dX12_wrongAtEnd_192 : decode cX12_wrongAtEnd 192 = .ok (.iconst 1, 1) := by decide +kernel
theorem dX12_wrongAtEnd_193 : decode cX12_wrongAtEnd 193 = .ok (.iadd, 1) := by decide +kernel
theorem dX12_wrongAtEnd_194 : decode cX12_wrongAtEnd 194 = .ok (.iaload, 1) := by decide +kernel
theorem dX12_wrongAtEnd_195 : decode cX12_wrongAtEnd 195 = .ok (.istore 5, 2) := by decide +kernel
theorem dX12_wrongAtEnd_197 : decode cX12_wrongAtEnd 197 = .ok (.iload_n 2, 1) := by decide +kernel
theorem dX12_wrongAtEnd_198 : decode cX12_wrongAtEnd 198 = .ok (.ifCond .eq 87, 3) := by decide +kernel
theorem dX12_wrongAtEnd_201 : decode cX12_wrongAtEnd 201 = .ok (.iload 4, 2) := by decide +kernel
theorem dX12_wrongAtEnd_203 : decode cX12_wrongAtEnd 203 = .ok (.aload_n 0, 1) := by decide +kernel
theorem dX12_wrongAtEnd_204 : decode cX12_wrongAtEnd 204 = .ok (.getfield 17, 3) := by decide +kernel
theorem dX12_wrongAtEnd_207 : decode cX12_wrongAtEnd 207 = .ok (.iconst 0, 1) := by decide +kernel
theorem dX12_wrongAtEnd_208 : decode cX12_wrongAtEnd 208 = .ok (.iaload, 1) := by decide +kernel
theorem dX12_wrongAtEnd_209 : decode cX12_wrongAtEnd 209 = .ok (.if_icmp .ge 76, 3) := by decide +kernel
theorem dX12_wrongAtEnd_212 : decode cX12_wrongAtEnd 212 = .ok (.iload 5, 2) := by decide +kernel
theorem dX12_wrongAtEnd_214 : decode cX12_wrongAtEnd 214 = .ok (.aload_n 0, 1) := by decide +kernel
theorem dX12_wrongAtEnd_215 : decode cX12_wrongAtEnd 215 = .ok (.getfield 17, 3) := by decide +kernel
theorem dX12_wrongAtEnd_218 : decode cX12_wrongAtEnd 218 = .ok (.iconst 1, 1) := by decide +kernel
theorem dX12_wrongAtEnd_219 : decode cX12_wrongAtEnd 219 = .ok (.iaload, 1) := by decide +kernel
theorem dX12_wrongAtEnd_220 : decode cX12_wrongAtEnd 220 = .ok (.if_icmp .ge 65, 3) := by decide +kernel
theorem dX12_wrongAtEnd_223 : decode cX12_wrongAtEnd 223 = .ok (.iload 4, 2) := by decide +kernel
theorem dX12_wrongAtEnd_225 : decode cX12_wrongAtEnd 225 = .ok (.aload_n 0, 1) := by decide +kernel
theorem dX12_wrongAtEnd_226 : decode cX12_wrongAtEnd 226 = .ok (.getfield 17, 3) := by decide +kernel
theorem dX12_wrongAtEnd_229 : decode cX12_wrongAtEnd 229 = .ok (.iconst 4, 1) := by decide +kernel
theorem dX12_wrongAtEnd_230 : decode cX12_wrongAtEnd 230 = .ok (.iaload, 1) := by decide +kernel
theorem dX12_wrongAtEnd_231 : decode cX12_wrongAtEnd 231 = .ok (.aload_n 0, 1) := by decide +kernel
theorem dX12_wrongAtEnd_232 : decode cX12_wrongAtEnd 232 = .ok (.getfield 17, 3) := by decide +kernel
theorem dX12_wrongAtEnd_235 : decode cX12_wrongAtEnd 235 = .ok (.iconst 4, 1) := by decide +kernel
theorem dX12_wrongAtEnd_236 : decode cX12_wrongAtEnd 236 = .ok (.iaload, 1) := by decide +kernel
theorem dX12_wrongAtEnd_237 : decode cX12_wrongAtEnd 237 = .ok (.aload_n 0, 1) := by decide +kernel
theorem dX12_wrongAtEnd_238 : decode cX12_wrongAtEnd 238 = .ok (.getfield 17, 3) := by decide +kernel
theorem dX12_wrongAtEnd_241 : decode cX12_wrongAtEnd 241 = .ok (.iconst 2, 1) := by decide +kernel
theorem dX12_wrongAtEnd_242 : decode cX12_wrongAtEnd 242 = .ok (.iaload, 1) := by decide +kernel
theorem dX12_wrongAtEnd_243 : decode cX12_wrongAtEnd 243 = .ok (.iadd, 1) := by decide +kernel
theorem dX12_wrongAtEnd_244 : decode cX12_wrongAtEnd 244 = .ok (.iconst 1, 1) := by decide +kernel
theorem dX12_wrongAtEnd_245 : decode cX12_wrongAtEnd 245 = .ok (.isub, 1) := by decide +kernel
theorem dX12_wrongAtEnd_246 : decode cX12_wrongAtEnd 246 = .ok (.invokestatic 109, 3) := by decide +kernel
theorem dX12_wrongAtEnd_249 : decode cX12_wrongAtEnd 249 = .ok (.ifCond .eq 32, 3) := by decide +kernel
theorem dX12_wrongAtEnd_252 : decode cX12_wrongAtEnd 252 = .ok (.iload 5, 2) := by decide +kernel
theorem dX12_wrongAtEnd_254 : decode cX12_wrongAtEnd 254 = .ok (.aload_n 0, 1) := by decide +kernel
theorem dX12_wrongAtEnd_255 : decode cX12_wrongAtEnd 255 = .ok (.getfield 17, 3) := by decide +kernel
theorem dX12_wrongAtEnd_258 : decode cX12_wrongAtEnd 258 = .ok (.iconst 5, 1) := by decide +kernel
theorem dX12_wrongAtEnd_259 : decode cX12_wrongAtEnd 259 = .ok (.iaload, 1) := by decide +kernel
theorem dX12_wrongAtEnd_260 : decode cX12_wrongAtEnd 260 = .ok (.aload_n 0, 1) := by decide +kernel
theorem dX12_wrongAtEnd_261 : decode cX12_wrongAtEnd 261 = .ok (.getfield 17, 3) := by decide +kernel
theorem dX12_wrongAtEnd_264 : decode cX12_wrongAtEnd 264 = .ok (.iconst 5, 1) := by decide +kernel
theorem dX12_wrongAtEnd_265 : decode cX12_wrongAtEnd 265 = .ok (.iaload, 1) := by decide +kernel
theorem dX12_wrongAtEnd_266 : decode cX12_wrongAtEnd 266 = .ok (.aload_n 0, 1) := by decide +kernel
theorem dX12_wrongAtEnd_267 : decode cX12_wrongAtEnd 267 = .ok (.getfield 17, 3) := by decide +kernel
theorem dX12_wrongAtEnd_270 : decode cX12_wrongAtEnd 270 = .ok (.iconst 3, 1) := by decide +kernel
theorem dX12_wrongAtEnd_271 : decode cX12_wrongAtEnd 271 = .ok (.iaload, 1) := by decide +kernel
theorem dX12_wrongAtEnd_272 : decode cX12_wrongAtEnd 272 = .ok (.iadd, 1) := by decide +kernel
theorem dX12_wrongAtEnd_273 : decode cX12_wrongAtEnd 273 = .ok (.iconst 1, 1) := by decide +kernel
theorem dX12_wrongAtEnd_274 : decode cX12_wrongAtEnd 274 = .ok (.isub, 1) := by decide +kernel
theorem dX12_wrongAtEnd_275 : decode cX12_wrongAtEnd 275 = .ok (.invokestatic 109, 3) := by decide +kernel
theorem dX12_wrongAtEnd_278 : decode cX12_wrongAtEnd 278 = .ok (.ifCond .ne 7, 3) := by decide +kernel
theorem dX12_wrongAtEnd_281 : decode cX12_wrongAtEnd 281 = .ok (.iconst 1, 1) := by decide +kernel
theorem dX12_wrongAtEnd_282 : decode cX12_wrongAtEnd 282 = .ok (.goto 4, 3) := by decide +kernel
theorem dX12_wrongAtEnd_285 : decode cX12_wrongAtEnd 285 = .ok (.iconst 0, 1) := by decide +kernel
theorem dX12_wrongAtEnd_286 : decode cX12_wrongAtEnd 286 = .ok (.istore_n 2, 1) := by decide +kernel
theorem dX12_wrongAtEnd_287 : decode cX12_wrongAtEnd 287 = .ok (.iinc 3 1, 3) := by decide +kernel
theorem dX12_wrongAtEnd_290 : decode cX12_wrongAtEnd 290 = .ok (.goto (-132), 3) := by decide +kernel
theorem dX12_wrongAtEnd_293 : decode cX12_wrongAtEnd 293 = .ok (.iload_n 2, 1) := by decide +kernel
theorem dX12_wrongAtEnd_294 : decode cX12_wrongAtEnd 294 = .ok (.ifCond .eq 7, 3) := by decide +kernel
theorem dX12_wrongAtEnd_297 : decode cX12_wrongAtEnd 297 = .ok (.iconst 0, 1) := by decide +kernel
theorem dX12_wrongAtEnd_298 : decode cX12_wrongAtEnd 298 = .ok (.goto 5, 3) := by decide +kernel
theorem dX12_wrongAtEnd_301 : decode cX12_wrongAtEnd 301 = .ok (.bipush 6, 2) := by decide +kernel
theorem dX12_wrongAtEnd_303 : decode cX12_wrongAtEnd 303 = .ok (.ireturn, 1) := by decide +kernel
theorem dX12_text_0 : decode cX12_text 0 = .ok (.aload_n 0, 1) := by decide +kernel
theorem dX12_text_1 : decode cX12_text 1 = .ok (.aload_n 0, 1) := by decide +kernel
theorem dX12_text_2 : decode cX12_text 2 = .ok (.getfield 7, 3) := by decide +kernel
theorem dX12_text_5 : decode cX12_text 5 = .ok (.iconst 5, 1) := by decide +kernel
theorem dX12_text_6 : decode cX12_text 6 = .ok (.iaload, 1) := by decide +kernel
theorem dX12_text_7 : decode cX12_text 7 = .ok (.putfield 51, 3) := by decide +kernel
theorem dX12_text_10 : decode cX12_text 10 = .ok (.aload_n 0, 1) := by decide +kernel
theorem dX12_text_11 : decode cX12_text 11 = .ok (.getfield 7, 3) := by decide +kernel
theorem dX12_text_14 : decode cX12_text 14 = .ok (.iconst 5, 1) := by decide +kernel
theorem dX12_text_15 : decode cX12_text 15 = .ok (.iconst 0, 1) := by decide +kernel
theorem dX12_text_16 : decode cX12_text 16 = .ok (.iastore, 1) := by decide +kernel
theorem dX12_text_17 : decode cX12_text 17 = .ok (.aload_n 0, 1) := by decide +kernel
theorem dX12_text_18 : decode cX12_text 18 = .ok (.getfield 7, 3) := by decide +kernel
theorem dX12_text_21 : decode cX12_text 21 = .ok (.bipush 6, 2) := by decide +kernel
theorem dX12_text_23 : decode cX12_text 23 = .ok (.iconst 0, 1) := by decide +kernel
theorem dX12_text_24 : decode cX12_text 24 = .ok (.iastore, 1) := by decide +kernel
theorem dX12_text_25 : decode cX12_text 25 = .ok (.aload_n 0, 1) := by decide +kernel
theorem dX12_text_26 : decode cX12_text 26 = .ok (.getfield 7, 3) := by decide +kernel
theorem dX12_text_29 : decode cX12_text 29 = .ok (.bipush 7, 2) := by decide +kernel
theorem dX12_text_31 : decode cX12_text 31 = .ok (.iconst (-1), 1) := by decide +kernel
theorem dX12_text_32 : decode cX12_text 32 = .ok (.iastore, 1) := by decide +kernel
theorem dX12_text_33 : decode cX12_text 33 = .ok (.iload_n 1, 1) := by decide +kernel
theorem dX12_text_34 : decode cX12_text 34 = .ok (.iconst 0, 1) := by decide +kernel
theorem dX12_text_35 : decode cX12_text 35 = .ok (.iconst 4, 1) := by decide +kernel
theorem dX12_text_36 : decode cX12_text 36 = .ok (.invokestatic 109, 3) := by decide +kernel
theorem dX12_text_39 : decode cX12_text 39 = .ok (.ifCond .eq 30, 3) := by decide +kernel
theorem dX12_text_42 : decode cX12_text 42 = .ok (.iload_n 2, 1) := by decide +kernel
theorem dX12_text_43 : decode cX12_text 43 = .ok (.iconst (-1), 1) := by decide +kernel
theorem dX12_text_44 : decode cX12_text 44 = .ok (.if_icmp .ne 16, 3) := by decide +kernel
theorem dX12_text_47 : decode cX12_text 47 = .ok (.aload_n 0, 1) := by decide +kernel
theorem dX12_text_48 : decode cX12_text 48 = .ok (.getfield 7, 3) := by decide +kernel
theorem dX12_text_51 : decode cX12_text 51 = .ok (.iload_n 1, 1) := by decide +kernel
theorem dX12_text_52 : decode cX12_text 52 = .ok (.iaload, 1) := by decide +kernel
theorem dX12_text_53 : decode cX12_text 53 = .ok (.iconst 2, 1) := by decide +kernel
theorem dX12_text_54 : decode cX12_text 54 = .ok (.if_icmp .lt 18, 3) := by decide +kernel
theorem dX12_text_57 : decode cX12_text 57 = .ok (.goto 12, 3) := by decide +kernel
theorem dX12_text_60 : decode cX12_text 60 = .ok (.aload_n 0, 1) := by decide +kernel
theorem dX12_text_61 : decode cX12_text 61 = .ok (.iload_n 1, 1) := by decide +kernel
theorem dX12_text_62 : decode cX12_text 62 = .ok (.iload_n 2, 1) := by decide +kernel
theorem dX12_text_63 : decode cX12_text 63 = .ok (.invokevirtual 144, 3) := by decide +kernel
theorem dX12_text_66 : decode cX12_text 66 = .ok (.ifCond .ne 6, 3) := by decide +kernel
theorem dX12_text_69 : decode cX12_text 69 = .ok (.bipush (-2), 2) := by decide +kernel
theorem dX12_text_71 : decode cX12_text 71 = .ok (.ireturn, 1) := by decide +kernel
theorem dX12_text_72 : decode cX12_text 72 = .ok (.aload_n 0, 1) := by decide +kernel
theorem dX12_text_73 : decode cX12_text 73 = .ok (.iconst 0, 1) := by decide +kernel
theorem dX12_text_74 : decode cX12_text 74 = .ok (.putfield 69, 3) := by decide +kernel
theorem dX12_text_77 : decode cX12_text 77 = .ok (.aload_n 0, 1) := by decide +kernel
theorem dX12_text_78 : decode cX12_text 78 = .ok (.iconst 0, 1) := by decide +kernel
theorem dX12_text_79 : decode cX12_text 79 = .ok (.putfield 102, 3) := by decide +kernel
theorem dX12_text_82 : decode cX12_text 82 = .ok (.aload_n 0, 1) := by decide +kernel
theorem dX12_text_83 : decode cX12_text 83 = .ok (.iload_n 1, 1) := by decide +kernel
theorem dX12_text_84 : decode cX12_text 84 = .ok (.invokevirtual 148, 3) := by decide +kernel
theorem dX12_text_87 : decode cX12_text 87 = .ok (.aload_n 0, 1) := by decide +kernel
theorem dX12_text_88 : decode cX12_text 88 = .ok (.invokevirtual 117, 3) := by decide +kernel
theorem dX12_text_91 : decode cX12_text 91 = .ok (.aload_n 0, 1) := by decide +kernel
theorem dX12_text_92 : decode cX12_text 92 = .ok (.getfield 102, 3) := by decide +kernel
theorem dX12_text_95 : decode cX12_text 95 = .ok (.ifCond .ne 76, 3) := by decide +kernel
theorem dX12_text_98 : decode cX12_text 98 = .ok (.aload_n 0, 1) := by decide +kernel
theorem dX12_text_99 : decode cX12_text 99 = .ok (.getfield 79, 3) := by decide +kernel
theorem dX12_text_102 : decode cX12_text 102 = .ok (.ifCond .eq 69, 3) := by decide +kernel
theorem dX12_text_105 : decode cX12_text 105 = .ok (.iload_n 1, 1) := by decide +kernel
theorem dX12_text_106 : decode cX12_text 106 = .ok (.tableswitch 58 0 3 #[30, 37, 44, 51], 30) := by decide +kernel
theorem dX12_text_136 : decode cX12_text 136 = .ok (.aload_n 0, 1) := by decide +kernel
theorem dX12_text_137 : decode cX12_text 137 = .ok (.invokevirtual 152, 3) := by decide +kernel
theorem dX12_text_140 : decode cX12_text 140 = .ok (.goto (-49), 3) := by decide +kernel
theorem dX12_text_143 : decode cX12_text 143 = .ok (.aload_n 0, 1) := by decide +kernel
theorem dX12_text_144 : decode cX12_text 144 = .ok (.invokevirtual 155, 3) := by decide +kernel
theorem dX12_text_147 : decode cX12_text 147 = .ok (.goto (-56), 3) := by decide +kernel
theorem dX12_text_150 : decode cX12_text 150 = .ok (.aload_n 0, 1) := by decide +kernel
theorem dX12_text_151 : decode cX12_text 151 = .ok (.invokevirtual 158, 3) := by decide +kernel
theorem dX12_text_154 : decode cX12_text 154 = .ok (.goto (-63), 3) := by decide +kernel
theorem dX12_text_157 : decode cX12_text 157 = .ok (.aload_n 0, 1) := by decide +kernel
theorem dX12_text_158 : decode cX12_text 158 = .ok (.invokevirtual 161, 3) := by decide +kernel
theorem dX12_text_161 : decode cX12_text 161 = .ok (.goto (-70), 3) := by decide +kernel
theorem dX12_text_164 : decode cX12_text 164 = .ok (.aload_n 0, 1) := by decide +kernel
theorem dX12_text_165 : decode cX12_text 165 = .ok (.invokevirtual 164, 3) := by decide +kernel
theorem dX12_text_168 : decode cX12_text 168 = .ok (.goto (-77), 3) := by decide +kernel
theorem dX12_text_171 : decode cX12_text 171 = .ok (.aload_n 0, 1) := by decide +kernel
theorem dX12_text_172 : decode cX12_text 172 = .ok (.getfield 7, 3) := by decide +kernel
theorem dX12_text_175 : decode cX12_text 175 = .ok (.bipush 6, 2) := by decide +kernel
theorem dX12_text_177 : decode cX12_text 177 = .ok (.iaload, 1) := by decide +kernel
theorem dX12_text_178 : decode cX12_text 178 = .ok (.ifCond .ne 26, 3) := by decide +kernel
theorem dX12_text_181 : decode cX12_text 181 = .ok (.iload_n 1, 1) := by decide +kernel
theorem dX12_text_182 : decode cX12_text 182 = .ok (.ifCond .ne 22, 3) := by decide +kernel
theorem dX12_text_185 : decode cX12_text 185 = .ok (.aload_n 0, 1) := by decide +kernel
theorem dX12_text_186 : decode cX12_text 186 = .ok (.invokevirtual 167, 3) := by decide +kernel
theorem dX12_text_189 : decode cX12_text 189 = .ok (.ifCond .eq 15, 3) := by decide +kernel
theorem dX12_text_192 : decode cX12_text 192 = .ok (.aload_n 0, 1) := by decide +kernel
theorem dX12_text_193 : decode cX12_text 193 = .ok (.aload_n 0, 1) := by decide +kernel
theorem dX12_text_194 : decode cX12_text 194 = .ok (.invokevirtual 167, 3) := by decide +kernel
theorem dX12_text_197 : decode cX12_text 197 = .ok (.aload_n 0, 1) := by decide +kernel
theorem dX12_text_198 : decode cX12_text 198 = .ok (.getfield 76, 3) := by decide +kernel
theorem dX12_text_201 : decode cX12_text 201 = .ok (.invokevirtual 113, 3) := by decide +kernel
theorem dX12_text_204 : decode cX12_text 204 = .ok (.aload_n 0, 1) := by decide +kernel
theorem dX12_text_205 : decode cX12_text 205 = .ok (.getfield 7, 3) := by decide +kernel
theorem dX12_text_208 : decode cX12_text 208 = .ok (.bipush 6, 2) := by decide +kernel
theorem dX12_text_210 : decode cX12_text 210 = .ok (.iaload, 1) := by decide +kernel
theorem dX12_text_211 : decode cX12_text 211 = .ok (.ifCond .eq 5, 3) := by decide +kernel
theorem dX12_text_214 : decode cX12_text 214 = .ok (.iconst (-1), 1) := by decide +kernel
theorem dX12_text_215 : decode cX12_text 215 = .ok (.ireturn, 1) := by decide +kernel
theorem dX12_text_216 : decode cX12_text 216 = .ok (.iload_n 2, 1) := by decide +kernel
theorem dX12_text_217 : decode cX12_text 217 = .ok (.iconst (-1), 1) := by decide +kernel
theorem dX12_text_218 : decode cX12_text 218 = .ok (.if_icmp .ne 12, 3) := by decide +kernel
theorem dX12_text_221 : decode cX12_text 221 = .ok (.aload_n 0, 1) := by decide +kernel
theorem dX12_text_222 : decode cX12_text 222 = .ok (.getfield 7, 3) := by decide +kernel
theorem dX12_text_225 : decode cX12_text 225 = .ok (.iload_n 1, 1) := by decide +kernel
theorem dX12_text_226 : decode cX12_text 226 = .ok (.iaload, 1) := by decide +kernel
theorem dX12_text_227 : decode cX12_text 227 = .ok (.goto 4, 3) := by decide +kernel
theorem dX12_text_230 : decode cX12_text 230 = .ok (.iload_n 2, 1) := by decide +kernel
theorem dX12_text_231 : decode cX12_text 231 = .ok (.istore_n 3, 1) := by decide +kernel
theorem dX12_text_232 : decode cX12_text 232 = .ok (.iload_n 2, 1) := by decide +kernel
theorem dX12_text_233 : decode cX12_text 233 = .ok (.iconst (-1), 1) := by decide +kernel
theorem dX12_text_234 : decode cX12_text 234 = .ok (.if_icmp .ne 13, 3) := by decide +kernel
theorem dX12_text_237 : decode cX12_text 237 = .ok (.aload_n 0, 1) := by decide +kernel
theorem dX12_text_238 : decode cX12_text 238 = .ok (.getfield 7, 3) := by decide +kernel
theorem dX12_text_241 : decode cX12_text 241 = .ok (.iload_n 1, 1) := by decide +kernel
theorem dX12_text_242 : decode cX12_text 242 = .ok (.dup2, 1) := by decide +kernel
theorem dX12_text_243 : decode cX12_text 243 = .ok (.iaload, 1) := by decide +kernel
theorem dX12_text_244 : decode cX12_text 244 = .ok (.iconst 1, 1) := by decide +kernel
theorem dX12_text_245 : decode cX12_text 245 = .ok (.iadd, 1) := by decide +kernel
theorem dX12_text_246 : decode cX12_text 246 = .ok (.iastore, 1) := by decide +kernel
theorem dX12_text_247 : decode cX12_text 247 = .ok (.iconst 0, 1) := by decide +kernel
theorem dX12_text_248 : decode cX12_text 248 = .ok (.istore 4, 2) := by decide +kernel
theorem dX12_text_250 : decode cX12_text 250 = .ok (.iload 4, 2) := by decide +kernel
theorem dX12_text_252 : decode cX12_text 252 = .ok (.iload_n 1, 1) := by decide +kernel
theorem dX12_text_253 : decode cX12_text 253 = .ok (.invokestatic 171, 3) := by decide +kernel
theorem dX12_text_256 : decode cX12_text 256 = .ok (.if_icmp .ge 29, 3) := by decide +kernel
theorem dX12_text_259 : decode cX12_text 259 = .ok (.aload_n 0, 1) := by decide +kernel
theorem dX12_text_260 : decode cX12_text 260 = .ok (.getfield 7, 3) := by decide +kernel
theorem dX12_text_263 : decode cX12_text 263 = .ok (.iload_n 1, 1) := by decide +kernel
theorem dX12_text_264 : decode cX12_text 264 = .ok (.iload_n 3, 1) := by decide +kernel
theorem dX12_text_265 : decode cX12_text 265 = .ok (.invokestatic 174, 3) := by decide +kernel
theorem dX12_text_268 : decode cX12_text 268 = .ok (.iload 4, 2) := by decide +kernel
theorem dX12_text_270 : decode cX12_text 270 = .ok (.iadd, 1) := by decide +kernel
theorem dX12_text_271 : decode cX12_text 271 = .ok (.aload_n 0, 1) := by decide +kernel
theorem dX12_text_272 : decode cX12_text 272 = .ok (.getfield 17, 3) := by decide +kernel
theorem dX12_text_275 : decode cX12_text 275 = .ok (.iload 4, 2) := by decide +kernel
theorem dX12_text_277 : decode cX12_text 277 = .ok (.iaload, 1) := by decide +kernel
theorem dX12_text_278 : decode cX12_text 278 = .ok (.iastore, 1) := by decide +kernel
theorem dX12_text_279 : decode cX12_text 279 = .ok (.iinc 4 1, 3) := by decide +kernel
theorem dX12_text_282 : decode cX12_text 282 = .ok (.goto (-32), 3) := by decide +kernel
theorem dX12_text_285 : decode cX12_text 285 = .ok (.iload_n 3, 1) := by decide +kernel
theorem dX12_text_286 : decode cX12_text 286 = .ok (.ireturn, 1) := by decide +kernel
theorem dX12_fault_0 : decode cX12_fault 0 = .ok (.iload_n 1, 1) := by decide +kernel
theorem dX12_fault_1 : decode cX12_fault 1 = .ok (.ifCond .ne 13, 3) := by decide +kernel
theorem dX12_fault_4 : decode cX12_fault 4 = .ok (.aload_n 0, 1) := by decide +kernel
theorem dX12_fault_5 : decode cX12_fault 5 = .ok (.getfield 7, 3) := by decide +kernel
theorem dX12_fault_8 : decode cX12_fault 8 = .ok (.bipush 6, 2) := by decide +kernel
theorem dX12_fault_10 : decode cX12_fault 10 = .ok (.iaload, 1) := by decide +kernel
theorem dX12_fault_11 : decode cX12_fault 11 = .ok (.goto 19, 3) := by decide +kernel
theorem dX12_fault_14 : decode cX12_fault 14 = .ok (.iload_n 1, 1) := by decide +kernel
theorem dX12_fault_15 : decode cX12_fault 15 = .ok (.iconst 1, 1) := by decide +kernel
theorem dX12_fault_16 : decode cX12_fault 16 = .ok (.if_icmp .ne 13, 3) := by decide +kernel
theorem dX12_fault_19 : decode cX12_fault 19 = .ok (.aload_n 0, 1) := by decide +kernel
theorem dX12_fault_20 : decode cX12_fault 20 = .ok (.getfield 7, 3) := by decide +kernel
theorem dX12_fault_23 : decode cX12_fault 23 = .ok (.bipush 7, 2) := by decide +kernel
theorem dX12_fault_25 : decode cX12_fault 25 = .ok (.iaload, 1) := by decide +kernel
theorem dX12_fault_26 : decode cX12_fault 26 = .ok (.goto 4, 3) := by decide +kernel
theorem dX12_fault_29 : decode cX12_fault 29 = .ok (.iconst (-1), 1) := by decide +kernel
theorem dX12_fault_30 : decode cX12_fault 30 = .ok (.ireturn, 1) := by decide +kernel
theorem dX12_isLake_0 : decode cX12_isLake 0 = .ok (.aload_n 0, 1) := by decide +kernel
theorem dX12_isLake_1 : decode cX12_isLake 1 = .ok (.iconst 0, 1) := by decide +kernel
theorem dX12_isLake_2 : decode cX12_isLake 2 = .ok (.iload_n 1, 1) := by decide +kernel
theorem dX12_isLake_3 : decode cX12_isLake 3 = .ok (.invokevirtual 144, 3) := by decide +kernel
theorem dX12_isLake_6 : decode cX12_isLake 6 = .ok (.ifCond .ne 5, 3) := by decide +kernel
theorem dX12_isLake_9 : decode cX12_isLake 9 = .ok (.iconst 0, 1) := by decide +kernel
theorem dX12_isLake_10 : decode cX12_isLake 10 = .ok (.ireturn, 1) := by decide +kernel
theorem dX12_isLake_11 : decode cX12_isLake 11 = .ok (.aload_n 0, 1) := by decide +kernel
theorem dX12_isLake_12 : decode cX12_isLake 12 = .ok (.iconst 0, 1) := by decide +kernel
theorem dX12_isLake_13 : decode cX12_isLake 13 = .ok (.iload_n 1, 1) := by decide +kernel
theorem dX12_isLake_14 : decode cX12_isLake 14 = .ok (.invokestatic 174, 3) := by decide +kernel
theorem dX12_isLake_17 : decode cX12_isLake 17 = .ok (.putfield 177, 3) := by decide +kernel
theorem dX12_isLake_20 : decode cX12_isLake 20 = .ok (.iconst 1, 1) := by decide +kernel
theorem dX12_isLake_21 : decode cX12_isLake 21 = .ok (.ireturn, 1) := by decide +kernel
theorem dX12_of_0 : decode cX12_of 0 = .ok (.aload_n 0, 1) := by decide +kernel
theorem dX12_of_1 : decode cX12_of 1 = .ok (.getfield 7, 3) := by decide +kernel
theorem dX12_of_4 : decode cX12_of 4 = .ok (.aload_n 0, 1) := by decide +kernel
theorem dX12_of_5 : decode cX12_of 5 = .ok (.getfield 177, 3) := by decide +kernel
theorem dX12_of_8 : decode cX12_of 8 = .ok (.iload_n 1, 1) := by decide +kernel
theorem dX12_of_9 : decode cX12_of 9 = .ok (.iadd, 1) := by decide +kernel
theorem dX12_of_10 : decode cX12_of 10 = .ok (.iaload, 1) := by decide +kernel
theorem dX12_of_11 : decode cX12_of 11 = .ok (.ireturn, 1) := by decide +kernel
theorem dX12_places_0 : decode cX12_places 0 = .ok (.aload_n 0, 1) := by decide +kernel
theorem dX12_places_1 : decode cX12_places 1 = .ok (.iconst 2, 1) := by decide +kernel
theorem dX12_places_2 : decode cX12_places 2 = .ok (.invokevirtual 180, 3) := by decide +kernel
theorem dX12_places_5 : decode cX12_places 5 = .ok (.aload_n 0, 1) := by decide +kernel
theorem dX12_places_6 : decode cX12_places 6 = .ok (.iconst 3, 1) := by decide +kernel
theorem dX12_places_7 : decode cX12_places 7 = .ok (.invokevirtual 180, 3) := by decide +kernel
theorem dX12_places_10 : decode cX12_places 10 = .ok (.imul, 1) := by decide +kernel
theorem dX12_places_11 : decode cX12_places 11 = .ok (.ireturn, 1) := by decide +kernel
theorem dX12_mourners_0 : decode cX12_mourners 0 = .ok (.aload_n 0, 1) := by decide +kernel
theorem dX12_mourners_1 : decode cX12_mourners 1 = .ok (.bipush 14, 2) := by decide +kernel
theorem dX12_mourners_3 : decode cX12_mourners 3 = .ok (.invokevirtual 180, 3) := by decide +kernel
theorem dX12_mourners_6 : decode cX12_mourners 6 = .ok (.ireturn, 1) := by decide +kernel
theorem dX12_isMourner_0 : decode cX12_isMourner 0 = .ok (.iload_n 1, 1) := by decide +kernel
theorem dX12_isMourner_1 : decode cX12_isMourner 1 = .ok (.iconst 0, 1) := by decide +kernel
theorem dX12_isMourner_2 : decode cX12_isMourner 2 = .ok (.aload_n 0, 1) := by decide +kernel
theorem dX12_isMourner_3 : decode cX12_isMourner 3 = .ok (.invokevirtual 183, 3) := by decide +kernel
theorem dX12_isMourner_6 : decode cX12_isMourner 6 = .ok (.iconst 1, 1) := by decide +kernel
theorem dX12_isMourner_7 : decode cX12_isMourner 7 = .ok (.isub, 1) := by decide +kernel
theorem dX12_isMourner_8 : decode cX12_isMourner 8 = .ok (.invokestatic 109, 3) := by decide +kernel
theorem dX12_isMourner_11 : decode cX12_isMourner 11 = .ok (.ireturn, 1) := by decide +kernel
theorem dX12_ofMourner_0 : decode cX12_ofMourner 0 = .ok (.aload_n 0, 1) := by decide +kernel
theorem dX12_ofMourner_1 : decode cX12_ofMourner 1 = .ok (.bipush 86, 2) := by decide +kernel
theorem dX12_ofMourner_3 : decode cX12_ofMourner 3 = .ok (.iconst 3, 1) := by decide +kernel
theorem dX12_ofMourner_4 : decode cX12_ofMourner 4 = .ok (.iload_n 1, 1) := by decide +kernel
theorem dX12_ofMourner_5 : decode cX12_ofMourner 5 = .ok (.imul, 1) := by decide +kernel
theorem dX12_ofMourner_6 : decode cX12_ofMourner 6 = .ok (.iadd, 1) := by decide +kernel
theorem dX12_ofMourner_7 : decode cX12_ofMourner 7 = .ok (.iload_n 2, 1) := by decide +kernel
theorem dX12_ofMourner_8 : decode cX12_ofMourner 8 = .ok (.iadd, 1) := by decide +kernel
theorem dX12_ofMourner_9 : decode cX12_ofMourner 9 = .ok (.invokevirtual 180, 3) := by decide +kernel
theorem dX12_ofMourner_12 : decode cX12_ofMourner 12 = .ok (.ireturn, 1) := by decide +kernel
theorem dX12_lake_0 : decode cX12_lake 0 = .ok (.aload_n 0, 1) := by decide +kernel
theorem dX12_lake_1 : decode cX12_lake 1 = .ok (.iload_n 1, 1) := by decide +kernel
theorem dX12_lake_2 : decode cX12_lake 2 = .ok (.invokevirtual 186, 3) := by decide +kernel
theorem dX12_lake_5 : decode cX12_lake 5 = .ok (.ifCond .ne 5, 3) := by decide +kernel
theorem dX12_lake_8 : decode cX12_lake 8 = .ok (.iconst (-1), 1) := by decide +kernel
theorem dX12_lake_9 : decode cX12_lake 9 = .ok (.ireturn, 1) := by decide +kernel
theorem dX12_lake_10 : decode cX12_lake 10 = .ok (.iload_n 2, 1) := by decide +kernel
theorem dX12_lake_11 : decode cX12_lake 11 = .ok (.iconst 0, 1) := by decide +kernel
theorem dX12_lake_12 : decode cX12_lake 12 = .ok (.bipush 15, 2) := by decide +kernel
theorem dX12_lake_14 : decode cX12_lake 14 = .ok (.invokestatic 109, 3) := by decide +kernel
theorem dX12_lake_17 : decode cX12_lake 17 = .ok (.ifCond .eq 9, 3) := by decide +kernel
theorem dX12_lake_20 : decode cX12_lake 20 = .ok (.aload_n 0, 1) := by decide +kernel
theorem dX12_lake_21 : decode cX12_lake 21 = .ok (.iload_n 2, 1) := by decide +kernel
theorem dX12_lake_22 : decode cX12_lake 22 = .ok (.invokevirtual 180, 3) := by decide +kernel
theorem dX12_lake_25 : decode cX12_lake 25 = .ok (.ireturn, 1) := by decide +kernel
theorem dX12_lake_26 : decode cX12_lake 26 = .ok (.iload_n 2, 1) := by decide +kernel
theorem dX12_lake_27 : decode cX12_lake 27 = .ok (.bipush 20, 2) := by decide +kernel
theorem dX12_lake_29 : decode cX12_lake 29 = .ok (.bipush 59, 2) := by decide +kernel
theorem dX12_lake_31 : decode cX12_lake 31 = .ok (.invokestatic 109, 3) := by decide +kernel
theorem dX12_lake_34 : decode cX12_lake 34 = .ok (.ifCond .eq 44, 3) := by decide +kernel
theorem dX12_lake_37 : decode cX12_lake 37 = .ok (.iload_n 2, 1) := by decide +kernel
theorem dX12_lake_38 : decode cX12_lake 38 = .ok (.bipush 20, 2) := by decide +kernel
theorem dX12_lake_40 : decode cX12_lake 40 = .ok (.isub, 1) := by decide +kernel
theorem dX12_lake_41 : decode cX12_lake 41 = .ok (.bipush 20, 2) := by decide +kernel
theorem dX12_lake_43 : decode cX12_lake 43 = .ok (.irem, 1) := by decide +kernel
theorem dX12_lake_44 : decode cX12_lake 44 = .ok (.istore_n 3, 1) := by decide +kernel
theorem dX12_lake_45 : decode cX12_lake 45 = .ok (.iload_n 3, 1) := by decide +kernel
theorem dX12_lake_46 : decode cX12_lake 46 = .ok (.aload_n 0, 1) := by decide +kernel
theorem dX12_lake_47 : decode cX12_lake 47 = .ok (.bipush 11, 2) := by decide +kernel
theorem dX12_lake_49 : decode cX12_lake 49 = .ok (.invokevirtual 180, 3) := by decide +kernel
theorem dX12_lake_52 : decode cX12_lake 52 = .ok (.if_icmp .ge 24, 3) := by decide +kernel
theorem dX12_lake_55 : decode cX12_lake 55 = .ok (.aload_n 0, 1) := by decide +kernel
theorem dX12_lake_56 : decode cX12_lake 56 = .ok (.bipush 16, 2) := by decide +kernel
theorem dX12_lake_58 : decode cX12_lake 58 = .ok (.iconst 2, 1) := by decide +kernel
theorem dX12_lake_59 : decode cX12_lake 59 = .ok (.iload_n 3, 1) := by decide +kernel
theorem dX12_lake_60 : decode cX12_lake 60 = .ok (.imul, 1) := by decide +kernel
theorem dX12_lake_61 : decode cX12_lake 61 = .ok (.iadd, 1) := by decide +kernel
theorem dX12_lake_62 : decode cX12_lake 62 = .ok (.iload_n 2, 1) := by decide +kernel
theorem dX12_lake_63 : decode cX12_lake 63 = .ok (.bipush 20, 2) := by decide +kernel
theorem dX12_lake_65 : decode cX12_lake 65 = .ok (.isub, 1) := by decide +kernel
theorem dX12_lake_66 : decode cX12_lake 66 = .ok (.bipush 20, 2) := by decide +kernel
theorem dX12_lake_68 : decode cX12_lake 68 = .ok (.idiv, 1) := by decide +kernel
theorem dX12_lake_69 : decode cX12_lake 69 = .ok (.iadd, 1) := by decide +kernel
theorem dX12_lake_70 : decode cX12_lake 70 = .ok (.invokevirtual 180, 3) := by decide +kernel
theorem dX12_lake_73 : decode cX12_lake 73 = .ok (.goto 4, 3) := by decide +kernel
theorem dX12_lake_76 : decode cX12_lake 76 = .ok (.iconst (-1), 1) := by decide +kernel
theorem dX12_lake_77 : decode cX12_lake 77 = .ok (.ireturn, 1) := by decide +kernel
theorem dX12_lake_78 : decode cX12_lake 78 = .ok (.iload_n 2, 1) := by decide +kernel
theorem dX12_lake_79 : decode cX12_lake 79 = .ok (.bipush 60, 2) := by decide +kernel
theorem dX12_lake_81 : decode cX12_lake 81 = .ok (.bipush 99, 2) := by decide +kernel
theorem dX12_lake_83 : decode cX12_lake 83 = .ok (.invokestatic 109, 3) := by decide +kernel
theorem dX12_lake_86 : decode cX12_lake 86 = .ok (.ifCond .eq 44, 3) := by decide +kernel
theorem dX12_lake_89 : decode cX12_lake 89 = .ok (.iload_n 2, 1) := by decide +kernel
theorem dX12_lake_90 : decode cX12_lake 90 = .ok (.bipush 60, 2) := by decide +kernel
theorem dX12_lake_92 : decode cX12_lake 92 = .ok (.isub, 1) := by decide +kernel
theorem dX12_lake_93 : decode cX12_lake 93 = .ok (.bipush 20, 2) := by decide +kernel
theorem dX12_lake_95 : decode cX12_lake 95 = .ok (.irem, 1) := by decide +kernel
theorem dX12_lake_96 : decode cX12_lake 96 = .ok (.istore_n 3, 1) := by decide +kernel
theorem dX12_lake_97 : decode cX12_lake 97 = .ok (.iload_n 3, 1) := by decide +kernel
theorem dX12_lake_98 : decode cX12_lake 98 = .ok (.aload_n 0, 1) := by decide +kernel
theorem dX12_lake_99 : decode cX12_lake 99 = .ok (.bipush 12, 2) := by decide +kernel
theorem dX12_lake_101 : decode cX12_lake 101 = .ok (.invokevirtual 180, 3) := by decide +kernel
theorem dX12_lake_104 : decode cX12_lake 104 = .ok (.if_icmp .ge 24, 3) := by decide +kernel
theorem dX12_lake_107 : decode cX12_lake 107 = .ok (.aload_n 0, 1) := by decide +kernel
theorem dX12_lake_108 : decode cX12_lake 108 = .ok (.bipush 56, 2) := by decide +kernel
theorem dX12_lake_110 : decode cX12_lake 110 = .ok (.iconst 2, 1) := by decide +kernel
theorem dX12_lake_111 : decode cX12_lake 111 = .ok (.iload_n 3, 1) := by decide +kernel
theorem dX12_lake_112 : decode cX12_lake 112 = .ok (.imul, 1) := by decide +kernel
theorem dX12_lake_113 : decode cX12_lake 113 = .ok (.iadd, 1) := by decide +kernel
theorem dX12_lake_114 : decode cX12_lake 114 = .ok (.iload_n 2, 1) := by decide +kernel
theorem dX12_lake_115 : decode cX12_lake 115 = .ok (.bipush 60, 2) := by decide +kernel
theorem dX12_lake_117 : decode cX12_lake 117 = .ok (.isub, 1) := by decide +kernel
theorem dX12_lake_118 : decode cX12_lake 118 = .ok (.bipush 20, 2) := by decide +kernel
theorem dX12_lake_120 : decode cX12_lake 120 = .ok (.idiv, 1) := by decide +kernel
theorem dX12_lake_121 : decode cX12_lake 121 = .ok (.iadd, 1) := by decide +kernel
theorem dX12_lake_122 : decode cX12_lake 122 = .ok (.invokevirtual 180, 3) := by decide +kernel
theorem dX12_lake_125 : decode cX12_lake 125 = .ok (.goto 4, 3) := by decide +kernel
theorem dX12_lake_128 : decode cX12_lake 128 = .ok (.iconst (-1), 1) := by decide +kernel
theorem dX12_lake_129 : decode cX12_lake 129 = .ok (.ireturn, 1) := by decide +kernel
theorem dX12_lake_130 : decode cX12_lake 130 = .ok (.iload_n 2, 1) := by decide +kernel
theorem dX12_lake_131 : decode cX12_lake 131 = .ok (.bipush 10, 2) := by decide +kernel
theorem dX12_lake_133 : decode cX12_lake 133 = .ok (.irem, 1) := by decide +kernel
theorem dX12_lake_134 : decode cX12_lake 134 = .ok (.istore_n 3, 1) := by decide +kernel
theorem dX12_lake_135 : decode cX12_lake 135 = .ok (.iload_n 2, 1) := by decide +kernel
theorem dX12_lake_136 : decode cX12_lake 136 = .ok (.bipush 100, 2) := by decide +kernel
theorem dX12_lake_138 : decode cX12_lake 138 = .ok (.bipush 109, 2) := by decide +kernel
theorem dX12_lake_140 : decode cX12_lake 140 = .ok (.invokestatic 109, 3) := by decide +kernel
theorem dX12_lake_143 : decode cX12_lake 143 = .ok (.ifCond .eq 26, 3) := by decide +kernel
theorem dX12_lake_146 : decode cX12_lake 146 = .ok (.iload_n 3, 1) := by decide +kernel
theorem dX12_lake_147 : decode cX12_lake 147 = .ok (.aload_n 0, 1) := by decide +kernel
theorem dX12_lake_148 : decode cX12_lake 148 = .ok (.bipush 13, 2) := by decide +kernel
theorem dX12_lake_150 : decode cX12_lake 150 = .ok (.invokevirtual 180, 3) := by decide +kernel
theorem dX12_lake_153 : decode cX12_lake 153 = .ok (.if_icmp .ge 14, 3) := by decide +kernel
theorem dX12_lake_156 : decode cX12_lake 156 = .ok (.aload_n 0, 1) := by decide +kernel
theorem dX12_lake_157 : decode cX12_lake 157 = .ok (.bipush 80, 2) := by decide +kernel
theorem dX12_lake_159 : decode cX12_lake 159 = .ok (.iload_n 3, 1) := by decide +kernel
theorem dX12_lake_160 : decode cX12_lake 160 = .ok (.iadd, 1) := by decide +kernel
theorem dX12_lake_161 : decode cX12_lake 161 = .ok (.invokevirtual 180, 3) := by decide +kernel
theorem dX12_lake_164 : decode cX12_lake 164 = .ok (.goto 4, 3) := by decide +kernel
theorem dX12_lake_167 : decode cX12_lake 167 = .ok (.iconst (-1), 1) := by decide +kernel
theorem dX12_lake_168 : decode cX12_lake 168 = .ok (.ireturn, 1) := by decide +kernel
theorem dX12_lake_169 : decode cX12_lake 169 = .ok (.iload_n 2, 1) := by decide +kernel
theorem dX12_lake_170 : decode cX12_lake 170 = .ok (.bipush 110, 2) := by decide +kernel
theorem dX12_lake_172 : decode cX12_lake 172 = .ok (.sipush 139, 3) := by decide +kernel
theorem dX12_lake_175 : decode cX12_lake 175 = .ok (.invokestatic 109, 3) := by decide +kernel
theorem dX12_lake_178 : decode cX12_lake 178 = .ok (.ifCond .eq 28, 3) := by decide +kernel
theorem dX12_lake_181 : decode cX12_lake 181 = .ok (.iload_n 3, 1) := by decide +kernel
theorem dX12_lake_182 : decode cX12_lake 182 = .ok (.aload_n 0, 1) := by decide +kernel
theorem dX12_lake_183 : decode cX12_lake 183 = .ok (.invokevirtual 183, 3) := by decide +kernel
theorem dX12_lake_186 : decode cX12_lake 186 = .ok (.if_icmp .ge 18, 3) := by decide +kernel
theorem dX12_lake_189 : decode cX12_lake 189 = .ok (.aload_n 0, 1) := by decide +kernel
theorem dX12_lake_190 : decode cX12_lake 190 = .ok (.iload_n 3, 1) := by decide +kernel
theorem dX12_lake_191 : decode cX12_lake 191 = .ok (.iload_n 2, 1) := by decide +kernel
theorem dX12_lake_192 : decode cX12_lake 192 = .ok (.bipush 10, 2) := by decide +kernel
theorem dX12_lake_194 : decode cX12_lake 194 = .ok (.idiv, 1) := by decide +kernel
theorem dX12_lake_195 : decode cX12_lake 195 = .ok (.bipush 11, 2) := by decide +kernel
theorem dX12_lake_197 : decode cX12_lake 197 = .ok (.isub, 1) := by decide +kernel
theorem dX12_lake_198 : decode cX12_lake 198 = .ok (.invokevirtual 189, 3) := by decide +kernel
theorem dX12_lake_201 : decode cX12_lake 201 = .ok (.goto 4, 3) := by decide +kernel
theorem dX12_lake_204 : decode cX12_lake 204 = .ok (.iconst (-1), 1) := by decide +kernel
theorem dX12_lake_205 : decode cX12_lake 205 = .ok (.ireturn, 1) := by decide +kernel
theorem dX12_lake_206 : decode cX12_lake 206 = .ok (.iload_n 2, 1) := by decide +kernel
theorem dX12_lake_207 : decode cX12_lake 207 = .ok (.sipush 140, 3) := by decide +kernel
theorem dX12_lake_210 : decode cX12_lake 210 = .ok (.sipush 159, 3) := by decide +kernel
theorem dX12_lake_213 : decode cX12_lake 213 = .ok (.invokestatic 109, 3) := by decide +kernel
theorem dX12_lake_216 : decode cX12_lake 216 = .ok (.ifCond .eq 34, 3) := by decide +kernel
theorem dX12_lake_219 : decode cX12_lake 219 = .ok (.iload_n 3, 1) := by decide +kernel
theorem dX12_lake_220 : decode cX12_lake 220 = .ok (.aload_n 0, 1) := by decide +kernel
theorem dX12_lake_221 : decode cX12_lake 221 = .ok (.bipush 15, 2) := by decide +kernel
theorem dX12_lake_223 : decode cX12_lake 223 = .ok (.invokevirtual 180, 3) := by decide +kernel
theorem dX12_lake_226 : decode cX12_lake 226 = .ok (.if_icmp .ge 24, 3) := by decide +kernel
theorem dX12_lake_229 : decode cX12_lake 229 = .ok (.aload_n 0, 1) := by decide +kernel
theorem dX12_lake_230 : decode cX12_lake 230 = .ok (.bipush 101, 2) := by decide +kernel
theorem dX12_lake_232 : decode cX12_lake 232 = .ok (.iconst 2, 1) := by decide +kernel
theorem dX12_lake_233 : decode cX12_lake 233 = .ok (.iload_n 3, 1) := by decide +kernel
theorem dX12_lake_234 : decode cX12_lake 234 = .ok (.imul, 1) := by decide +kernel
theorem dX12_lake_235 : decode cX12_lake 235 = .ok (.iadd, 1) := by decide +kernel
theorem dX12_lake_236 : decode cX12_lake 236 = .ok (.iload_n 2, 1) := by decide +kernel
theorem dX12_lake_237 : decode cX12_lake 237 = .ok (.bipush 10, 2) := by decide +kernel
theorem dX12_lake_239 : decode cX12_lake 239 = .ok (.idiv, 1) := by decide +kernel
theorem dX12_lake_240 : decode cX12_lake 240 = .ok (.iadd, 1) := by decide +kernel
theorem dX12_lake_241 : decode cX12_lake 241 = .ok (.bipush 14, 2) := by decide +kernel
theorem dX12_lake_243 : decode cX12_lake 243 = .ok (.isub, 1) := by decide +kernel
theorem dX12_lake_244 : decode cX12_lake 244 = .ok (.invokevirtual 180, 3) := by decide +kernel
theorem dX12_lake_247 : decode cX12_lake 247 = .ok (.goto 4, 3) := by decide +kernel
theorem dX12_lake_250 : decode cX12_lake 250 = .ok (.iconst (-1), 1) := by decide +kernel
theorem dX12_lake_251 : decode cX12_lake 251 = .ok (.ireturn, 1) := by decide +kernel
theorem dX12_arm_0 : decode cX12_arm 0 = .ok (.iload_n 2, 1) := by decide +kernel
theorem dX12_arm_1 : decode cX12_arm 1 = .ok (.ifCond .ne 23, 3) := by decide +kernel
theorem dX12_arm_4 : decode cX12_arm 4 = .ok (.iconst 2, 1) := by decide +kernel
theorem dX12_arm_5 : decode cX12_arm 5 = .ok (.iload_n 1, 1) := by decide +kernel
theorem dX12_arm_6 : decode cX12_arm 6 = .ok (.aload_n 0, 1) := by decide +kernel
theorem dX12_arm_7 : decode cX12_arm 7 = .ok (.iconst 2, 1) := by decide +kernel
theorem dX12_arm_8 : decode cX12_arm 8 = .ok (.invokevirtual 180, 3) := by decide +kernel
theorem dX12_arm_11 : decode cX12_arm 11 = .ok (.irem, 1) := by decide +kernel
theorem dX12_arm_12 : decode cX12_arm 12 = .ok (.imul, 1) := by decide +kernel
theorem dX12_arm_13 : decode cX12_arm 13 = .ok (.iconst 1, 1) := by decide +kernel
theorem dX12_arm_14 : decode cX12_arm 14 = .ok (.iadd, 1) := by decide +kernel
theorem dX12_arm_15 : decode cX12_arm 15 = .ok (.aload_n 0, 1) := by decide +kernel
theorem dX12_arm_16 : decode cX12_arm 16 = .ok (.iconst 2, 1) := by decide +kernel
theorem dX12_arm_17 : decode cX12_arm 17 = .ok (.invokevirtual 180, 3) := by decide +kernel
theorem dX12_arm_20 : decode cX12_arm 20 = .ok (.isub, 1) := by decide +kernel
theorem dX12_arm_21 : decode cX12_arm 21 = .ok (.goto 20, 3) := by decide +kernel
theorem dX12_arm_24 : decode cX12_arm 24 = .ok (.iconst 2, 1) := by decide +kernel
theorem dX12_arm_25 : decode cX12_arm 25 = .ok (.iload_n 1, 1) := by decide +kernel
theorem dX12_arm_26 : decode cX12_arm 26 = .ok (.aload_n 0, 1) := by decide +kernel
theorem dX12_arm_27 : decode cX12_arm 27 = .ok (.iconst 2, 1) := by decide +kernel
theorem dX12_arm_28 : decode cX12_arm 28 = .ok (.invokevirtual 180, 3) := by decide +kernel
theorem dX12_arm_31 : decode cX12_arm 31 = .ok (.idiv, 1) := by decide +kernel
theorem dX12_arm_32 : decode cX12_arm 32 = .ok (.imul, 1) := by decide +kernel
theorem dX12_arm_33 : decode cX12_arm 33 = .ok (.iconst 1, 1) := by decide +kernel
theorem dX12_arm_34 : decode cX12_arm 34 = .ok (.iadd, 1) := by decide +kernel
theorem dX12_arm_35 : decode cX12_arm 35 = .ok (.aload_n 0, 1) := by decide +kernel
theorem dX12_arm_36 : decode cX12_arm 36 = .ok (.iconst 3, 1) := by decide +kernel
theorem dX12_arm_37 : decode cX12_arm 37 = .ok (.invokevirtual 180, 3) := by decide +kernel
theorem dX12_arm_40 : decode cX12_arm 40 = .ok (.isub, 1) := by decide +kernel
theorem dX12_arm_41 : decode cX12_arm 41 = .ok (.ireturn, 1) := by decide +kernel
theorem dX12_gravesList_0 : decode cX12_gravesList 0 = .ok (.iconst 0, 1) := by decide +kernel
theorem dX12_gravesList_1 : decode cX12_gravesList 1 = .ok (.istore_n 3, 1) := by decide +kernel
theorem dX12_gravesList_2 : decode cX12_gravesList 2 = .ok (.iconst 0, 1) := by decide +kernel
theorem dX12_gravesList_3 : decode cX12_gravesList 3 = .ok (.istore 4, 2) := by decide +kernel
theorem dX12_gravesList_5 : decode cX12_gravesList 5 = .ok (.iload 4, 2) := by decide +kernel
theorem dX12_gravesList_7 : decode cX12_gravesList 7 = .ok (.aload_n 0, 1) := by decide +kernel
theorem dX12_gravesList_8 : decode cX12_gravesList 8 = .ok (.bipush 12, 2) := by decide +kernel
theorem dX12_gravesList_10 : decode cX12_gravesList 10 = .ok (.invokevirtual 180, 3) := by decide +kernel
theorem dX12_gravesList_13 : decode cX12_gravesList 13 = .ok (.if_icmp .ge 52, 3) := by decide +kernel
theorem dX12_gravesList_16 : decode cX12_gravesList 16 = .ok (.iload_n 3, 1) := by decide +kernel
theorem dX12_gravesList_17 : decode cX12_gravesList 17 = .ok (.iload 4, 2) := by decide +kernel
theorem dX12_gravesList_19 : decode cX12_gravesList 19 = .ok (.iload_n 2, 1) := by decide +kernel
theorem dX12_gravesList_20 : decode cX12_gravesList 20 = .ok (.if_icmp .ne 7, 3) := by decide +kernel
theorem dX12_gravesList_23 : decode cX12_gravesList 23 = .ok (.iconst 0, 1) := by decide +kernel
theorem dX12_gravesList_24 : decode cX12_gravesList 24 = .ok (.goto 33, 3) := by decide +kernel
theorem dX12_gravesList_27 : decode cX12_gravesList 27 = .ok (.aload_n 0, 1) := by decide +kernel
theorem dX12_gravesList_28 : decode cX12_gravesList 28 = .ok (.bipush 56, 2) := by decide +kernel
theorem dX12_gravesList_30 : decode cX12_gravesList 30 = .ok (.iconst 2, 1) := by decide +kernel
theorem dX12_gravesList_31 : decode cX12_gravesList 31 = .ok (.iload 4, 2) := by decide +kernel
theorem dX12_gravesList_33 : decode cX12_gravesList 33 = .ok (.imul, 1) := by decide +kernel
theorem dX12_gravesList_34 : decode cX12_gravesList 34 = .ok (.iadd, 1) := by decide +kernel
theorem dX12_gravesList_35 : decode cX12_gravesList 35 = .ok (.iconst 1, 1) := by decide +kernel
theorem dX12_gravesList_36 : decode cX12_gravesList 36 = .ok (.iadd, 1) := by decide +kernel
theorem dX12_gravesList_37 : decode cX12_gravesList 37 = .ok (.invokevirtual 180, 3) := by decide +kernel
theorem dX12_gravesList_40 : decode cX12_gravesList 40 = .ok (.aload_n 0, 1) := by decide +kernel
theorem dX12_gravesList_41 : decode cX12_gravesList 41 = .ok (.aload_n 0, 1) := by decide +kernel
theorem dX12_gravesList_42 : decode cX12_gravesList 42 = .ok (.bipush 56, 2) := by decide +kernel
theorem dX12_gravesList_44 : decode cX12_gravesList 44 = .ok (.iconst 2, 1) := by decide +kernel
theorem dX12_gravesList_45 : decode cX12_gravesList 45 = .ok (.iload 4, 2) := by decide +kernel
theorem dX12_gravesList_47 : decode cX12_gravesList 47 = .ok (.imul, 1) := by decide +kernel
theorem dX12_gravesList_48 : decode cX12_gravesList 48 = .ok (.iadd, 1) := by decide +kernel
theorem dX12_gravesList_49 : decode cX12_gravesList 49 = .ok (.invokevirtual 180, 3) := by decide +kernel
theorem dX12_gravesList_52 : decode cX12_gravesList 52 = .ok (.iload_n 1, 1) := by decide +kernel
theorem dX12_gravesList_53 : decode cX12_gravesList 53 = .ok (.invokevirtual 192, 3) := by decide +kernel
theorem dX12_gravesList_56 : decode cX12_gravesList 56 = .ok (.imul, 1) := by decide +kernel
theorem dX12_gravesList_57 : decode cX12_gravesList 57 = .ok (.iadd, 1) := by decide +kernel
theorem dX12_gravesList_58 : decode cX12_gravesList 58 = .ok (.istore_n 3, 1) := by decide +kernel
theorem dX12_gravesList_59 : decode cX12_gravesList 59 = .ok (.iinc 4 1, 3) := by decide +kernel
theorem dX12_gravesList_62 : decode cX12_gravesList 62 = .ok (.goto (-57), 3) := by decide +kernel
theorem dX12_gravesList_65 : decode cX12_gravesList 65 = .ok (.iload_n 3, 1) := by decide +kernel
theorem dX12_gravesList_66 : decode cX12_gravesList 66 = .ok (.ireturn, 1) := by decide +kernel
theorem dX12_sign_0 : decode cX12_sign 0 = .ok (.iload_n 0, 1) := by decide +kernel
theorem dX12_sign_1 : decode cX12_sign 1 = .ok (.ifCond .le 7, 3) := by decide +kernel
theorem dX12_sign_4 : decode cX12_sign 4 = .ok (.iconst 1, 1) := by decide +kernel
theorem dX12_sign_5 : decode cX12_sign 5 = .ok (.goto 12, 3) := by decide +kernel
theorem dX12_sign_8 : decode cX12_sign 8 = .ok (.iload_n 0, 1) := by decide +kernel
theorem dX12_sign_9 : decode cX12_sign 9 = .ok (.ifCond .ge 7, 3) := by decide +kernel
theorem dX12_sign_12 : decode cX12_sign 12 = .ok (.iconst (-1), 1) := by decide +kernel
theorem dX12_sign_13 : decode cX12_sign 13 = .ok (.goto 4, 3) := by decide +kernel
theorem dX12_sign_16 : decode cX12_sign 16 = .ok (.iconst 0, 1) := by decide +kernel
theorem dX12_sign_17 : decode cX12_sign 17 = .ok (.ireturn, 1) := by decide +kernel
theorem dX12_size_0 : decode cX12_size 0 = .ok (.iload_n 0, 1) := by decide +kernel
theorem dX12_size_1 : decode cX12_size 1 = .ok (.ifCond .ge 8, 3) := by decide +kernel
theorem dX12_size_4 : decode cX12_size 4 = .ok (.iload_n 0, 1) := by decide +kernel
theorem dX12_size_5 : decode cX12_size 5 = .ok (.ineg, 1) := by decide +kernel
theorem dX12_size_6 : decode cX12_size 6 = .ok (.goto 4, 3) := by decide +kernel
theorem dX12_size_9 : decode cX12_size 9 = .ok (.iload_n 0, 1) := by decide +kernel
theorem dX12_size_10 : decode cX12_size 10 = .ok (.ireturn, 1) := by decide +kernel
theorem dX12_lean_0 : decode cX12_lean 0 = .ok (.iload_n 1, 1) := by decide +kernel
theorem dX12_lean_1 : decode cX12_lean 1 = .ok (.invokestatic 195, 3) := by decide +kernel
theorem dX12_lean_4 : decode cX12_lean 4 = .ok (.aload_n 0, 1) := by decide +kernel
theorem dX12_lean_5 : decode cX12_lean 5 = .ok (.bipush 6, 2) := by decide +kernel
theorem dX12_lean_7 : decode cX12_lean 7 = .ok (.invokevirtual 180, 3) := by decide +kernel
theorem dX12_lean_10 : decode cX12_lean 10 = .ok (.if_icmp .le 10, 3) := by decide +kernel
theorem dX12_lean_13 : decode cX12_lean 13 = .ok (.iload_n 1, 1) := by decide +kernel
theorem dX12_lean_14 : decode cX12_lean 14 = .ok (.invokestatic 197, 3) := by decide +kernel
theorem dX12_lean_17 : decode cX12_lean 17 = .ok (.goto 4, 3) := by decide +kernel
theorem dX12_lean_20 : decode cX12_lean 20 = .ok (.iconst 0, 1) := by decide +kernel
theorem dX12_lean_21 : decode cX12_lean 21 = .ok (.ireturn, 1) := by decide +kernel
theorem dX12_sizes_0 : decode cX12_sizes 0 = .ok (.iconst 0, 1) := by decide +kernel
theorem dX12_sizes_1 : decode cX12_sizes 1 = .ok (.istore_n 1, 1) := by decide +kernel
theorem dX12_sizes_2 : decode cX12_sizes 2 = .ok (.iconst 0, 1) := by decide +kernel
theorem dX12_sizes_3 : decode cX12_sizes 3 = .ok (.istore_n 2, 1) := by decide +kernel
theorem dX12_sizes_4 : decode cX12_sizes 4 = .ok (.iload_n 2, 1) := by decide +kernel
theorem dX12_sizes_5 : decode cX12_sizes 5 = .ok (.aload_n 0, 1) := by decide +kernel
theorem dX12_sizes_6 : decode cX12_sizes 6 = .ok (.bipush 13, 2) := by decide +kernel
theorem dX12_sizes_8 : decode cX12_sizes 8 = .ok (.invokevirtual 180, 3) := by decide +kernel
theorem dX12_sizes_11 : decode cX12_sizes 11 = .ok (.if_icmp .ge 20, 3) := by decide +kernel
theorem dX12_sizes_14 : decode cX12_sizes 14 = .ok (.iload_n 1, 1) := by decide +kernel
theorem dX12_sizes_15 : decode cX12_sizes 15 = .ok (.aload_n 0, 1) := by decide +kernel
theorem dX12_sizes_16 : decode cX12_sizes 16 = .ok (.bipush 80, 2) := by decide +kernel
theorem dX12_sizes_18 : decode cX12_sizes 18 = .ok (.iload_n 2, 1) := by decide +kernel
theorem dX12_sizes_19 : decode cX12_sizes 19 = .ok (.iadd, 1) := by decide +kernel
theorem dX12_sizes_20 : decode cX12_sizes 20 = .ok (.invokevirtual 180, 3) := by decide +kernel
theorem dX12_sizes_23 : decode cX12_sizes 23 = .ok (.iadd, 1) := by decide +kernel
theorem dX12_sizes_24 : decode cX12_sizes 24 = .ok (.istore_n 1, 1) := by decide +kernel
theorem dX12_sizes_25 : decode cX12_sizes 25 = .ok (.iinc 2 1, 3) := by decide +kernel
theorem dX12_sizes_28 : decode cX12_sizes 28 = .ok (.goto (-24), 3) := by decide +kernel
theorem dX12_sizes_31 : decode cX12_sizes 31 = .ok (.iload_n 1, 1) := by decide +kernel
theorem dX12_sizes_32 : decode cX12_sizes 32 = .ok (.ireturn, 1) := by decide +kernel
theorem dX12_axisOf_0 : decode cX12_axisOf 0 = .ok (.iload_n 0, 1) := by decide +kernel
theorem dX12_axisOf_1 : decode cX12_axisOf 1 = .ok (.ifCond .eq 8, 3) := by decide +kernel
theorem dX12_axisOf_4 : decode cX12_axisOf 4 = .ok (.iload_n 0, 1) := by decide +kernel
theorem dX12_axisOf_5 : decode cX12_axisOf 5 = .ok (.iconst 2, 1) := by decide +kernel
theorem dX12_axisOf_6 : decode cX12_axisOf 6 = .ok (.if_icmp .ne 7, 3) := by decide +kernel
theorem dX12_axisOf_9 : decode cX12_axisOf 9 = .ok (.iconst 1, 1) := by decide +kernel
theorem dX12_axisOf_10 : decode cX12_axisOf 10 = .ok (.goto 4, 3) := by decide +kernel
theorem dX12_axisOf_13 : decode cX12_axisOf 13 = .ok (.iconst 0, 1) := by decide +kernel
theorem dX12_axisOf_14 : decode cX12_axisOf 14 = .ok (.ireturn, 1) := by decide +kernel
theorem dX12_signOf_0 : decode cX12_signOf 0 = .ok (.iload_n 0, 1) := by decide +kernel
theorem dX12_signOf_1 : decode cX12_signOf 1 = .ok (.iconst 1, 1) := by decide +kernel
theorem dX12_signOf_2 : decode cX12_signOf 2 = .ok (.if_icmp .eq 8, 3) := by decide +kernel
theorem dX12_signOf_5 : decode cX12_signOf 5 = .ok (.iload_n 0, 1) := by decide +kernel
theorem dX12_signOf_6 : decode cX12_signOf 6 = .ok (.iconst 2, 1) := by decide +kernel
theorem dX12_signOf_7 : decode cX12_signOf 7 = .ok (.if_icmp .ne 7, 3) := by decide +kernel
theorem dX12_signOf_10 : decode cX12_signOf 10 = .ok (.iconst 1, 1) := by decide +kernel
theorem dX12_signOf_11 : decode cX12_signOf 11 = .ok (.goto 4, 3) := by decide +kernel
theorem dX12_signOf_14 : decode cX12_signOf 14 = .ok (.iconst (-1), 1) := by decide +kernel
theorem dX12_signOf_15 : decode cX12_signOf 15 = .ok (.ireturn, 1) := by decide +kernel
theorem dX12_blown_0 : decode cX12_blown 0 = .ok (.iload_n 1, 1) := by decide +kernel
theorem dX12_blown_1 : decode cX12_blown 1 = .ok (.iconst (-1), 1) := by decide +kernel
theorem dX12_blown_2 : decode cX12_blown 2 = .ok (.if_icmp .eq 33, 3) := by decide +kernel
theorem dX12_blown_5 : decode cX12_blown 5 = .ok (.iload_n 1, 1) := by decide +kernel
theorem dX12_blown_6 : decode cX12_blown 6 = .ok (.invokestatic 200, 3) := by decide +kernel
theorem dX12_blown_9 : decode cX12_blown 9 = .ok (.iload_n 3, 1) := by decide +kernel
theorem dX12_blown_10 : decode cX12_blown 10 = .ok (.if_icmp .ne 25, 3) := by decide +kernel
theorem dX12_blown_13 : decode cX12_blown 13 = .ok (.aload_n 0, 1) := by decide +kernel
theorem dX12_blown_14 : decode cX12_blown 14 = .ok (.invokevirtual 203, 3) := by decide +kernel
theorem dX12_blown_17 : decode cX12_blown 17 = .ok (.iload_n 2, 1) := by decide +kernel
theorem dX12_blown_18 : decode cX12_blown 18 = .ok (.imul, 1) := by decide +kernel
theorem dX12_blown_19 : decode cX12_blown 19 = .ok (.aload_n 0, 1) := by decide +kernel
theorem dX12_blown_20 : decode cX12_blown 20 = .ok (.bipush 7, 2) := by decide +kernel
theorem dX12_blown_22 : decode cX12_blown 22 = .ok (.invokevirtual 180, 3) := by decide +kernel
theorem dX12_blown_25 : decode cX12_blown 25 = .ok (.if_icmp .lt 10, 3) := by decide +kernel
theorem dX12_blown_28 : decode cX12_blown 28 = .ok (.iload_n 1, 1) := by decide +kernel
theorem dX12_blown_29 : decode cX12_blown 29 = .ok (.invokestatic 206, 3) := by decide +kernel
theorem dX12_blown_32 : decode cX12_blown 32 = .ok (.goto 4, 3) := by decide +kernel
theorem dX12_blown_35 : decode cX12_blown 35 = .ok (.iconst 0, 1) := by decide +kernel
theorem dX12_blown_36 : decode cX12_blown 36 = .ok (.ireturn, 1) := by decide +kernel
theorem dX12_canLie_0 : decode cX12_canLie 0 = .ok (.iload_n 1, 1) := by decide +kernel
theorem dX12_canLie_1 : decode cX12_canLie 1 = .ok (.ifCond .lt 41, 3) := by decide +kernel
theorem dX12_canLie_4 : decode cX12_canLie 4 = .ok (.iload_n 2, 1) := by decide +kernel
theorem dX12_canLie_5 : decode cX12_canLie 5 = .ok (.ifCond .lt 37, 3) := by decide +kernel
theorem dX12_canLie_8 : decode cX12_canLie 8 = .ok (.iload_n 1, 1) := by decide +kernel
theorem dX12_canLie_9 : decode cX12_canLie 9 = .ok (.aload_n 0, 1) := by decide +kernel
theorem dX12_canLie_10 : decode cX12_canLie 10 = .ok (.iconst 2, 1) := by decide +kernel
theorem dX12_canLie_11 : decode cX12_canLie 11 = .ok (.invokevirtual 180, 3) := by decide +kernel
theorem dX12_canLie_14 : decode cX12_canLie 14 = .ok (.iadd, 1) := by decide +kernel
theorem dX12_canLie_15 : decode cX12_canLie 15 = .ok (.aload_n 0, 1) := by decide +kernel
theorem dX12_canLie_16 : decode cX12_canLie 16 = .ok (.iconst 0, 1) := by decide +kernel
theorem dX12_canLie_17 : decode cX12_canLie 17 = .ok (.invokevirtual 180, 3) := by decide +kernel
theorem dX12_canLie_20 : decode cX12_canLie 20 = .ok (.if_icmp .gt 22, 3) := by decide +kernel
theorem dX12_canLie_23 : decode cX12_canLie 23 = .ok (.iload_n 2, 1) := by decide +kernel
theorem dX12_canLie_24 : decode cX12_canLie 24 = .ok (.aload_n 0, 1) := by decide +kernel
theorem dX12_canLie_25 : decode cX12_canLie 25 = .ok (.iconst 3, 1) := by decide +kernel
theorem dX12_canLie_26 : decode cX12_canLie 26 = .ok (.invokevirtual 180, 3) := by decide +kernel
theorem dX12_canLie_29 : decode cX12_canLie 29 = .ok (.iadd, 1) := by decide +kernel
theorem dX12_canLie_30 : decode cX12_canLie 30 = .ok (.aload_n 0, 1) := by decide +kernel
theorem dX12_canLie_31 : decode cX12_canLie 31 = .ok (.iconst 1, 1) := by decide +kernel
theorem dX12_canLie_32 : decode cX12_canLie 32 = .ok (.invokevirtual 180, 3) := by decide +kernel
theorem dX12_canLie_35 : decode cX12_canLie 35 = .ok (.if_icmp .gt 7, 3) := by decide +kernel
theorem dX12_canLie_38 : decode cX12_canLie 38 = .ok (.iconst 1, 1) := by decide +kernel
theorem dX12_canLie_39 : decode cX12_canLie 39 = .ok (.goto 4, 3) := by decide +kernel
theorem dX12_canLie_42 : decode cX12_canLie 42 = .ok (.iconst 0, 1) := by decide +kernel
theorem dX12_canLie_43 : decode cX12_canLie 43 = .ok (.istore_n 3, 1) := by decide +kernel
theorem dX12_canLie_44 : decode cX12_canLie 44 = .ok (.iconst 0, 1) := by decide +kernel
theorem dX12_canLie_45 : decode cX12_canLie 45 = .ok (.istore 4, 2) := by decide +kernel
theorem dX12_canLie_47 : decode cX12_canLie 47 = .ok (.iload 4, 2) := by decide +kernel
theorem dX12_canLie_49 : decode cX12_canLie 49 = .ok (.aload_n 0, 1) := by decide +kernel
theorem dX12_canLie_50 : decode cX12_canLie 50 = .ok (.bipush 11, 2) := by decide +kernel
theorem dX12_canLie_52 : decode cX12_canLie 52 = .ok (.invokevirtual 180, 3) := by decide +kernel
theorem dX12_canLie_55 : decode cX12_canLie 55 = .ok (.if_icmp .ge 75, 3) := by decide +kernel
theorem dX12_canLie_58 : decode cX12_canLie 58 = .ok (.iload_n 3, 1) := by decide +kernel
theorem dX12_canLie_59 : decode cX12_canLie 59 = .ok (.ifCond .eq 63, 3) := by decide +kernel
theorem dX12_canLie_62 : decode cX12_canLie 62 = .ok (.aload_n 0, 1) := by decide +kernel
theorem dX12_canLie_63 : decode cX12_canLie 63 = .ok (.bipush 16, 2) := by decide +kernel
theorem dX12_canLie_65 : decode cX12_canLie 65 = .ok (.iconst 2, 1) := by decide +kernel
theorem dX12_canLie_66 : decode cX12_canLie 66 = .ok (.iload 4, 2) := by decide +kernel
theorem dX12_canLie_68 : decode cX12_canLie 68 = .ok (.imul, 1) := by decide +kernel
theorem dX12_canLie_69 : decode cX12_canLie 69 = .ok (.iadd, 1) := by decide +kernel
theorem dX12_canLie_70 : decode cX12_canLie 70 = .ok (.invokevirtual 180, 3) := by decide +kernel
theorem dX12_canLie_73 : decode cX12_canLie 73 = .ok (.iload_n 1, 1) := by decide +kernel
theorem dX12_canLie_74 : decode cX12_canLie 74 = .ok (.iload_n 1, 1) := by decide +kernel
theorem dX12_canLie_75 : decode cX12_canLie 75 = .ok (.aload_n 0, 1) := by decide +kernel
theorem dX12_canLie_76 : decode cX12_canLie 76 = .ok (.iconst 2, 1) := by decide +kernel
theorem dX12_canLie_77 : decode cX12_canLie 77 = .ok (.invokevirtual 180, 3) := by decide +kernel
theorem dX12_canLie_80 : decode cX12_canLie 80 = .ok (.iadd, 1) := by decide +kernel
theorem dX12_canLie_81 : decode cX12_canLie 81 = .ok (.iconst 1, 1) := by decide +kernel
theorem dX12_canLie_82 : decode cX12_canLie 82 = .ok (.isub, 1) := by decide +kernel
theorem dX12_canLie_83 : decode cX12_canLie 83 = .ok (.invokestatic 109, 3) := by decide +kernel
theorem dX12_canLie_86 : decode cX12_canLie 86 = .ok (.ifCond .eq 32, 3) := by decide +kernel
theorem dX12_canLie_89 : decode cX12_canLie 89 = .ok (.aload_n 0, 1) := by decide +kernel
theorem dX12_canLie_90 : decode cX12_canLie 90 = .ok (.bipush 16, 2) := by decide +kernel
theorem dX12_canLie_92 : decode cX12_canLie 92 = .ok (.iconst 2, 1) := by decide +kernel
theorem dX12_canLie_93 : decode cX12_canLie 93 = .ok (.iload 4, 2) := by decide +kernel
theorem dX12_canLie_95 : decode cX12_canLie 95 = .ok (.imul, 1) := by decide +kernel
theorem dX12_canLie_96 : decode cX12_canLie 96 = .ok (.iadd, 1) := by decide +kernel
theorem dX12_canLie_97 : decode cX12_canLie 97 = .ok (.iconst 1, 1) := by decide +kernel
theorem dX12_canLie_98 : decode cX12_canLie 98 = .ok (.iadd, 1) := by decide +kernel
theorem dX12_canLie_99 : decode cX12_canLie 99 = .ok (.invokevirtual 180, 3) := by decide +kernel
theorem dX12_canLie_102 : decode cX12_canLie 102 = .ok (.iload_n 2, 1) := by decide +kernel
theorem dX12_canLie_103 : decode cX12_canLie 103 = .ok (.iload_n 2, 1) := by decide +kernel
theorem dX12_canLie_104 : decode cX12_canLie 104 = .ok (.aload_n 0, 1) := by decide +kernel
theorem dX12_canLie_105 : decode cX12_canLie 105 = .ok (.iconst 3, 1) := by decide +kernel
theorem dX12_canLie_106 : decode cX12_canLie 106 = .ok (.invokevirtual 180, 3) := by decide +kernel
theorem dX12_canLie_109 : decode cX12_canLie 109 = .ok (.iadd, 1) := by decide +kernel
theorem dX12_canLie_110 : decode cX12_canLie 110 = .ok (.iconst 1, 1) := by decide +kernel
theorem dX12_canLie_111 : decode cX12_canLie 111 = .ok (.isub, 1) := by decide +kernel
theorem dX12_canLie_112 : decode cX12_canLie 112 = .ok (.invokestatic 109, 3) := by decide +kernel
theorem dX12_canLie_115 : decode cX12_canLie 115 = .ok (.ifCond .ne 7, 3) := by decide +kernel
theorem dX12_canLie_118 : decode cX12_canLie 118 = .ok (.iconst 1, 1) := by decide +kernel
theorem dX12_canLie_119 : decode cX12_canLie 119 = .ok (.goto 4, 3) := by decide +kernel
theorem dX12_canLie_122 : decode cX12_canLie 122 = .ok (.iconst 0, 1) := by decide +kernel
theorem dX12_canLie_123 : decode cX12_canLie 123 = .ok (.istore_n 3, 1) := by decide +kernel
theorem dX12_canLie_124 : decode cX12_canLie 124 = .ok (.iinc 4 1, 3) := by decide +kernel
theorem dX12_canLie_127 : decode cX12_canLie 127 = .ok (.goto (-80), 3) := by decide +kernel
theorem dX12_canLie_130 : decode cX12_canLie 130 = .ok (.iload_n 3, 1) := by decide +kernel
theorem dX12_canLie_131 : decode cX12_canLie 131 = .ok (.ireturn, 1) := by decide +kernel
theorem dX12_sidesAt_0 : decode cX12_sidesAt 0 = .ok (.iload_n 2, 1) := by decide +kernel
theorem dX12_sidesAt_1 : decode cX12_sidesAt 1 = .ok (.ifCond .ne 7, 3) := by decide +kernel
theorem dX12_sidesAt_4 : decode cX12_sidesAt 4 = .ok (.iconst 1, 1) := by decide +kernel
theorem dX12_sidesAt_5 : decode cX12_sidesAt 5 = .ok (.goto 4, 3) := by decide +kernel
theorem dX12_sidesAt_8 : decode cX12_sidesAt 8 = .ok (.iconst 0, 1) := by decide +kernel
theorem dX12_sidesAt_9 : decode cX12_sidesAt 9 = .ok (.iload_n 1, 1) := by decide +kernel
theorem dX12_sidesAt_10 : decode cX12_sidesAt 10 = .ok (.aload_n 0, 1) := by decide +kernel
theorem dX12_sidesAt_11 : decode cX12_sidesAt 11 = .ok (.iconst 2, 1) := by decide +kernel
theorem dX12_sidesAt_12 : decode cX12_sidesAt 12 = .ok (.invokevirtual 180, 3) := by decide +kernel
theorem dX12_sidesAt_15 : decode cX12_sidesAt 15 = .ok (.iadd, 1) := by decide +kernel
theorem dX12_sidesAt_16 : decode cX12_sidesAt 16 = .ok (.aload_n 0, 1) := by decide +kernel
theorem dX12_sidesAt_17 : decode cX12_sidesAt 17 = .ok (.iconst 0, 1) := by decide +kernel
theorem dX12_sidesAt_18 : decode cX12_sidesAt 18 = .ok (.invokevirtual 180, 3) := by decide +kernel
theorem dX12_sidesAt_21 : decode cX12_sidesAt 21 = .ok (.if_icmp .ne 7, 3) := by decide +kernel
theorem dX12_sidesAt_24 : decode cX12_sidesAt 24 = .ok (.iconst 2, 1) := by decide +kernel
theorem dX12_sidesAt_25 : decode cX12_sidesAt 25 = .ok (.goto 4, 3) := by decide +kernel
theorem dX12_sidesAt_28 : decode cX12_sidesAt 28 = .ok (.iconst 0, 1) := by decide +kernel
theorem dX12_sidesAt_29 : decode cX12_sidesAt 29 = .ok (.iadd, 1) := by decide +kernel
theorem dX12_sidesAt_30 : decode cX12_sidesAt 30 = .ok (.iload_n 2, 1) := by decide +kernel
theorem dX12_sidesAt_31 : decode cX12_sidesAt 31 = .ok (.aload_n 0, 1) := by decide +kernel
theorem dX12_sidesAt_32 : decode cX12_sidesAt 32 = .ok (.iconst 3, 1) := by decide +kernel
theorem dX12_sidesAt_33 : decode cX12_sidesAt 33 = .ok (.invokevirtual 180, 3) := by decide +kernel
theorem dX12_sidesAt_36 : decode cX12_sidesAt 36 = .ok (.iadd, 1) := by decide +kernel
theorem dX12_sidesAt_37 : decode cX12_sidesAt 37 = .ok (.aload_n 0, 1) := by decide +kernel
theorem dX12_sidesAt_38 : decode cX12_sidesAt 38 = .ok (.iconst 1, 1) := by decide +kernel
theorem dX12_sidesAt_39 : decode cX12_sidesAt 39 = .ok (.invokevirtual 180, 3) := by decide +kernel
theorem dX12_sidesAt_42 : decode cX12_sidesAt 42 = .ok (.if_icmp .ne 7, 3) := by decide +kernel
theorem dX12_sidesAt_45 : decode cX12_sidesAt 45 = .ok (.iconst 4, 1) := by decide +kernel
theorem dX12_sidesAt_46 : decode cX12_sidesAt 46 = .ok (.goto 4, 3) := by decide +kernel
theorem dX12_sidesAt_49 : decode cX12_sidesAt 49 = .ok (.iconst 0, 1) := by decide +kernel
theorem dX12_sidesAt_50 : decode cX12_sidesAt 50 = .ok (.iadd, 1) := by decide +kernel
theorem dX12_sidesAt_51 : decode cX12_sidesAt 51 = .ok (.iload_n 1, 1) := by decide +kernel
theorem dX12_sidesAt_52 : decode cX12_sidesAt 52 = .ok (.ifCond .ne 8, 3) := by decide +kernel
theorem dX12_sidesAt_55 : decode cX12_sidesAt 55 = .ok (.bipush 8, 2) := by decide +kernel
theorem dX12_sidesAt_57 : decode cX12_sidesAt 57 = .ok (.goto 4, 3) := by decide +kernel
theorem dX12_sidesAt_60 : decode cX12_sidesAt 60 = .ok (.iconst 0, 1) := by decide +kernel
theorem dX12_sidesAt_61 : decode cX12_sidesAt 61 = .ok (.iadd, 1) := by decide +kernel
theorem dX12_sidesAt_62 : decode cX12_sidesAt 62 = .ok (.ireturn, 1) := by decide +kernel
theorem dX12_deeds_0 : decode cX12_deeds 0 = .ok (.aload_n 0, 1) := by decide +kernel
theorem dX12_deeds_1 : decode cX12_deeds 1 = .ok (.getfield 7, 3) := by decide +kernel
theorem dX12_deeds_4 : decode cX12_deeds 4 = .ok (.aload_n 0, 1) := by decide +kernel
theorem dX12_deeds_5 : decode cX12_deeds 5 = .ok (.getfield 209, 3) := by decide +kernel
theorem dX12_deeds_8 : decode cX12_deeds 8 = .ok (.iaload, 1) := by decide +kernel
theorem dX12_deeds_9 : decode cX12_deeds 9 = .ok (.ireturn, 1) := by decide +kernel
theorem dX12_deedOf_0 : decode cX12_deedOf 0 = .ok (.aload_n 0, 1) := by decide +kernel
theorem dX12_deedOf_1 : decode cX12_deedOf 1 = .ok (.getfield 7, 3) := by decide +kernel
theorem dX12_deedOf_4 : decode cX12_deedOf 4 = .ok (.aload_n 0, 1) := by decide +kernel
theorem dX12_deedOf_5 : decode cX12_deedOf 5 = .ok (.getfield 209, 3) := by decide +kernel
theorem dX12_deedOf_8 : decode cX12_deedOf 8 = .ok (.iconst 1, 1) := by decide +kernel
theorem dX12_deedOf_9 : decode cX12_deedOf 9 = .ok (.iadd, 1) := by decide +kernel
theorem dX12_deedOf_10 : decode cX12_deedOf 10 = .ok (.iconst 3, 1) := by decide +kernel
theorem dX12_deedOf_11 : decode cX12_deedOf 11 = .ok (.iload_n 1, 1) := by decide +kernel
theorem dX12_deedOf_12 : decode cX12_deedOf 12 = .ok (.imul, 1) := by decide +kernel
theorem dX12_deedOf_13 : decode cX12_deedOf 13 = .ok (.iadd, 1) := by decide +kernel
theorem dX12_deedOf_14 : decode cX12_deedOf 14 = .ok (.iload_n 2, 1) := by decide +kernel
theorem dX12_deedOf_15 : decode cX12_deedOf 15 = .ok (.iadd, 1) := by decide +kernel
theorem dX12_deedOf_16 : decode cX12_deedOf 16 = .ok (.iaload, 1) := by decide +kernel
theorem dX12_deedOf_17 : decode cX12_deedOf 17 = .ok (.ireturn, 1) := by decide +kernel
theorem dX12_deed_0 : decode cX12_deed 0 = .ok (.aload_n 0, 1) := by decide +kernel
theorem dX12_deed_1 : decode cX12_deed 1 = .ok (.iconst 1, 1) := by decide +kernel
theorem dX12_deed_2 : decode cX12_deed 2 = .ok (.iload_n 1, 1) := by decide +kernel
theorem dX12_deed_3 : decode cX12_deed 3 = .ok (.invokevirtual 144, 3) := by decide +kernel
theorem dX12_deed_6 : decode cX12_deed 6 = .ok (.ifCond .ne 6, 3) := by decide +kernel
theorem dX12_deed_9 : decode cX12_deed 9 = .ok (.bipush (-2), 2) := by decide +kernel
theorem dX12_deed_11 : decode cX12_deed 11 = .ok (.ireturn, 1) := by decide +kernel
theorem dX12_deed_12 : decode cX12_deed 12 = .ok (.aload_n 0, 1) := by decide +kernel
theorem dX12_deed_13 : decode cX12_deed 13 = .ok (.iconst 1, 1) := by decide +kernel
theorem dX12_deed_14 : decode cX12_deed 14 = .ok (.iload_n 1, 1) := by decide +kernel
theorem dX12_deed_15 : decode cX12_deed 15 = .ok (.invokestatic 174, 3) := by decide +kernel
theorem dX12_deed_18 : decode cX12_deed 18 = .ok (.putfield 209, 3) := by decide +kernel
theorem dX12_deed_21 : decode cX12_deed 21 = .ok (.iload_n 2, 1) := by decide +kernel
theorem dX12_deed_22 : decode cX12_deed 22 = .ok (.iconst (-1), 1) := by decide +kernel
theorem dX12_deed_23 : decode cX12_deed 23 = .ok (.if_icmp .ne 17, 3) := by decide +kernel
theorem dX12_deed_26 : decode cX12_deed 26 = .ok (.iload_n 3, 1) := by decide +kernel
theorem dX12_deed_27 : decode cX12_deed 27 = .ok (.ifCond .ne 10, 3) := by decide +kernel
theorem dX12_deed_30 : decode cX12_deed 30 = .ok (.aload_n 0, 1) := by decide +kernel
theorem dX12_deed_31 : decode cX12_deed 31 = .ok (.invokevirtual 212, 3) := by decide +kernel
theorem dX12_deed_34 : decode cX12_deed 34 = .ok (.goto 5, 3) := by decide +kernel
theorem dX12_deed_37 : decode cX12_deed 37 = .ok (.bipush (-2), 2) := by decide +kernel
theorem dX12_deed_39 : decode cX12_deed 39 = .ok (.ireturn, 1) := by decide +kernel
theorem dX12_deed_40 : decode cX12_deed 40 = .ok (.iload_n 2, 1) := by decide +kernel
theorem dX12_deed_41 : decode cX12_deed 41 = .ok (.iconst 0, 1) := by decide +kernel
theorem dX12_deed_42 : decode cX12_deed 42 = .ok (.aload_n 0, 1) := by decide +kernel
theorem dX12_deed_43 : decode cX12_deed 43 = .ok (.invokevirtual 212, 3) := by decide +kernel
theorem dX12_deed_46 : decode cX12_deed 46 = .ok (.iconst 1, 1) := by decide +kernel
theorem dX12_deed_47 : decode cX12_deed 47 = .ok (.isub, 1) := by decide +kernel
theorem dX12_deed_48 : decode cX12_deed 48 = .ok (.invokestatic 109, 3) := by decide +kernel
theorem dX12_deed_51 : decode cX12_deed 51 = .ok (.ifCond .eq 21, 3) := by decide +kernel
theorem dX12_deed_54 : decode cX12_deed 54 = .ok (.iload_n 3, 1) := by decide +kernel
theorem dX12_deed_55 : decode cX12_deed 55 = .ok (.iconst 0, 1) := by decide +kernel
theorem dX12_deed_56 : decode cX12_deed 56 = .ok (.iconst 2, 1) := by decide +kernel
theorem dX12_deed_57 : decode cX12_deed 57 = .ok (.invokestatic 109, 3) := by decide +kernel
theorem dX12_deed_60 : decode cX12_deed 60 = .ok (.ifCond .eq 12, 3) := by decide +kernel
theorem dX12_deed_63 : decode cX12_deed 63 = .ok (.aload_n 0, 1) := by decide +kernel
theorem dX12_deed_64 : decode cX12_deed 64 = .ok (.iload_n 2, 1) := by decide +kernel
theorem dX12_deed_65 : decode cX12_deed 65 = .ok (.iload_n 3, 1) := by decide +kernel
theorem dX12_deed_66 : decode cX12_deed 66 = .ok (.invokevirtual 215, 3) := by decide +kernel
theorem dX12_deed_69 : decode cX12_deed 69 = .ok (.goto 5, 3) := by decide +kernel
theorem dX12_deed_72 : decode cX12_deed 72 = .ok (.bipush (-2), 2) := by decide +kernel
theorem dX12_deed_74 : decode cX12_deed 74 = .ok (.ireturn, 1) := by decide +kernel
theorem dX12_begins_0 : decode cX12_begins 0 = .ok (.aload_n 0, 1) := by decide +kernel
theorem dX12_begins_1 : decode cX12_begins 1 = .ok (.aload_n 0, 1) := by decide +kernel
theorem dX12_begins_2 : decode cX12_begins 2 = .ok (.iconst 4, 1) := by decide +kernel
theorem dX12_begins_3 : decode cX12_begins 3 = .ok (.invokevirtual 180, 3) := by decide +kernel
theorem dX12_begins_6 : decode cX12_begins 6 = .ok (.putfield 218, 3) := by decide +kernel
theorem dX12_begins_9 : decode cX12_begins 9 = .ok (.aload_n 0, 1) := by decide +kernel
theorem dX12_begins_10 : decode cX12_begins 10 = .ok (.aload_n 0, 1) := by decide +kernel
theorem dX12_begins_11 : decode cX12_begins 11 = .ok (.iconst 5, 1) := by decide +kernel
theorem dX12_begins_12 : decode cX12_begins 12 = .ok (.invokevirtual 180, 3) := by decide +kernel
theorem dX12_begins_15 : decode cX12_begins 15 = .ok (.putfield 221, 3) := by decide +kernel
theorem dX12_begins_18 : decode cX12_begins 18 = .ok (.aload_n 0, 1) := by decide +kernel
theorem dX12_begins_19 : decode cX12_begins 19 = .ok (.iconst 0, 1) := by decide +kernel
theorem dX12_begins_20 : decode cX12_begins 20 = .ok (.putfield 224, 3) := by decide +kernel
theorem dX12_begins_23 : decode cX12_begins 23 = .ok (.aload_n 0, 1) := by decide +kernel
theorem dX12_begins_24 : decode cX12_begins 24 = .ok (.iconst 0, 1) := by decide +kernel
theorem dX12_begins_25 : decode cX12_begins 25 = .ok (.putfield 227, 3) := by decide +kernel
theorem dX12_begins_28 : decode cX12_begins 28 = .ok (.aload_n 0, 1) := by decide +kernel
theorem dX12_begins_29 : decode cX12_begins 29 = .ok (.aload_n 0, 1) := by decide +kernel
theorem dX12_begins_30 : decode cX12_begins 30 = .ok (.aload_n 0, 1) := by decide +kernel
theorem dX12_begins_31 : decode cX12_begins 31 = .ok (.getfield 218, 3) := by decide +kernel
theorem dX12_begins_34 : decode cX12_begins 34 = .ok (.aload_n 0, 1) := by decide +kernel
theorem dX12_begins_35 : decode cX12_begins 35 = .ok (.getfield 221, 3) := by decide +kernel
theorem dX12_begins_38 : decode cX12_begins 38 = .ok (.invokevirtual 230, 3) := by decide +kernel
theorem dX12_begins_41 : decode cX12_begins 41 = .ok (.putfield 233, 3) := by decide +kernel
theorem dX12_begins_44 : decode cX12_begins 44 = .ok (.aload_n 0, 1) := by decide +kernel
theorem dX12_begins_45 : decode cX12_begins 45 = .ok (.iconst 0, 1) := by decide +kernel
theorem dX12_begins_46 : decode cX12_begins 46 = .ok (.putfield 236, 3) := by decide +kernel
theorem dX12_begins_49 : decode cX12_begins 49 = .ok (.aload_n 0, 1) := by decide +kernel
theorem dX12_begins_50 : decode cX12_begins 50 = .ok (.iconst 0, 1) := by decide +kernel
theorem dX12_begins_51 : decode cX12_begins 51 = .ok (.putfield 239, 3) := by decide +kernel
theorem dX12_begins_54 : decode cX12_begins 54 = .ok (.aload_n 0, 1) := by decide +kernel
theorem dX12_begins_55 : decode cX12_begins 55 = .ok (.iconst 0, 1) := by decide +kernel
theorem dX12_begins_56 : decode cX12_begins 56 = .ok (.putfield 242, 3) := by decide +kernel
theorem dX12_begins_59 : decode cX12_begins 59 = .ok (.aload_n 0, 1) := by decide +kernel
theorem dX12_begins_60 : decode cX12_begins 60 = .ok (.iconst (-1), 1) := by decide +kernel
theorem dX12_begins_61 : decode cX12_begins 61 = .ok (.putfield 245, 3) := by decide +kernel
theorem dX12_begins_64 : decode cX12_begins 64 = .ok (.aload_n 0, 1) := by decide +kernel
theorem dX12_begins_65 : decode cX12_begins 65 = .ok (.iconst 0, 1) := by decide +kernel
theorem dX12_begins_66 : decode cX12_begins 66 = .ok (.putfield 248, 3) := by decide +kernel
theorem dX12_begins_69 : decode cX12_begins 69 = .ok (.aload_n 0, 1) := by decide +kernel
theorem dX12_begins_70 : decode cX12_begins 70 = .ok (.iconst 0, 1) := by decide +kernel
theorem dX12_begins_71 : decode cX12_begins 71 = .ok (.putfield 251, 3) := by decide +kernel
theorem dX12_begins_74 : decode cX12_begins 74 = .ok (.iconst 0, 1) := by decide +kernel
theorem dX12_begins_75 : decode cX12_begins 75 = .ok (.istore_n 1, 1) := by decide +kernel
theorem dX12_begins_76 : decode cX12_begins 76 = .ok (.iload_n 1, 1) := by decide +kernel
theorem dX12_begins_77 : decode cX12_begins 77 = .ok (.iconst 5, 1) := by decide +kernel
theorem dX12_begins_78 : decode cX12_begins 78 = .ok (.if_icmp .ge 16, 3) := by decide +kernel
theorem dX12_begins_81 : decode cX12_begins 81 = .ok (.aload_n 0, 1) := by decide +kernel
theorem dX12_begins_82 : decode cX12_begins 82 = .ok (.getfield 20, 3) := by decide +kernel
theorem dX12_begins_85 : decode cX12_begins 85 = .ok (.iload_n 1, 1) := by decide +kernel
theorem dX12_begins_86 : decode cX12_begins 86 = .ok (.iconst (-1), 1) := by decide +kernel
theorem dX12_begins_87 : decode cX12_begins 87 = .ok (.iastore, 1) := by decide +kernel
theorem dX12_begins_88 : decode cX12_begins 88 = .ok (.iinc 1 1, 3) := by decide +kernel
theorem dX12_begins_91 : decode cX12_begins 91 = .ok (.goto (-15), 3) := by decide +kernel
theorem dX12_begins_94 : decode cX12_begins 94 = .ok (.iconst 0, 1) := by decide +kernel
theorem dX12_begins_95 : decode cX12_begins 95 = .ok (.istore_n 1, 1) := by decide +kernel
theorem dX12_begins_96 : decode cX12_begins 96 = .ok (.iload_n 1, 1) := by decide +kernel
theorem dX12_begins_97 : decode cX12_begins 97 = .ok (.bipush 16, 2) := by decide +kernel
theorem dX12_begins_99 : decode cX12_begins 99 = .ok (.if_icmp .ge 16, 3) := by decide +kernel
theorem dX12_begins_102 : decode cX12_begins 102 = .ok (.aload_n 0, 1) := by decide +kernel
theorem dX12_begins_103 : decode cX12_begins 103 = .ok (.getfield 23, 3) := by decide +kernel
theorem dX12_begins_106 : decode cX12_begins 106 = .ok (.iload_n 1, 1) := by decide +kernel
theorem dX12_begins_107 : decode cX12_begins 107 = .ok (.iconst 0, 1) := by decide +kernel
theorem dX12_begins_108 : decode cX12_begins 108 = .ok (.iastore, 1) := by decide +kernel
theorem dX12_begins_109 : decode cX12_begins 109 = .ok (.iinc 1 1, 3) := by decide +kernel
theorem dX12_begins_112 : decode cX12_begins 112 = .ok (.goto (-16), 3) := by decide +kernel
theorem dX12_begins_115 : decode cX12_begins 115 = .ok (.return_, 1) := by decide +kernel
theorem dX12_allWater_0 : decode cX12_allWater 0 = .ok (.iconst 0, 1) := by decide +kernel
theorem dX12_allWater_1 : decode cX12_allWater 1 = .ok (.istore_n 1, 1) := by decide +kernel
theorem dX12_allWater_2 : decode cX12_allWater 2 = .ok (.iconst 0, 1) := by decide +kernel
theorem dX12_allWater_3 : decode cX12_allWater 3 = .ok (.istore_n 2, 1) := by decide +kernel
theorem dX12_allWater_4 : decode cX12_allWater 4 = .ok (.iload_n 2, 1) := by decide +kernel
theorem dX12_allWater_5 : decode cX12_allWater 5 = .ok (.bipush 16, 2) := by decide +kernel
theorem dX12_allWater_7 : decode cX12_allWater 7 = .ok (.if_icmp .ge 18, 3) := by decide +kernel
theorem dX12_allWater_10 : decode cX12_allWater 10 = .ok (.iload_n 1, 1) := by decide +kernel
theorem dX12_allWater_11 : decode cX12_allWater 11 = .ok (.aload_n 0, 1) := by decide +kernel
theorem dX12_allWater_12 : decode cX12_allWater 12 = .ok (.getfield 23, 3) := by decide +kernel
theorem dX12_allWater_15 : decode cX12_allWater 15 = .ok (.iload_n 2, 1) := by decide +kernel
theorem dX12_allWater_16 : decode cX12_allWater 16 = .ok (.iaload, 1) := by decide +kernel
theorem dX12_allWater_17 : decode cX12_allWater 17 = .ok (.iadd, 1) := by decide +kernel
theorem dX12_allWater_18 : decode cX12_allWater 18 = .ok (.istore_n 1, 1) := by decide +kernel
theorem dX12_allWater_19 : decode cX12_allWater 19 = .ok (.iinc 2 1, 3) := by decide +kernel
theorem dX12_allWater_22 : decode cX12_allWater 22 = .ok (.goto (-18), 3) := by decide +kernel
theorem dX12_allWater_25 : decode cX12_allWater 25 = .ok (.iload_n 1, 1) := by decide +kernel
theorem dX12_allWater_26 : decode cX12_allWater 26 = .ok (.ireturn, 1) := by decide +kernel
theorem dX12_listOf_0 : decode cX12_listOf 0 = .ok (.aload_n 0, 1) := by decide +kernel
theorem dX12_listOf_1 : decode cX12_listOf 1 = .ok (.iload_n 1, 1) := by decide +kernel
theorem dX12_listOf_2 : decode cX12_listOf 2 = .ok (.iconst (-1), 1) := by decide +kernel
theorem dX12_listOf_3 : decode cX12_listOf 3 = .ok (.invokevirtual 254, 3) := by decide +kernel
theorem dX12_listOf_6 : decode cX12_listOf 6 = .ok (.istore_n 2, 1) := by decide +kernel
theorem dX12_listOf_7 : decode cX12_listOf 7 = .ok (.iconst 0, 1) := by decide +kernel
theorem dX12_listOf_8 : decode cX12_listOf 8 = .ok (.istore_n 3, 1) := by decide +kernel
theorem dX12_listOf_9 : decode cX12_listOf 9 = .ok (.iload_n 3, 1) := by decide +kernel
theorem dX12_listOf_10 : decode cX12_listOf 10 = .ok (.aload_n 0, 1) := by decide +kernel
theorem dX12_listOf_11 : decode cX12_listOf 11 = .ok (.invokevirtual 183, 3) := by decide +kernel
theorem dX12_listOf_14 : decode cX12_listOf 14 = .ok (.if_icmp .ge 44, 3) := by decide +kernel
theorem dX12_listOf_17 : decode cX12_listOf 17 = .ok (.iload_n 2, 1) := by decide +kernel
theorem dX12_listOf_18 : decode cX12_listOf 18 = .ok (.aload_n 0, 1) := by decide +kernel
theorem dX12_listOf_19 : decode cX12_listOf 19 = .ok (.getfield 20, 3) := by decide +kernel
theorem dX12_listOf_22 : decode cX12_listOf 22 = .ok (.iload_n 3, 1) := by decide +kernel
theorem dX12_listOf_23 : decode cX12_listOf 23 = .ok (.iaload, 1) := by decide +kernel
theorem dX12_listOf_24 : decode cX12_listOf 24 = .ok (.iconst (-1), 1) := by decide +kernel
theorem dX12_listOf_25 : decode cX12_listOf 25 = .ok (.if_icmp .ne 7, 3) := by decide +kernel
theorem dX12_listOf_28 : decode cX12_listOf 28 = .ok (.iconst 0, 1) := by decide +kernel
theorem dX12_listOf_29 : decode cX12_listOf 29 = .ok (.goto 21, 3) := by decide +kernel
theorem dX12_listOf_32 : decode cX12_listOf 32 = .ok (.aload_n 0, 1) := by decide +kernel
theorem dX12_listOf_33 : decode cX12_listOf 33 = .ok (.iload_n 3, 1) := by decide +kernel
theorem dX12_listOf_34 : decode cX12_listOf 34 = .ok (.iconst 0, 1) := by decide +kernel
theorem dX12_listOf_35 : decode cX12_listOf 35 = .ok (.invokevirtual 189, 3) := by decide +kernel
theorem dX12_listOf_38 : decode cX12_listOf 38 = .ok (.aload_n 0, 1) := by decide +kernel
theorem dX12_listOf_39 : decode cX12_listOf 39 = .ok (.aload_n 0, 1) := by decide +kernel
theorem dX12_listOf_40 : decode cX12_listOf 40 = .ok (.getfield 20, 3) := by decide +kernel
theorem dX12_listOf_43 : decode cX12_listOf 43 = .ok (.iload_n 3, 1) := by decide +kernel
theorem dX12_listOf_44 : decode cX12_listOf 44 = .ok (.iaload, 1) := by decide +kernel
theorem dX12_listOf_45 : decode cX12_listOf 45 = .ok (.iload_n 1, 1) := by decide +kernel
theorem dX12_listOf_46 : decode cX12_listOf 46 = .ok (.invokevirtual 192, 3) := by decide +kernel
theorem dX12_listOf_49 : decode cX12_listOf 49 = .ok (.imul, 1) := by decide +kernel
theorem dX12_listOf_50 : decode cX12_listOf 50 = .ok (.iadd, 1) := by decide +kernel
theorem dX12_listOf_51 : decode cX12_listOf 51 = .ok (.istore_n 2, 1) := by decide +kernel
theorem dX12_listOf_52 : decode cX12_listOf 52 = .ok (.iinc 3 1, 3) := by decide +kernel
theorem dX12_listOf_55 : decode cX12_listOf 55 = .ok (.goto (-46), 3) := by decide +kernel
theorem dX12_listOf_58 : decode cX12_listOf 58 = .ok (.iconst 0, 1) := by decide +kernel
theorem dX12_listOf_59 : decode cX12_listOf 59 = .ok (.istore_n 3, 1) := by decide +kernel
theorem dX12_listOf_60 : decode cX12_listOf 60 = .ok (.iload_n 3, 1) := by decide +kernel
theorem dX12_listOf_61 : decode cX12_listOf 61 = .ok (.aload_n 0, 1) := by decide +kernel
theorem dX12_listOf_62 : decode cX12_listOf 62 = .ok (.invokevirtual 257, 3) := by decide +kernel
theorem dX12_listOf_65 : decode cX12_listOf 65 = .ok (.if_icmp .ge 25, 3) := by decide +kernel
theorem dX12_listOf_68 : decode cX12_listOf 68 = .ok (.iload_n 2, 1) := by decide +kernel
theorem dX12_listOf_69 : decode cX12_listOf 69 = .ok (.aload_n 0, 1) := by decide +kernel
theorem dX12_listOf_70 : decode cX12_listOf 70 = .ok (.getfield 23, 3) := by decide +kernel
theorem dX12_listOf_73 : decode cX12_listOf 73 = .ok (.iload_n 3, 1) := by decide +kernel
theorem dX12_listOf_74 : decode cX12_listOf 74 = .ok (.iaload, 1) := by decide +kernel
theorem dX12_listOf_75 : decode cX12_listOf 75 = .ok (.aload_n 0, 1) := by decide +kernel
theorem dX12_listOf_76 : decode cX12_listOf 76 = .ok (.iload_n 3, 1) := by decide +kernel
theorem dX12_listOf_77 : decode cX12_listOf 77 = .ok (.iload_n 1, 1) := by decide +kernel
theorem dX12_listOf_78 : decode cX12_listOf 78 = .ok (.invokevirtual 192, 3) := by decide +kernel
theorem dX12_listOf_81 : decode cX12_listOf 81 = .ok (.imul, 1) := by decide +kernel
theorem dX12_listOf_82 : decode cX12_listOf 82 = .ok (.iadd, 1) := by decide +kernel
theorem dX12_listOf_83 : decode cX12_listOf 83 = .ok (.istore_n 2, 1) := by decide +kernel
theorem dX12_listOf_84 : decode cX12_listOf 84 = .ok (.iinc 3 1, 3) := by decide +kernel
theorem dX12_listOf_87 : decode cX12_listOf 87 = .ok (.goto (-27), 3) := by decide +kernel
theorem dX12_listOf_90 : decode cX12_listOf 90 = .ok (.iload_n 2, 1) := by decide +kernel
theorem dX12_listOf_91 : decode cX12_listOf 91 = .ok (.ireturn, 1) := by decide +kernel
theorem dX12_driftOf_0 : decode cX12_driftOf 0 = .ok (.aload_n 0, 1) := by decide +kernel
theorem dX12_driftOf_1 : decode cX12_driftOf 1 = .ok (.aload_n 0, 1) := by decide +kernel
theorem dX12_driftOf_2 : decode cX12_driftOf 2 = .ok (.iload_n 1, 1) := by decide +kernel
theorem dX12_driftOf_3 : decode cX12_driftOf 3 = .ok (.invokevirtual 260, 3) := by decide +kernel
theorem dX12_driftOf_6 : decode cX12_driftOf 6 = .ok (.invokevirtual 263, 3) := by decide +kernel
theorem dX12_driftOf_9 : decode cX12_driftOf 9 = .ok (.aload_n 0, 1) := by decide +kernel
theorem dX12_driftOf_10 : decode cX12_driftOf 10 = .ok (.aload_n 0, 1) := by decide +kernel
theorem dX12_driftOf_11 : decode cX12_driftOf 11 = .ok (.getfield 245, 3) := by decide +kernel
theorem dX12_driftOf_14 : decode cX12_driftOf 14 = .ok (.aload_n 0, 1) := by decide +kernel
theorem dX12_driftOf_15 : decode cX12_driftOf 15 = .ok (.getfield 248, 3) := by decide +kernel
theorem dX12_driftOf_18 : decode cX12_driftOf 18 = .ok (.iload_n 1, 1) := by decide +kernel
theorem dX12_driftOf_19 : decode cX12_driftOf 19 = .ok (.invokevirtual 266, 3) := by decide +kernel
theorem dX12_driftOf_22 : decode cX12_driftOf 22 = .ok (.iadd, 1) := by decide +kernel
theorem dX12_driftOf_23 : decode cX12_driftOf 23 = .ok (.invokestatic 197, 3) := by decide +kernel
theorem dX12_driftOf_26 : decode cX12_driftOf 26 = .ok (.ireturn, 1) := by decide +kernel
theorem dX12_moves_0 : decode cX12_moves 0 = .ok (.iload_n 1, 1) := by decide +kernel
theorem dX12_moves_1 : decode cX12_moves 1 = .ok (.ifCond .eq 33, 3) := by decide +kernel
theorem dX12_moves_4 : decode cX12_moves 4 = .ok (.aload_n 0, 1) := by decide +kernel
theorem dX12_moves_5 : decode cX12_moves 5 = .ok (.aload_n 0, 1) := by decide +kernel
theorem dX12_moves_6 : decode cX12_moves 6 = .ok (.getfield 218, 3) := by decide +kernel
theorem dX12_moves_9 : decode cX12_moves 9 = .ok (.iload_n 1, 1) := by decide +kernel
theorem dX12_moves_10 : decode cX12_moves 10 = .ok (.iadd, 1) := by decide +kernel
theorem dX12_moves_11 : decode cX12_moves 11 = .ok (.aload_n 0, 1) := by decide +kernel
theorem dX12_moves_12 : decode cX12_moves 12 = .ok (.getfield 221, 3) := by decide +kernel
theorem dX12_moves_15 : decode cX12_moves 15 = .ok (.invokevirtual 270, 3) := by decide +kernel
theorem dX12_moves_18 : decode cX12_moves 18 = .ok (.ifCond .eq 16, 3) := by decide +kernel
theorem dX12_moves_21 : decode cX12_moves 21 = .ok (.aload_n 0, 1) := by decide +kernel
theorem dX12_moves_22 : decode cX12_moves 22 = .ok (.dup, 1) := by decide +kernel
theorem dX12_moves_23 : decode cX12_moves 23 = .ok (.getfield 218, 3) := by decide +kernel
theorem dX12_moves_26 : decode cX12_moves 26 = .ok (.iload_n 1, 1) := by decide +kernel
theorem dX12_moves_27 : decode cX12_moves 27 = .ok (.iadd, 1) := by decide +kernel
theorem dX12_moves_28 : decode cX12_moves 28 = .ok (.putfield 218, 3) := by decide +kernel
theorem dX12_moves_31 : decode cX12_moves 31 = .ok (.goto 21, 3) := by decide +kernel
theorem dX12_moves_34 : decode cX12_moves 34 = .ok (.aload_n 0, 1) := by decide +kernel
theorem dX12_moves_35 : decode cX12_moves 35 = .ok (.dup, 1) := by decide +kernel
theorem dX12_moves_36 : decode cX12_moves 36 = .ok (.getfield 227, 3) := by decide +kernel
theorem dX12_moves_39 : decode cX12_moves 39 = .ok (.iload_n 1, 1) := by decide +kernel
theorem dX12_moves_40 : decode cX12_moves 40 = .ok (.ifCond .eq 7, 3) := by decide +kernel
theorem dX12_moves_43 : decode cX12_moves 43 = .ok (.iconst 1, 1) := by decide +kernel
theorem dX12_moves_44 : decode cX12_moves 44 = .ok (.goto 4, 3) := by decide +kernel
theorem dX12_moves_47 : decode cX12_moves 47 = .ok (.iconst 0, 1) := by decide +kernel
theorem dX12_moves_48 : decode cX12_moves 48 = .ok (.iadd, 1) := by decide +kernel
theorem dX12_moves_49 : decode cX12_moves 49 = .ok (.putfield 227, 3) := by decide +kernel
theorem dX12_moves_52 : decode cX12_moves 52 = .ok (.iload_n 2, 1) := by decide +kernel
theorem dX12_moves_53 : decode cX12_moves 53 = .ok (.ifCond .eq 33, 3) := by decide +kernel
theorem dX12_moves_56 : decode cX12_moves 56 = .ok (.aload_n 0, 1) := by decide +kernel
theorem dX12_moves_57 : decode cX12_moves 57 = .ok (.aload_n 0, 1) := by decide +kernel
theorem dX12_moves_58 : decode cX12_moves 58 = .ok (.getfield 218, 3) := by decide +kernel
theorem dX12_moves_61 : decode cX12_moves 61 = .ok (.aload_n 0, 1) := by decide +kernel
theorem dX12_moves_62 : decode cX12_moves 62 = .ok (.getfield 221, 3) := by decide +kernel
theorem dX12_moves_65 : decode cX12_moves 65 = .ok (.iload_n 2, 1) := by decide +kernel
theorem dX12_moves_66 : decode cX12_moves 66 = .ok (.iadd, 1) := by decide +kernel
theorem dX12_moves_67 : decode cX12_moves 67 = .ok (.invokevirtual 270, 3) := by decide +kernel
theorem dX12_moves_70 : decode cX12_moves 70 = .ok (.ifCond .eq 16, 3) := by decide +kernel
theorem dX12_moves_73 : decode cX12_moves 73 = .ok (.aload_n 0, 1) := by decide +kernel
theorem dX12_moves_74 : decode cX12_moves 74 = .ok (.dup, 1) := by decide +kernel
theorem dX12_moves_75 : decode cX12_moves 75 = .ok (.getfield 221, 3) := by decide +kernel
theorem dX12_moves_78 : decode cX12_moves 78 = .ok (.iload_n 2, 1) := by decide +kernel
theorem dX12_moves_79 : decode cX12_moves 79 = .ok (.iadd, 1) := by decide +kernel
theorem dX12_moves_80 : decode cX12_moves 80 = .ok (.putfield 221, 3) := by decide +kernel
theorem dX12_moves_83 : decode cX12_moves 83 = .ok (.goto 21, 3) := by decide +kernel
theorem dX12_moves_86 : decode cX12_moves 86 = .ok (.aload_n 0, 1) := by decide +kernel
theorem dX12_moves_87 : decode cX12_moves 87 = .ok (.dup, 1) := by decide +kernel
theorem dX12_moves_88 : decode cX12_moves 88 = .ok (.getfield 227, 3) := by decide +kernel
theorem dX12_moves_91 : decode cX12_moves 91 = .ok (.iload_n 2, 1) := by decide +kernel
theorem dX12_moves_92 : decode cX12_moves 92 = .ok (.ifCond .eq 7, 3) := by decide +kernel
theorem dX12_moves_95 : decode cX12_moves 95 = .ok (.iconst 1, 1) := by decide +kernel
theorem dX12_moves_96 : decode cX12_moves 96 = .ok (.goto 4, 3) := by decide +kernel
theorem dX12_moves_99 : decode cX12_moves 99 = .ok (.iconst 0, 1) := by decide +kernel
theorem dX12_moves_100 : decode cX12_moves 100 = .ok (.iadd, 1) := by decide +kernel
theorem dX12_moves_101 : decode cX12_moves 101 = .ok (.putfield 227, 3) := by decide +kernel
theorem dX12_moves_104 : decode cX12_moves 104 = .ok (.return_, 1) := by decide +kernel
theorem dX12_leaks_0 : decode cX12_leaks 0 = .ok (.iconst 0, 1) := by decide +kernel
theorem dX12_leaks_1 : decode cX12_leaks 1 = .ok (.istore_n 1, 1) := by decide +kernel
theorem dX12_leaks_2 : decode cX12_leaks 2 = .ok (.iload_n 1, 1) := by decide +kernel
theorem dX12_leaks_3 : decode cX12_leaks 3 = .ok (.aload_n 0, 1) := by decide +kernel
theorem dX12_leaks_4 : decode cX12_leaks 4 = .ok (.bipush 15, 2) := by decide +kernel
theorem dX12_leaks_6 : decode cX12_leaks 6 = .ok (.invokevirtual 180, 3) := by decide +kernel
theorem dX12_leaks_9 : decode cX12_leaks 9 = .ok (.if_icmp .ge 39, 3) := by decide +kernel
theorem dX12_leaks_12 : decode cX12_leaks 12 = .ok (.aload_n 0, 1) := by decide +kernel
theorem dX12_leaks_13 : decode cX12_leaks 13 = .ok (.getfield 23, 3) := by decide +kernel
theorem dX12_leaks_16 : decode cX12_leaks 16 = .ok (.aload_n 0, 1) := by decide +kernel
theorem dX12_leaks_17 : decode cX12_leaks 17 = .ok (.bipush 101, 2) := by decide +kernel
theorem dX12_leaks_19 : decode cX12_leaks 19 = .ok (.iconst 2, 1) := by decide +kernel
theorem dX12_leaks_20 : decode cX12_leaks 20 = .ok (.iload_n 1, 1) := by decide +kernel
theorem dX12_leaks_21 : decode cX12_leaks 21 = .ok (.imul, 1) := by decide +kernel
theorem dX12_leaks_22 : decode cX12_leaks 22 = .ok (.iadd, 1) := by decide +kernel
theorem dX12_leaks_23 : decode cX12_leaks 23 = .ok (.invokevirtual 180, 3) := by decide +kernel
theorem dX12_leaks_26 : decode cX12_leaks 26 = .ok (.dup2, 1) := by decide +kernel
theorem dX12_leaks_27 : decode cX12_leaks 27 = .ok (.iaload, 1) := by decide +kernel
theorem dX12_leaks_28 : decode cX12_leaks 28 = .ok (.aload_n 0, 1) := by decide +kernel
theorem dX12_leaks_29 : decode cX12_leaks 29 = .ok (.bipush 101, 2) := by decide +kernel
theorem dX12_leaks_31 : decode cX12_leaks 31 = .ok (.iconst 2, 1) := by decide +kernel
theorem dX12_leaks_32 : decode cX12_leaks 32 = .ok (.iload_n 1, 1) := by decide +kernel
theorem dX12_leaks_33 : decode cX12_leaks 33 = .ok (.imul, 1) := by decide +kernel
theorem dX12_leaks_34 : decode cX12_leaks 34 = .ok (.iadd, 1) := by decide +kernel
theorem dX12_leaks_35 : decode cX12_leaks 35 = .ok (.iconst 1, 1) := by decide +kernel
theorem dX12_leaks_36 : decode cX12_leaks 36 = .ok (.iadd, 1) := by decide +kernel
theorem dX12_leaks_37 : decode cX12_leaks 37 = .ok (.invokevirtual 180, 3) := by decide +kernel
theorem dX12_leaks_40 : decode cX12_leaks 40 = .ok (.iadd, 1) := by decide +kernel
theorem dX12_leaks_41 : decode cX12_leaks 41 = .ok (.iastore, 1) := by decide +kernel
theorem dX12_leaks_42 : decode cX12_leaks 42 = .ok (.iinc 1 1, 3) := by decide +kernel
theorem dX12_leaks_45 : decode cX12_leaks 45 = .ok (.goto (-43), 3) := by decide +kernel
theorem dX12_leaks_48 : decode cX12_leaks 48 = .ok (.aload_n 0, 1) := by decide +kernel
theorem dX12_leaks_49 : decode cX12_leaks 49 = .ok (.aload_n 0, 1) := by decide +kernel
theorem dX12_leaks_50 : decode cX12_leaks 50 = .ok (.getfield 236, 3) := by decide +kernel
theorem dX12_leaks_53 : decode cX12_leaks 53 = .ok (.ifCond .ne 16, 3) := by decide +kernel
theorem dX12_leaks_56 : decode cX12_leaks 56 = .ok (.aload_n 0, 1) := by decide +kernel
theorem dX12_leaks_57 : decode cX12_leaks 57 = .ok (.invokevirtual 273, 3) := by decide +kernel
theorem dX12_leaks_60 : decode cX12_leaks 60 = .ok (.aload_n 0, 1) := by decide +kernel
theorem dX12_leaks_61 : decode cX12_leaks 61 = .ok (.bipush 8, 2) := by decide +kernel
theorem dX12_leaks_63 : decode cX12_leaks 63 = .ok (.invokevirtual 180, 3) := by decide +kernel
theorem dX12_leaks_66 : decode cX12_leaks 66 = .ok (.if_icmp .le 7, 3) := by decide +kernel
theorem dX12_leaks_69 : decode cX12_leaks 69 = .ok (.iconst 1, 1) := by decide +kernel
theorem dX12_leaks_70 : decode cX12_leaks 70 = .ok (.goto 4, 3) := by decide +kernel
theorem dX12_leaks_73 : decode cX12_leaks 73 = .ok (.iconst 0, 1) := by decide +kernel
theorem dX12_leaks_74 : decode cX12_leaks 74 = .ok (.putfield 236, 3) := by decide +kernel
theorem dX12_leaks_77 : decode cX12_leaks 77 = .ok (.return_, 1) := by decide +kernel
theorem dX12_hour_0 : decode cX12_hour 0 = .ok (.aload_n 0, 1) := by decide +kernel
theorem dX12_hour_1 : decode cX12_hour 1 = .ok (.getfield 236, 3) := by decide +kernel
theorem dX12_hour_4 : decode cX12_hour 4 = .ok (.ifCond .eq 4, 3) := by decide +kernel
theorem dX12_hour_7 : decode cX12_hour 7 = .ok (.return_, 1) := by decide +kernel
theorem dX12_hour_8 : decode cX12_hour 8 = .ok (.aload_n 0, 1) := by decide +kernel
theorem dX12_hour_9 : decode cX12_hour 9 = .ok (.dup, 1) := by decide +kernel
theorem dX12_hour_10 : decode cX12_hour 10 = .ok (.getfield 224, 3) := by decide +kernel
theorem dX12_hour_13 : decode cX12_hour 13 = .ok (.iconst 1, 1) := by decide +kernel
theorem dX12_hour_14 : decode cX12_hour 14 = .ok (.iadd, 1) := by decide +kernel
theorem dX12_hour_15 : decode cX12_hour 15 = .ok (.putfield 224, 3) := by decide +kernel
theorem dX12_hour_18 : decode cX12_hour 18 = .ok (.aload_n 0, 1) := by decide +kernel
theorem dX12_hour_19 : decode cX12_hour 19 = .ok (.getfield 239, 3) := by decide +kernel
theorem dX12_hour_22 : decode cX12_hour 22 = .ok (.ifCond .ne 28, 3) := by decide +kernel
theorem dX12_hour_25 : decode cX12_hour 25 = .ok (.aload_n 0, 1) := by decide +kernel
theorem dX12_hour_26 : decode cX12_hour 26 = .ok (.getfield 242, 3) := by decide +kernel
theorem dX12_hour_29 : decode cX12_hour 29 = .ok (.ifCond .ne 21, 3) := by decide +kernel
theorem dX12_hour_32 : decode cX12_hour 32 = .ok (.aload_n 0, 1) := by decide +kernel
theorem dX12_hour_33 : decode cX12_hour 33 = .ok (.iconst 0, 1) := by decide +kernel
theorem dX12_hour_34 : decode cX12_hour 34 = .ok (.invokevirtual 276, 3) := by decide +kernel
theorem dX12_hour_37 : decode cX12_hour 37 = .ok (.istore_n 2, 1) := by decide +kernel
theorem dX12_hour_38 : decode cX12_hour 38 = .ok (.aload_n 0, 1) := by decide +kernel
theorem dX12_hour_39 : decode cX12_hour 39 = .ok (.iconst 1, 1) := by decide +kernel
theorem dX12_hour_40 : decode cX12_hour 40 = .ok (.invokevirtual 276, 3) := by decide +kernel
theorem dX12_hour_43 : decode cX12_hour 43 = .ok (.istore_n 3, 1) := by decide +kernel
theorem dX12_hour_44 : decode cX12_hour 44 = .ok (.aload_n 0, 1) := by decide +kernel
theorem dX12_hour_45 : decode cX12_hour 45 = .ok (.iload_n 2, 1) := by decide +kernel
theorem dX12_hour_46 : decode cX12_hour 46 = .ok (.iload_n 3, 1) := by decide +kernel
theorem dX12_hour_47 : decode cX12_hour 47 = .ok (.invokevirtual 279, 3) := by decide +kernel
theorem dX12_hour_50 : decode cX12_hour 50 = .ok (.iload_n 1, 1) := by decide +kernel
theorem dX12_hour_51 : decode cX12_hour 51 = .ok (.ifCond .eq 7, 3) := by decide +kernel
theorem dX12_hour_54 : decode cX12_hour 54 = .ok (.aload_n 0, 1) := by decide +kernel
theorem dX12_hour_55 : decode cX12_hour 55 = .ok (.invokevirtual 282, 3) := by decide +kernel
theorem dX12_hour_58 : decode cX12_hour 58 = .ok (.aload_n 0, 1) := by decide +kernel
theorem dX12_hour_59 : decode cX12_hour 59 = .ok (.dup, 1) := by decide +kernel
theorem dX12_hour_60 : decode cX12_hour 60 = .ok (.getfield 233, 3) := by decide +kernel
theorem dX12_hour_63 : decode cX12_hour 63 = .ok (.aload_n 0, 1) := by decide +kernel
theorem dX12_hour_64 : decode cX12_hour 64 = .ok (.aload_n 0, 1) := by decide +kernel
theorem dX12_hour_65 : decode cX12_hour 65 = .ok (.getfield 218, 3) := by decide +kernel
theorem dX12_hour_68 : decode cX12_hour 68 = .ok (.aload_n 0, 1) := by decide +kernel
theorem dX12_hour_69 : decode cX12_hour 69 = .ok (.getfield 221, 3) := by decide +kernel
theorem dX12_hour_72 : decode cX12_hour 72 = .ok (.invokevirtual 230, 3) := by decide +kernel
theorem dX12_hour_75 : decode cX12_hour 75 = .ok (.ior, 1) := by decide +kernel
theorem dX12_hour_76 : decode cX12_hour 76 = .ok (.putfield 233, 3) := by decide +kernel
theorem dX12_hour_79 : decode cX12_hour 79 = .ok (.return_, 1) := by decide +kernel
theorem dX12_isPlace_0 : decode cX12_isPlace 0 = .ok (.iload_n 1, 1) := by decide +kernel
theorem dX12_isPlace_1 : decode cX12_isPlace 1 = .ok (.iconst 0, 1) := by decide +kernel
theorem dX12_isPlace_2 : decode cX12_isPlace 2 = .ok (.aload_n 0, 1) := by decide +kernel
theorem dX12_isPlace_3 : decode cX12_isPlace 3 = .ok (.invokevirtual 257, 3) := by decide +kernel
theorem dX12_isPlace_6 : decode cX12_isPlace 6 = .ok (.iconst 1, 1) := by decide +kernel
theorem dX12_isPlace_7 : decode cX12_isPlace 7 = .ok (.isub, 1) := by decide +kernel
theorem dX12_isPlace_8 : decode cX12_isPlace 8 = .ok (.invokestatic 109, 3) := by decide +kernel
theorem dX12_isPlace_11 : decode cX12_isPlace 11 = .ok (.ireturn, 1) := by decide +kernel
theorem dX12_can_0 : decode cX12_can 0 = .ok (.aload_n 0, 1) := by decide +kernel
theorem dX12_can_1 : decode cX12_can 1 = .ok (.iload_n 1, 1) := by decide +kernel
theorem dX12_can_2 : decode cX12_can 2 = .ok (.iconst 1, 1) := by decide +kernel
theorem dX12_can_3 : decode cX12_can 3 = .ok (.invokevirtual 215, 3) := by decide +kernel
theorem dX12_can_6 : decode cX12_can 6 = .ok (.istore_n 2, 1) := by decide +kernel
theorem dX12_can_7 : decode cX12_can 7 = .ok (.aload_n 0, 1) := by decide +kernel
theorem dX12_can_8 : decode cX12_can 8 = .ok (.iload_n 1, 1) := by decide +kernel
theorem dX12_can_9 : decode cX12_can 9 = .ok (.iconst 2, 1) := by decide +kernel
theorem dX12_can_10 : decode cX12_can 10 = .ok (.invokevirtual 215, 3) := by decide +kernel
theorem dX12_can_13 : decode cX12_can 13 = .ok (.istore_n 3, 1) := by decide +kernel
theorem dX12_can_14 : decode cX12_can 14 = .ok (.aload_n 0, 1) := by decide +kernel
theorem dX12_can_15 : decode cX12_can 15 = .ok (.getfield 236, 3) := by decide +kernel
theorem dX12_can_18 : decode cX12_can 18 = .ok (.ifCond .eq 5, 3) := by decide +kernel
theorem dX12_can_21 : decode cX12_can 21 = .ok (.iconst 0, 1) := by decide +kernel
theorem dX12_can_22 : decode cX12_can 22 = .ok (.ireturn, 1) := by decide +kernel
theorem dX12_can_23 : decode cX12_can 23 = .ok (.aload_n 0, 1) := by decide +kernel
theorem dX12_can_24 : decode cX12_can 24 = .ok (.iload_n 1, 1) := by decide +kernel
theorem dX12_can_25 : decode cX12_can 25 = .ok (.iconst 0, 1) := by decide +kernel
theorem dX12_can_26 : decode cX12_can 26 = .ok (.invokevirtual 215, 3) := by decide +kernel
theorem dX12_can_29 : decode cX12_can 29 = .ok (.tableswitch 195 0 8 #[51, 83, 195, 107, 121, 134, 139, 167, 172], 51) := by decide +kernel
theorem dX12_can_80 : decode cX12_can 80 = .ok (.aload_n 0, 1) := by decide +kernel
theorem dX12_can_81 : decode cX12_can 81 = .ok (.iload_n 2, 1) := by decide +kernel
theorem dX12_can_82 : decode cX12_can 82 = .ok (.invokevirtual 285, 3) := by decide +kernel
theorem dX12_can_85 : decode cX12_can 85 = .ok (.ifCond .eq 25, 3) := by decide +kernel
theorem dX12_can_88 : decode cX12_can 88 = .ok (.aload_n 0, 1) := by decide +kernel
theorem dX12_can_89 : decode cX12_can 89 = .ok (.iload_n 3, 1) := by decide +kernel
theorem dX12_can_90 : decode cX12_can 90 = .ok (.invokevirtual 288, 3) := by decide +kernel
theorem dX12_can_93 : decode cX12_can 93 = .ok (.ifCond .eq 17, 3) := by decide +kernel
theorem dX12_can_96 : decode cX12_can 96 = .ok (.aload_n 0, 1) := by decide +kernel
theorem dX12_can_97 : decode cX12_can 97 = .ok (.getfield 20, 3) := by decide +kernel
theorem dX12_can_100 : decode cX12_can 100 = .ok (.iload_n 2, 1) := by decide +kernel
theorem dX12_can_101 : decode cX12_can 101 = .ok (.iaload, 1) := by decide +kernel
theorem dX12_can_102 : decode cX12_can 102 = .ok (.iload_n 3, 1) := by decide +kernel
theorem dX12_can_103 : decode cX12_can 103 = .ok (.if_icmp .eq 7, 3) := by decide +kernel
theorem dX12_can_106 : decode cX12_can 106 = .ok (.iconst 1, 1) := by decide +kernel
theorem dX12_can_107 : decode cX12_can 107 = .ok (.goto 4, 3) := by decide +kernel
theorem dX12_can_110 : decode cX12_can 110 = .ok (.iconst 0, 1) := by decide +kernel
theorem dX12_can_111 : decode cX12_can 111 = .ok (.ireturn, 1) := by decide +kernel
theorem dX12_can_112 : decode cX12_can 112 = .ok (.aload_n 0, 1) := by decide +kernel
theorem dX12_can_113 : decode cX12_can 113 = .ok (.iload_n 2, 1) := by decide +kernel
theorem dX12_can_114 : decode cX12_can 114 = .ok (.invokevirtual 285, 3) := by decide +kernel
theorem dX12_can_117 : decode cX12_can 117 = .ok (.ifCond .eq 17, 3) := by decide +kernel
theorem dX12_can_120 : decode cX12_can 120 = .ok (.aload_n 0, 1) := by decide +kernel
theorem dX12_can_121 : decode cX12_can 121 = .ok (.getfield 20, 3) := by decide +kernel
theorem dX12_can_124 : decode cX12_can 124 = .ok (.iload_n 2, 1) := by decide +kernel
theorem dX12_can_125 : decode cX12_can 125 = .ok (.iaload, 1) := by decide +kernel
theorem dX12_can_126 : decode cX12_can 126 = .ok (.iconst (-1), 1) := by decide +kernel
theorem dX12_can_127 : decode cX12_can 127 = .ok (.if_icmp .eq 7, 3) := by decide +kernel
theorem dX12_can_130 : decode cX12_can 130 = .ok (.iconst 1, 1) := by decide +kernel
theorem dX12_can_131 : decode cX12_can 131 = .ok (.goto 4, 3) := by decide +kernel
theorem dX12_can_134 : decode cX12_can 134 = .ok (.iconst 0, 1) := by decide +kernel
theorem dX12_can_135 : decode cX12_can 135 = .ok (.ireturn, 1) := by decide +kernel
theorem dX12_can_136 : decode cX12_can 136 = .ok (.aload_n 0, 1) := by decide +kernel
theorem dX12_can_137 : decode cX12_can 137 = .ok (.getfield 245, 3) := by decide +kernel
theorem dX12_can_140 : decode cX12_can 140 = .ok (.iconst (-1), 1) := by decide +kernel
theorem dX12_can_141 : decode cX12_can 141 = .ok (.if_icmp .eq 7, 3) := by decide +kernel
theorem dX12_can_144 : decode cX12_can 144 = .ok (.iconst 1, 1) := by decide +kernel
theorem dX12_can_145 : decode cX12_can 145 = .ok (.goto 4, 3) := by decide +kernel
theorem dX12_can_148 : decode cX12_can 148 = .ok (.iconst 0, 1) := by decide +kernel
theorem dX12_can_149 : decode cX12_can 149 = .ok (.ireturn, 1) := by decide +kernel
theorem dX12_can_150 : decode cX12_can 150 = .ok (.aload_n 0, 1) := by decide +kernel
theorem dX12_can_151 : decode cX12_can 151 = .ok (.getfield 239, 3) := by decide +kernel
theorem dX12_can_154 : decode cX12_can 154 = .ok (.ifCond .ne 7, 3) := by decide +kernel
theorem dX12_can_157 : decode cX12_can 157 = .ok (.iconst 1, 1) := by decide +kernel
theorem dX12_can_158 : decode cX12_can 158 = .ok (.goto 4, 3) := by decide +kernel
theorem dX12_can_161 : decode cX12_can 161 = .ok (.iconst 0, 1) := by decide +kernel
theorem dX12_can_162 : decode cX12_can 162 = .ok (.ireturn, 1) := by decide +kernel
theorem dX12_can_163 : decode cX12_can 163 = .ok (.aload_n 0, 1) := by decide +kernel
theorem dX12_can_164 : decode cX12_can 164 = .ok (.getfield 239, 3) := by decide +kernel
theorem dX12_can_167 : decode cX12_can 167 = .ok (.ireturn, 1) := by decide +kernel
theorem dX12_can_168 : decode cX12_can 168 = .ok (.aload_n 0, 1) := by decide +kernel
theorem dX12_can_169 : decode cX12_can 169 = .ok (.getfield 242, 3) := by decide +kernel
theorem dX12_can_172 : decode cX12_can 172 = .ok (.ifCond .ne 22, 3) := by decide +kernel
theorem dX12_can_175 : decode cX12_can 175 = .ok (.aload_n 0, 1) := by decide +kernel
theorem dX12_can_176 : decode cX12_can 176 = .ok (.aload_n 0, 1) := by decide +kernel
theorem dX12_can_177 : decode cX12_can 177 = .ok (.getfield 218, 3) := by decide +kernel
theorem dX12_can_180 : decode cX12_can 180 = .ok (.aload_n 0, 1) := by decide +kernel
theorem dX12_can_181 : decode cX12_can 181 = .ok (.getfield 221, 3) := by decide +kernel
theorem dX12_can_184 : decode cX12_can 184 = .ok (.invokevirtual 230, 3) := by decide +kernel
theorem dX12_can_187 : decode cX12_can 187 = .ok (.ifCond .eq 7, 3) := by decide +kernel
theorem dX12_can_190 : decode cX12_can 190 = .ok (.iconst 1, 1) := by decide +kernel
theorem dX12_can_191 : decode cX12_can 191 = .ok (.goto 4, 3) := by decide +kernel
theorem dX12_can_194 : decode cX12_can 194 = .ok (.iconst 0, 1) := by decide +kernel
theorem dX12_can_195 : decode cX12_can 195 = .ok (.ireturn, 1) := by decide +kernel
theorem dX12_can_196 : decode cX12_can 196 = .ok (.aload_n 0, 1) := by decide +kernel
theorem dX12_can_197 : decode cX12_can 197 = .ok (.getfield 242, 3) := by decide +kernel
theorem dX12_can_200 : decode cX12_can 200 = .ok (.ireturn, 1) := by decide +kernel
theorem dX12_can_201 : decode cX12_can 201 = .ok (.aload_n 0, 1) := by decide +kernel
theorem dX12_can_202 : decode cX12_can 202 = .ok (.iload_n 2, 1) := by decide +kernel
theorem dX12_can_203 : decode cX12_can 203 = .ok (.invokevirtual 288, 3) := by decide +kernel
theorem dX12_can_206 : decode cX12_can 206 = .ok (.ifCond .eq 16, 3) := by decide +kernel
theorem dX12_can_209 : decode cX12_can 209 = .ok (.aload_n 0, 1) := by decide +kernel
theorem dX12_can_210 : decode cX12_can 210 = .ok (.getfield 23, 3) := by decide +kernel
theorem dX12_can_213 : decode cX12_can 213 = .ok (.iload_n 2, 1) := by decide +kernel
theorem dX12_can_214 : decode cX12_can 214 = .ok (.iaload, 1) := by decide +kernel
theorem dX12_can_215 : decode cX12_can 215 = .ok (.ifCond .le 7, 3) := by decide +kernel
theorem dX12_can_218 : decode cX12_can 218 = .ok (.iconst 1, 1) := by decide +kernel
theorem dX12_can_219 : decode cX12_can 219 = .ok (.goto 4, 3) := by decide +kernel
theorem dX12_can_222 : decode cX12_can 222 = .ok (.iconst 0, 1) := by decide +kernel
theorem dX12_can_223 : decode cX12_can 223 = .ok (.ireturn, 1) := by decide +kernel
theorem dX12_can_224 : decode cX12_can 224 = .ok (.iconst 1, 1) := by decide +kernel
theorem dX12_can_225 : decode cX12_can 225 = .ok (.ireturn, 1) := by decide +kernel
theorem dX12_does_0 : decode cX12_does 0 = .ok (.aload_n 0, 1) := by decide +kernel
theorem dX12_does_1 : decode cX12_does 1 = .ok (.iload_n 1, 1) := by decide +kernel
theorem dX12_does_2 : decode cX12_does 2 = .ok (.iconst 1, 1) := by decide +kernel
theorem dX12_does_3 : decode cX12_does 3 = .ok (.invokevirtual 215, 3) := by decide +kernel
theorem dX12_does_6 : decode cX12_does 6 = .ok (.istore_n 2, 1) := by decide +kernel
theorem dX12_does_7 : decode cX12_does 7 = .ok (.aload_n 0, 1) := by decide +kernel
theorem dX12_does_8 : decode cX12_does 8 = .ok (.iload_n 1, 1) := by decide +kernel
theorem dX12_does_9 : decode cX12_does 9 = .ok (.iconst 0, 1) := by decide +kernel
theorem dX12_does_10 : decode cX12_does 10 = .ok (.invokevirtual 215, 3) := by decide +kernel
theorem dX12_does_13 : decode cX12_does 13 = .ok (.tableswitch 149 0 8 #[51, 66, 76, 94, 107, 115, 123, 131, 139], 51) := by decide +kernel
theorem dX12_does_64 : decode cX12_does 64 = .ok (.aload_n 0, 1) := by decide +kernel
theorem dX12_does_65 : decode cX12_does 65 = .ok (.getfield 20, 3) := by decide +kernel
theorem dX12_does_68 : decode cX12_does 68 = .ok (.iload_n 2, 1) := by decide +kernel
theorem dX12_does_69 : decode cX12_does 69 = .ok (.aload_n 0, 1) := by decide +kernel
theorem dX12_does_70 : decode cX12_does 70 = .ok (.iload_n 1, 1) := by decide +kernel
theorem dX12_does_71 : decode cX12_does 71 = .ok (.iconst 2, 1) := by decide +kernel
theorem dX12_does_72 : decode cX12_does 72 = .ok (.invokevirtual 215, 3) := by decide +kernel
theorem dX12_does_75 : decode cX12_does 75 = .ok (.iastore, 1) := by decide +kernel
theorem dX12_does_76 : decode cX12_does 76 = .ok (.goto 104, 3) := by decide +kernel
theorem dX12_does_79 : decode cX12_does 79 = .ok (.aload_n 0, 1) := by decide +kernel
theorem dX12_does_80 : decode cX12_does 80 = .ok (.getfield 20, 3) := by decide +kernel
theorem dX12_does_83 : decode cX12_does 83 = .ok (.iload_n 2, 1) := by decide +kernel
theorem dX12_does_84 : decode cX12_does 84 = .ok (.iconst (-1), 1) := by decide +kernel
theorem dX12_does_85 : decode cX12_does 85 = .ok (.iastore, 1) := by decide +kernel
theorem dX12_does_86 : decode cX12_does 86 = .ok (.goto 94, 3) := by decide +kernel
theorem dX12_does_89 : decode cX12_does 89 = .ok (.aload_n 0, 1) := by decide +kernel
theorem dX12_does_90 : decode cX12_does 90 = .ok (.iload_n 2, 1) := by decide +kernel
theorem dX12_does_91 : decode cX12_does 91 = .ok (.putfield 245, 3) := by decide +kernel
theorem dX12_does_94 : decode cX12_does 94 = .ok (.aload_n 0, 1) := by decide +kernel
theorem dX12_does_95 : decode cX12_does 95 = .ok (.aload_n 0, 1) := by decide +kernel
theorem dX12_does_96 : decode cX12_does 96 = .ok (.iload_n 1, 1) := by decide +kernel
theorem dX12_does_97 : decode cX12_does 97 = .ok (.iconst 2, 1) := by decide +kernel
theorem dX12_does_98 : decode cX12_does 98 = .ok (.invokevirtual 215, 3) := by decide +kernel
theorem dX12_does_101 : decode cX12_does 101 = .ok (.putfield 248, 3) := by decide +kernel
theorem dX12_does_104 : decode cX12_does 104 = .ok (.goto 76, 3) := by decide +kernel
theorem dX12_does_107 : decode cX12_does 107 = .ok (.aload_n 0, 1) := by decide +kernel
theorem dX12_does_108 : decode cX12_does 108 = .ok (.iconst (-1), 1) := by decide +kernel
theorem dX12_does_109 : decode cX12_does 109 = .ok (.putfield 245, 3) := by decide +kernel
theorem dX12_does_112 : decode cX12_does 112 = .ok (.aload_n 0, 1) := by decide +kernel
theorem dX12_does_113 : decode cX12_does 113 = .ok (.iconst 0, 1) := by decide +kernel
theorem dX12_does_114 : decode cX12_does 114 = .ok (.putfield 248, 3) := by decide +kernel
theorem dX12_does_117 : decode cX12_does 117 = .ok (.goto 63, 3) := by decide +kernel
theorem dX12_does_120 : decode cX12_does 120 = .ok (.aload_n 0, 1) := by decide +kernel
theorem dX12_does_121 : decode cX12_does 121 = .ok (.iconst 1, 1) := by decide +kernel
theorem dX12_does_122 : decode cX12_does 122 = .ok (.putfield 239, 3) := by decide +kernel
theorem dX12_does_125 : decode cX12_does 125 = .ok (.goto 55, 3) := by decide +kernel
theorem dX12_does_128 : decode cX12_does 128 = .ok (.aload_n 0, 1) := by decide +kernel
theorem dX12_does_129 : decode cX12_does 129 = .ok (.iconst 0, 1) := by decide +kernel
theorem dX12_does_130 : decode cX12_does 130 = .ok (.putfield 239, 3) := by decide +kernel
theorem dX12_does_133 : decode cX12_does 133 = .ok (.goto 47, 3) := by decide +kernel
theorem dX12_does_136 : decode cX12_does 136 = .ok (.aload_n 0, 1) := by decide +kernel
theorem dX12_does_137 : decode cX12_does 137 = .ok (.iconst 1, 1) := by decide +kernel
theorem dX12_does_138 : decode cX12_does 138 = .ok (.putfield 242, 3) := by decide +kernel
theorem dX12_does_141 : decode cX12_does 141 = .ok (.goto 39, 3) := by decide +kernel
theorem dX12_does_144 : decode cX12_does 144 = .ok (.aload_n 0, 1) := by decide +kernel
theorem dX12_does_145 : decode cX12_does 145 = .ok (.iconst 0, 1) := by decide +kernel
theorem dX12_does_146 : decode cX12_does 146 = .ok (.putfield 242, 3) := by decide +kernel
theorem dX12_does_149 : decode cX12_does 149 = .ok (.goto 31, 3) := by decide +kernel
theorem dX12_does_152 : decode cX12_does 152 = .ok (.aload_n 0, 1) := by decide +kernel
theorem dX12_does_153 : decode cX12_does 153 = .ok (.getfield 23, 3) := by decide +kernel
theorem dX12_does_156 : decode cX12_does 156 = .ok (.iload_n 2, 1) := by decide +kernel
theorem dX12_does_157 : decode cX12_does 157 = .ok (.iconst 0, 1) := by decide +kernel
theorem dX12_does_158 : decode cX12_does 158 = .ok (.iastore, 1) := by decide +kernel
theorem dX12_does_159 : decode cX12_does 159 = .ok (.goto 21, 3) := by decide +kernel
theorem dX12_does_162 : decode cX12_does 162 = .ok (.iconst 0, 1) := by decide +kernel
theorem dX12_does_163 : decode cX12_does 163 = .ok (.istore_n 3, 1) := by decide +kernel
theorem dX12_does_164 : decode cX12_does 164 = .ok (.iload_n 3, 1) := by decide +kernel
theorem dX12_does_165 : decode cX12_does 165 = .ok (.iload_n 2, 1) := by decide +kernel
theorem dX12_does_166 : decode cX12_does 166 = .ok (.if_icmp .ge 14, 3) := by decide +kernel
theorem dX12_does_169 : decode cX12_does 169 = .ok (.aload_n 0, 1) := by decide +kernel
theorem dX12_does_170 : decode cX12_does 170 = .ok (.iconst 1, 1) := by decide +kernel
theorem dX12_does_171 : decode cX12_does 171 = .ok (.invokevirtual 291, 3) := by decide +kernel
theorem dX12_does_174 : decode cX12_does 174 = .ok (.iinc 3 1, 3) := by decide +kernel
theorem dX12_does_177 : decode cX12_does 177 = .ok (.goto (-13), 3) := by decide +kernel
theorem dX12_does_180 : decode cX12_does 180 = .ok (.return_, 1) := by decide +kernel
theorem dX12_runs_0 : decode cX12_runs 0 = .ok (.aload_n 0, 1) := by decide +kernel
theorem dX12_runs_1 : decode cX12_runs 1 = .ok (.invokevirtual 295, 3) := by decide +kernel
theorem dX12_runs_4 : decode cX12_runs 4 = .ok (.aload_n 0, 1) := by decide +kernel
theorem dX12_runs_5 : decode cX12_runs 5 = .ok (.getfield 251, 3) := by decide +kernel
theorem dX12_runs_8 : decode cX12_runs 8 = .ok (.iload_n 1, 1) := by decide +kernel
theorem dX12_runs_9 : decode cX12_runs 9 = .ok (.if_icmp .ge 46, 3) := by decide +kernel
theorem dX12_runs_12 : decode cX12_runs 12 = .ok (.aload_n 0, 1) := by decide +kernel
theorem dX12_runs_13 : decode cX12_runs 13 = .ok (.getfield 251, 3) := by decide +kernel
theorem dX12_runs_16 : decode cX12_runs 16 = .ok (.aload_n 0, 1) := by decide +kernel
theorem dX12_runs_17 : decode cX12_runs 17 = .ok (.invokevirtual 212, 3) := by decide +kernel
theorem dX12_runs_20 : decode cX12_runs 20 = .ok (.if_icmp .ge 35, 3) := by decide +kernel
theorem dX12_runs_23 : decode cX12_runs 23 = .ok (.aload_n 0, 1) := by decide +kernel
theorem dX12_runs_24 : decode cX12_runs 24 = .ok (.aload_n 0, 1) := by decide +kernel
theorem dX12_runs_25 : decode cX12_runs 25 = .ok (.getfield 251, 3) := by decide +kernel
theorem dX12_runs_28 : decode cX12_runs 28 = .ok (.invokevirtual 298, 3) := by decide +kernel
theorem dX12_runs_31 : decode cX12_runs 31 = .ok (.ifCond .eq 24, 3) := by decide +kernel
theorem dX12_runs_34 : decode cX12_runs 34 = .ok (.aload_n 0, 1) := by decide +kernel
theorem dX12_runs_35 : decode cX12_runs 35 = .ok (.aload_n 0, 1) := by decide +kernel
theorem dX12_runs_36 : decode cX12_runs 36 = .ok (.getfield 251, 3) := by decide +kernel
theorem dX12_runs_39 : decode cX12_runs 39 = .ok (.invokevirtual 301, 3) := by decide +kernel
theorem dX12_runs_42 : decode cX12_runs 42 = .ok (.aload_n 0, 1) := by decide +kernel
theorem dX12_runs_43 : decode cX12_runs 43 = .ok (.dup, 1) := by decide +kernel
theorem dX12_runs_44 : decode cX12_runs 44 = .ok (.getfield 251, 3) := by decide +kernel
theorem dX12_runs_47 : decode cX12_runs 47 = .ok (.iconst 1, 1) := by decide +kernel
theorem dX12_runs_48 : decode cX12_runs 48 = .ok (.iadd, 1) := by decide +kernel
theorem dX12_runs_49 : decode cX12_runs 49 = .ok (.putfield 251, 3) := by decide +kernel
theorem dX12_runs_52 : decode cX12_runs 52 = .ok (.goto (-48), 3) := by decide +kernel
theorem dX12_runs_55 : decode cX12_runs 55 = .ok (.return_, 1) := by decide +kernel
theorem dX12_areTold_0 : decode cX12_areTold 0 = .ok (.aload_n 0, 1) := by decide +kernel
theorem dX12_areTold_1 : decode cX12_areTold 1 = .ok (.iload_n 1, 1) := by decide +kernel
theorem dX12_areTold_2 : decode cX12_areTold 2 = .ok (.invokevirtual 186, 3) := by decide +kernel
theorem dX12_areTold_5 : decode cX12_areTold 5 = .ok (.ifCond .eq 12, 3) := by decide +kernel
theorem dX12_areTold_8 : decode cX12_areTold 8 = .ok (.aload_n 0, 1) := by decide +kernel
theorem dX12_areTold_9 : decode cX12_areTold 9 = .ok (.iconst 1, 1) := by decide +kernel
theorem dX12_areTold_10 : decode cX12_areTold 10 = .ok (.iload_n 2, 1) := by decide +kernel
theorem dX12_areTold_11 : decode cX12_areTold 11 = .ok (.invokevirtual 144, 3) := by decide +kernel
theorem dX12_areTold_14 : decode cX12_areTold 14 = .ok (.ifCond .ne 5, 3) := by decide +kernel
theorem dX12_areTold_17 : decode cX12_areTold 17 = .ok (.iconst 0, 1) := by decide +kernel
theorem dX12_areTold_18 : decode cX12_areTold 18 = .ok (.ireturn, 1) := by decide +kernel
theorem dX12_areTold_19 : decode cX12_areTold 19 = .ok (.aload_n 0, 1) := by decide +kernel
theorem dX12_areTold_20 : decode cX12_areTold 20 = .ok (.iconst 1, 1) := by decide +kernel
theorem dX12_areTold_21 : decode cX12_areTold 21 = .ok (.iload_n 2, 1) := by decide +kernel
theorem dX12_areTold_22 : decode cX12_areTold 22 = .ok (.invokestatic 174, 3) := by decide +kernel
theorem dX12_areTold_25 : decode cX12_areTold 25 = .ok (.putfield 209, 3) := by decide +kernel
theorem dX12_areTold_28 : decode cX12_areTold 28 = .ok (.iconst 1, 1) := by decide +kernel
theorem dX12_areTold_29 : decode cX12_areTold 29 = .ok (.ireturn, 1) := by decide +kernel
theorem dX12_stop_0 : decode cX12_stop 0 = .ok (.aload_n 0, 1) := by decide +kernel
theorem dX12_stop_1 : decode cX12_stop 1 = .ok (.iload_n 1, 1) := by decide +kernel
theorem dX12_stop_2 : decode cX12_stop 2 = .ok (.iload_n 2, 1) := by decide +kernel
theorem dX12_stop_3 : decode cX12_stop 3 = .ok (.invokevirtual 304, 3) := by decide +kernel
theorem dX12_stop_6 : decode cX12_stop 6 = .ok (.ifCond .ne 5, 3) := by decide +kernel
theorem dX12_stop_9 : decode cX12_stop 9 = .ok (.iconst (-1), 1) := by decide +kernel
theorem dX12_stop_10 : decode cX12_stop 10 = .ok (.ireturn, 1) := by decide +kernel
theorem dX12_stop_11 : decode cX12_stop 11 = .ok (.aload_n 0, 1) := by decide +kernel
theorem dX12_stop_12 : decode cX12_stop 12 = .ok (.bipush 40, 2) := by decide +kernel
theorem dX12_stop_14 : decode cX12_stop 14 = .ok (.invokevirtual 307, 3) := by decide +kernel
theorem dX12_stop_17 : decode cX12_stop 17 = .ok (.aload_n 0, 1) := by decide +kernel
theorem dX12_stop_18 : decode cX12_stop 18 = .ok (.getfield 251, 3) := by decide +kernel
theorem dX12_stop_21 : decode cX12_stop 21 = .ok (.ireturn, 1) := by decide +kernel
theorem dX12_isState_0 : decode cX12_isState 0 = .ok (.aload_n 0, 1) := by decide +kernel
theorem dX12_isState_1 : decode cX12_isState 1 = .ok (.iload_n 1, 1) := by decide +kernel
theorem dX12_isState_2 : decode cX12_isState 2 = .ok (.iload_n 2, 1) := by decide +kernel
theorem dX12_isState_3 : decode cX12_isState 3 = .ok (.invokevirtual 304, 3) := by decide +kernel
theorem dX12_isState_6 : decode cX12_isState 6 = .ok (.ifCond .eq 7, 3) := by decide +kernel
theorem dX12_isState_9 : decode cX12_isState 9 = .ok (.iload_n 3, 1) := by decide +kernel
theorem dX12_isState_10 : decode cX12_isState 10 = .ok (.ifCond .ge 5, 3) := by decide +kernel
theorem dX12_isState_13 : decode cX12_isState 13 = .ok (.iconst 0, 1) := by decide +kernel
theorem dX12_isState_14 : decode cX12_isState 14 = .ok (.ireturn, 1) := by decide +kernel
theorem dX12_isState_15 : decode cX12_isState 15 = .ok (.aload_n 0, 1) := by decide +kernel
theorem dX12_isState_16 : decode cX12_isState 16 = .ok (.iload_n 3, 1) := by decide +kernel
theorem dX12_isState_17 : decode cX12_isState 17 = .ok (.invokevirtual 307, 3) := by decide +kernel
theorem dX12_isState_20 : decode cX12_isState 20 = .ok (.aload_n 0, 1) := by decide +kernel
theorem dX12_isState_21 : decode cX12_isState 21 = .ok (.getfield 251, 3) := by decide +kernel
theorem dX12_isState_24 : decode cX12_isState 24 = .ok (.iload_n 3, 1) := by decide +kernel
theorem dX12_isState_25 : decode cX12_isState 25 = .ok (.if_icmp .ne 7, 3) := by decide +kernel
theorem dX12_isState_28 : decode cX12_isState 28 = .ok (.iconst 1, 1) := by decide +kernel
theorem dX12_isState_29 : decode cX12_isState 29 = .ok (.goto 4, 3) := by decide +kernel
theorem dX12_isState_32 : decode cX12_isState 32 = .ok (.iconst 0, 1) := by decide +kernel
theorem dX12_isState_33 : decode cX12_isState 33 = .ok (.ireturn, 1) := by decide +kernel
theorem dX12_state_0 : decode cX12_state 0 = .ok (.aload_n 0, 1) := by decide +kernel
theorem dX12_state_1 : decode cX12_state 1 = .ok (.iload_n 1, 1) := by decide +kernel
theorem dX12_state_2 : decode cX12_state 2 = .ok (.iload_n 2, 1) := by decide +kernel
theorem dX12_state_3 : decode cX12_state 3 = .ok (.iload_n 3, 1) := by decide +kernel
theorem dX12_state_4 : decode cX12_state 4 = .ok (.invokevirtual 310, 3) := by decide +kernel
theorem dX12_state_7 : decode cX12_state 7 = .ok (.ifCond .ne 6, 3) := by decide +kernel
theorem dX12_state_10 : decode cX12_state 10 = .ok (.bipush (-2), 2) := by decide +kernel
theorem dX12_state_12 : decode cX12_state 12 = .ok (.ireturn, 1) := by decide +kernel
theorem dX12_state_13 : decode cX12_state 13 = .ok (.aload_n 0, 1) := by decide +kernel
theorem dX12_state_14 : decode cX12_state 14 = .ok (.iload 4, 2) := by decide +kernel
theorem dX12_state_16 : decode cX12_state 16 = .ok (.bipush 20, 2) := by decide +kernel
theorem dX12_state_18 : decode cX12_state 18 = .ok (.isub, 1) := by decide +kernel
theorem dX12_state_19 : decode cX12_state 19 = .ok (.invokevirtual 285, 3) := by decide +kernel
theorem dX12_state_22 : decode cX12_state 22 = .ok (.ifCond .eq 14, 3) := by decide +kernel
theorem dX12_state_25 : decode cX12_state 25 = .ok (.aload_n 0, 1) := by decide +kernel
theorem dX12_state_26 : decode cX12_state 26 = .ok (.getfield 20, 3) := by decide +kernel
theorem dX12_state_29 : decode cX12_state 29 = .ok (.iload 4, 2) := by decide +kernel
theorem dX12_state_31 : decode cX12_state 31 = .ok (.bipush 20, 2) := by decide +kernel
theorem dX12_state_33 : decode cX12_state 33 = .ok (.isub, 1) := by decide +kernel
theorem dX12_state_34 : decode cX12_state 34 = .ok (.iaload, 1) := by decide +kernel
theorem dX12_state_35 : decode cX12_state 35 = .ok (.ireturn, 1) := by decide +kernel
theorem dX12_state_36 : decode cX12_state 36 = .ok (.aload_n 0, 1) := by decide +kernel
theorem dX12_state_37 : decode cX12_state 37 = .ok (.iload 4, 2) := by decide +kernel
theorem dX12_state_39 : decode cX12_state 39 = .ok (.bipush 30, 2) := by decide +kernel
theorem dX12_state_41 : decode cX12_state 41 = .ok (.isub, 1) := by decide +kernel
theorem dX12_state_42 : decode cX12_state 42 = .ok (.invokevirtual 288, 3) := by decide +kernel
theorem dX12_state_45 : decode cX12_state 45 = .ok (.ifCond .eq 14, 3) := by decide +kernel
theorem dX12_state_48 : decode cX12_state 48 = .ok (.aload_n 0, 1) := by decide +kernel
theorem dX12_state_49 : decode cX12_state 49 = .ok (.getfield 23, 3) := by decide +kernel
theorem dX12_state_52 : decode cX12_state 52 = .ok (.iload 4, 2) := by decide +kernel
theorem dX12_state_54 : decode cX12_state 54 = .ok (.bipush 30, 2) := by decide +kernel
theorem dX12_state_56 : decode cX12_state 56 = .ok (.isub, 1) := by decide +kernel
theorem dX12_state_57 : decode cX12_state 57 = .ok (.iaload, 1) := by decide +kernel
theorem dX12_state_58 : decode cX12_state 58 = .ok (.ireturn, 1) := by decide +kernel
theorem dX12_state_59 : decode cX12_state 59 = .ok (.iload 4, 2) := by decide +kernel
theorem dX12_state_61 : decode cX12_state 61 = .ok (.tableswitch 138 0 10 #[59, 64, 69, 74, 79, 84, 89, 102, 115, 128, 133], 59) := by decide +kernel
theorem dX12_state_120 : decode cX12_state 120 = .ok (.aload_n 0, 1) := by decide +kernel
theorem dX12_state_121 : decode cX12_state 121 = .ok (.getfield 218, 3) := by decide +kernel
theorem dX12_state_124 : decode cX12_state 124 = .ok (.ireturn, 1) := by decide +kernel
theorem dX12_state_125 : decode cX12_state 125 = .ok (.aload_n 0, 1) := by decide +kernel
theorem dX12_state_126 : decode cX12_state 126 = .ok (.getfield 221, 3) := by decide +kernel
theorem dX12_state_129 : decode cX12_state 129 = .ok (.ireturn, 1) := by decide +kernel
theorem dX12_state_130 : decode cX12_state 130 = .ok (.aload_n 0, 1) := by decide +kernel
theorem dX12_state_131 : decode cX12_state 131 = .ok (.getfield 224, 3) := by decide +kernel
theorem dX12_state_134 : decode cX12_state 134 = .ok (.ireturn, 1) := by decide +kernel
theorem dX12_state_135 : decode cX12_state 135 = .ok (.aload_n 0, 1) := by decide +kernel
theorem dX12_state_136 : decode cX12_state 136 = .ok (.getfield 227, 3) := by decide +kernel
theorem dX12_state_139 : decode cX12_state 139 = .ok (.ireturn, 1) := by decide +kernel
theorem dX12_state_140 : decode cX12_state 140 = .ok (.aload_n 0, 1) := by decide +kernel
theorem dX12_state_141 : decode cX12_state 141 = .ok (.getfield 233, 3) := by decide +kernel
theorem dX12_state_144 : decode cX12_state 144 = .ok (.ireturn, 1) := by decide +kernel
theorem dX12_state_145 : decode cX12_state 145 = .ok (.aload_n 0, 1) := by decide +kernel
theorem dX12_state_146 : decode cX12_state 146 = .ok (.invokevirtual 273, 3) := by decide +kernel
theorem dX12_state_149 : decode cX12_state 149 = .ok (.ireturn, 1) := by decide +kernel
theorem dX12_state_150 : decode cX12_state 150 = .ok (.aload_n 0, 1) := by decide +kernel
theorem dX12_state_151 : decode cX12_state 151 = .ok (.getfield 236, 3) := by decide +kernel
theorem dX12_state_154 : decode cX12_state 154 = .ok (.ifCond .eq 7, 3) := by decide +kernel
theorem dX12_state_157 : decode cX12_state 157 = .ok (.iconst 1, 1) := by decide +kernel
theorem dX12_state_158 : decode cX12_state 158 = .ok (.goto 4, 3) := by decide +kernel
theorem dX12_state_161 : decode cX12_state 161 = .ok (.iconst 0, 1) := by decide +kernel
theorem dX12_state_162 : decode cX12_state 162 = .ok (.ireturn, 1) := by decide +kernel
theorem dX12_state_163 : decode cX12_state 163 = .ok (.aload_n 0, 1) := by decide +kernel
theorem dX12_state_164 : decode cX12_state 164 = .ok (.getfield 239, 3) := by decide +kernel
theorem dX12_state_167 : decode cX12_state 167 = .ok (.ifCond .eq 7, 3) := by decide +kernel
theorem dX12_state_170 : decode cX12_state 170 = .ok (.iconst 1, 1) := by decide +kernel
theorem dX12_state_171 : decode cX12_state 171 = .ok (.goto 4, 3) := by decide +kernel
theorem dX12_state_174 : decode cX12_state 174 = .ok (.iconst 0, 1) := by decide +kernel
theorem dX12_state_175 : decode cX12_state 175 = .ok (.ireturn, 1) := by decide +kernel
theorem dX12_state_176 : decode cX12_state 176 = .ok (.aload_n 0, 1) := by decide +kernel
theorem dX12_state_177 : decode cX12_state 177 = .ok (.getfield 242, 3) := by decide +kernel
theorem dX12_state_180 : decode cX12_state 180 = .ok (.ifCond .eq 7, 3) := by decide +kernel
theorem dX12_state_183 : decode cX12_state 183 = .ok (.iconst 1, 1) := by decide +kernel
theorem dX12_state_184 : decode cX12_state 184 = .ok (.goto 4, 3) := by decide +kernel
theorem dX12_state_187 : decode cX12_state 187 = .ok (.iconst 0, 1) := by decide +kernel
theorem dX12_state_188 : decode cX12_state 188 = .ok (.ireturn, 1) := by decide +kernel
theorem dX12_state_189 : decode cX12_state 189 = .ok (.aload_n 0, 1) := by decide +kernel
theorem dX12_state_190 : decode cX12_state 190 = .ok (.getfield 245, 3) := by decide +kernel
theorem dX12_state_193 : decode cX12_state 193 = .ok (.ireturn, 1) := by decide +kernel
theorem dX12_state_194 : decode cX12_state 194 = .ok (.aload_n 0, 1) := by decide +kernel
theorem dX12_state_195 : decode cX12_state 195 = .ok (.getfield 248, 3) := by decide +kernel
theorem dX12_state_198 : decode cX12_state 198 = .ok (.ireturn, 1) := by decide +kernel
theorem dX12_state_199 : decode cX12_state 199 = .ok (.bipush (-2), 2) := by decide +kernel
theorem dX12_state_201 : decode cX12_state 201 = .ok (.ireturn, 1) := by decide +kernel
theorem dX12_list_0 : decode cX12_list 0 = .ok (.aload_n 0, 1) := by decide +kernel
theorem dX12_list_1 : decode cX12_list 1 = .ok (.iload_n 1, 1) := by decide +kernel
theorem dX12_list_2 : decode cX12_list 2 = .ok (.iload_n 2, 1) := by decide +kernel
theorem dX12_list_3 : decode cX12_list 3 = .ok (.iload_n 3, 1) := by decide +kernel
theorem dX12_list_4 : decode cX12_list 4 = .ok (.invokevirtual 310, 3) := by decide +kernel
theorem dX12_list_7 : decode cX12_list 7 = .ok (.ifCond .eq 22, 3) := by decide +kernel
theorem dX12_list_10 : decode cX12_list 10 = .ok (.iload 4, 2) := by decide +kernel
theorem dX12_list_12 : decode cX12_list 12 = .ok (.iconst 0, 1) := by decide +kernel
theorem dX12_list_13 : decode cX12_list 13 = .ok (.iconst 1, 1) := by decide +kernel
theorem dX12_list_14 : decode cX12_list 14 = .ok (.invokestatic 109, 3) := by decide +kernel
theorem dX12_list_17 : decode cX12_list 17 = .ok (.ifCond .eq 12, 3) := by decide +kernel
theorem dX12_list_20 : decode cX12_list 20 = .ok (.aload_n 0, 1) := by decide +kernel
theorem dX12_list_21 : decode cX12_list 21 = .ok (.iload 4, 2) := by decide +kernel
theorem dX12_list_23 : decode cX12_list 23 = .ok (.invokevirtual 260, 3) := by decide +kernel
theorem dX12_list_26 : decode cX12_list 26 = .ok (.goto 6, 3) := by decide +kernel
theorem dX12_list_29 : decode cX12_list 29 = .ok (.ldc_w 313, 3) := by decide +kernel
theorem dX12_list_32 : decode cX12_list 32 = .ok (.ireturn, 1) := by decide +kernel
theorem dX12_drift_0 : decode cX12_drift 0 = .ok (.aload_n 0, 1) := by decide +kernel
theorem dX12_drift_1 : decode cX12_drift 1 = .ok (.iload_n 1, 1) := by decide +kernel
theorem dX12_drift_2 : decode cX12_drift 2 = .ok (.iload_n 2, 1) := by decide +kernel
theorem dX12_drift_3 : decode cX12_drift 3 = .ok (.iload_n 3, 1) := by decide +kernel
theorem dX12_drift_4 : decode cX12_drift 4 = .ok (.invokevirtual 310, 3) := by decide +kernel
theorem dX12_drift_7 : decode cX12_drift 7 = .ok (.ifCond .eq 22, 3) := by decide +kernel
theorem dX12_drift_10 : decode cX12_drift 10 = .ok (.iload 4, 2) := by decide +kernel
theorem dX12_drift_12 : decode cX12_drift 12 = .ok (.iconst 0, 1) := by decide +kernel
theorem dX12_drift_13 : decode cX12_drift 13 = .ok (.iconst 1, 1) := by decide +kernel
theorem dX12_drift_14 : decode cX12_drift 14 = .ok (.invokestatic 109, 3) := by decide +kernel
theorem dX12_drift_17 : decode cX12_drift 17 = .ok (.ifCond .eq 12, 3) := by decide +kernel
theorem dX12_drift_20 : decode cX12_drift 20 = .ok (.aload_n 0, 1) := by decide +kernel
theorem dX12_drift_21 : decode cX12_drift 21 = .ok (.iload 4, 2) := by decide +kernel
theorem dX12_drift_23 : decode cX12_drift 23 = .ok (.invokevirtual 276, 3) := by decide +kernel
theorem dX12_drift_26 : decode cX12_drift 26 = .ok (.goto 5, 3) := by decide +kernel
theorem dX12_drift_29 : decode cX12_drift 29 = .ok (.bipush (-2), 2) := by decide +kernel
theorem dX12_drift_31 : decode cX12_drift 31 = .ok (.ireturn, 1) := by decide +kernel
theorem dX12_wake_0 : decode cX12_wake 0 = .ok (.aload_n 0, 1) := by decide +kernel
theorem dX12_wake_1 : decode cX12_wake 1 = .ok (.getfield 227, 3) := by decide +kernel
theorem dX12_wake_4 : decode cX12_wake 4 = .ok (.istore_n 1, 1) := by decide +kernel
theorem dX12_wake_5 : decode cX12_wake 5 = .ok (.iconst 1, 1) := by decide +kernel
theorem dX12_wake_6 : decode cX12_wake 6 = .ok (.istore_n 2, 1) := by decide +kernel
theorem dX12_wake_7 : decode cX12_wake 7 = .ok (.iload_n 2, 1) := by decide +kernel
theorem dX12_wake_8 : decode cX12_wake 8 = .ok (.bipush 60, 2) := by decide +kernel
theorem dX12_wake_10 : decode cX12_wake 10 = .ok (.if_icmp .gt 24, 3) := by decide +kernel
theorem dX12_wake_13 : decode cX12_wake 13 = .ok (.aload_n 0, 1) := by decide +kernel
theorem dX12_wake_14 : decode cX12_wake 14 = .ok (.iconst 1, 1) := by decide +kernel
theorem dX12_wake_15 : decode cX12_wake 15 = .ok (.invokevirtual 291, 3) := by decide +kernel
theorem dX12_wake_18 : decode cX12_wake 18 = .ok (.aload_n 0, 1) := by decide +kernel
theorem dX12_wake_19 : decode cX12_wake 19 = .ok (.getfield 227, 3) := by decide +kernel
theorem dX12_wake_22 : decode cX12_wake 22 = .ok (.iload_n 1, 1) := by decide +kernel
theorem dX12_wake_23 : decode cX12_wake 23 = .ok (.if_icmp .le 5, 3) := by decide +kernel
theorem dX12_wake_26 : decode cX12_wake 26 = .ok (.iload_n 2, 1) := by decide +kernel
theorem dX12_wake_27 : decode cX12_wake 27 = .ok (.ireturn, 1) := by decide +kernel
theorem dX12_wake_28 : decode cX12_wake 28 = .ok (.iinc 2 1, 3) := by decide +kernel
theorem dX12_wake_31 : decode cX12_wake 31 = .ok (.goto (-24), 3) := by decide +kernel
theorem dX12_wake_34 : decode cX12_wake 34 = .ok (.iconst (-1), 1) := by decide +kernel
theorem dX12_wake_35 : decode cX12_wake 35 = .ok (.ireturn, 1) := by decide +kernel
theorem dX12_hold_0 : decode cX12_hold 0 = .ok (.iconst 0, 1) := by decide +kernel
theorem dX12_hold_1 : decode cX12_hold 1 = .ok (.istore_n 1, 1) := by decide +kernel
theorem dX12_hold_2 : decode cX12_hold 2 = .ok (.iload_n 1, 1) := by decide +kernel
theorem dX12_hold_3 : decode cX12_hold 3 = .ok (.bipush 60, 2) := by decide +kernel
theorem dX12_hold_5 : decode cX12_hold 5 = .ok (.if_icmp .gt 23, 3) := by decide +kernel
theorem dX12_hold_8 : decode cX12_hold 8 = .ok (.aload_n 0, 1) := by decide +kernel
theorem dX12_hold_9 : decode cX12_hold 9 = .ok (.getfield 236, 3) := by decide +kernel
theorem dX12_hold_12 : decode cX12_hold 12 = .ok (.ifCond .eq 5, 3) := by decide +kernel
theorem dX12_hold_15 : decode cX12_hold 15 = .ok (.iload_n 1, 1) := by decide +kernel
theorem dX12_hold_16 : decode cX12_hold 16 = .ok (.ireturn, 1) := by decide +kernel
theorem dX12_hold_17 : decode cX12_hold 17 = .ok (.aload_n 0, 1) := by decide +kernel
theorem dX12_hold_18 : decode cX12_hold 18 = .ok (.iconst 1, 1) := by decide +kernel
theorem dX12_hold_19 : decode cX12_hold 19 = .ok (.invokevirtual 291, 3) := by decide +kernel
theorem dX12_hold_22 : decode cX12_hold 22 = .ok (.iinc 1 1, 3) := by decide +kernel
theorem dX12_hold_25 : decode cX12_hold 25 = .ok (.goto (-23), 3) := by decide +kernel
theorem dX12_hold_28 : decode cX12_hold 28 = .ok (.iconst (-1), 1) := by decide +kernel
theorem dX12_hold_29 : decode cX12_hold 29 = .ok (.ireturn, 1) := by decide +kernel
theorem dX12_turn_0 : decode cX12_turn 0 = .ok (.iconst 1, 1) := by decide +kernel
theorem dX12_turn_1 : decode cX12_turn 1 = .ok (.istore_n 2, 1) := by decide +kernel
theorem dX12_turn_2 : decode cX12_turn 2 = .ok (.iload_n 2, 1) := by decide +kernel
theorem dX12_turn_3 : decode cX12_turn 3 = .ok (.bipush 9, 2) := by decide +kernel
theorem dX12_turn_5 : decode cX12_turn 5 = .ok (.if_icmp .gt 44, 3) := by decide +kernel
theorem dX12_turn_8 : decode cX12_turn 8 = .ok (.aload_n 0, 1) := by decide +kernel
theorem dX12_turn_9 : decode cX12_turn 9 = .ok (.aload_n 0, 1) := by decide +kernel
theorem dX12_turn_10 : decode cX12_turn 10 = .ok (.iload_n 1, 1) := by decide +kernel
theorem dX12_turn_11 : decode cX12_turn 11 = .ok (.invokestatic 200, 3) := by decide +kernel
theorem dX12_turn_14 : decode cX12_turn 14 = .ok (.invokevirtual 260, 3) := by decide +kernel
theorem dX12_turn_17 : decode cX12_turn 17 = .ok (.invokevirtual 263, 3) := by decide +kernel
theorem dX12_turn_20 : decode cX12_turn 20 = .ok (.aload_n 0, 1) := by decide +kernel
theorem dX12_turn_21 : decode cX12_turn 21 = .ok (.iload_n 1, 1) := by decide +kernel
theorem dX12_turn_22 : decode cX12_turn 22 = .ok (.iload_n 2, 1) := by decide +kernel
theorem dX12_turn_23 : decode cX12_turn 23 = .ok (.iload_n 1, 1) := by decide +kernel
theorem dX12_turn_24 : decode cX12_turn 24 = .ok (.invokestatic 200, 3) := by decide +kernel
theorem dX12_turn_27 : decode cX12_turn 27 = .ok (.invokevirtual 266, 3) := by decide +kernel
theorem dX12_turn_30 : decode cX12_turn 30 = .ok (.iadd, 1) := by decide +kernel
theorem dX12_turn_31 : decode cX12_turn 31 = .ok (.invokestatic 197, 3) := by decide +kernel
theorem dX12_turn_34 : decode cX12_turn 34 = .ok (.iload_n 1, 1) := by decide +kernel
theorem dX12_turn_35 : decode cX12_turn 35 = .ok (.invokestatic 206, 3) := by decide +kernel
theorem dX12_turn_38 : decode cX12_turn 38 = .ok (.if_icmp .ne 5, 3) := by decide +kernel
theorem dX12_turn_41 : decode cX12_turn 41 = .ok (.iload_n 2, 1) := by decide +kernel
theorem dX12_turn_42 : decode cX12_turn 42 = .ok (.ireturn, 1) := by decide +kernel
theorem dX12_turn_43 : decode cX12_turn 43 = .ok (.iinc 2 1, 3) := by decide +kernel
theorem dX12_turn_46 : decode cX12_turn 46 = .ok (.goto (-44), 3) := by decide +kernel
theorem dX12_turn_49 : decode cX12_turn 49 = .ok (.iconst (-1), 1) := by decide +kernel
theorem dX12_turn_50 : decode cX12_turn 50 = .ok (.ireturn, 1) := by decide +kernel
theorem dX12_goes_0 : decode cX12_goes 0 = .ok (.aload_n 0, 1) := by decide +kernel
theorem dX12_goes_1 : decode cX12_goes 1 = .ok (.iload_n 1, 1) := by decide +kernel
theorem dX12_goes_2 : decode cX12_goes 2 = .ok (.iload_n 2, 1) := by decide +kernel
theorem dX12_goes_3 : decode cX12_goes 3 = .ok (.iload_n 3, 1) := by decide +kernel
theorem dX12_goes_4 : decode cX12_goes 4 = .ok (.invokevirtual 310, 3) := by decide +kernel
theorem dX12_goes_7 : decode cX12_goes 7 = .ok (.ifCond .ne 6, 3) := by decide +kernel
theorem dX12_goes_10 : decode cX12_goes 10 = .ok (.bipush (-2), 2) := by decide +kernel
theorem dX12_goes_12 : decode cX12_goes 12 = .ok (.ireturn, 1) := by decide +kernel
theorem dX12_goes_13 : decode cX12_goes 13 = .ok (.iload 4, 2) := by decide +kernel
theorem dX12_goes_15 : decode cX12_goes 15 = .ok (.bipush 10, 2) := by decide +kernel
theorem dX12_goes_17 : decode cX12_goes 17 = .ok (.bipush 13, 2) := by decide +kernel
theorem dX12_goes_19 : decode cX12_goes 19 = .ok (.invokestatic 109, 3) := by decide +kernel
theorem dX12_goes_22 : decode cX12_goes 22 = .ok (.ifCond .eq 13, 3) := by decide +kernel
theorem dX12_goes_25 : decode cX12_goes 25 = .ok (.aload_n 0, 1) := by decide +kernel
theorem dX12_goes_26 : decode cX12_goes 26 = .ok (.iload 4, 2) := by decide +kernel
theorem dX12_goes_28 : decode cX12_goes 28 = .ok (.bipush 10, 2) := by decide +kernel
theorem dX12_goes_30 : decode cX12_goes 30 = .ok (.isub, 1) := by decide +kernel
theorem dX12_goes_31 : decode cX12_goes 31 = .ok (.invokevirtual 314, 3) := by decide +kernel
theorem dX12_goes_34 : decode cX12_goes 34 = .ok (.ireturn, 1) := by decide +kernel
theorem dX12_goes_35 : decode cX12_goes 35 = .ok (.iload 4, 2) := by decide +kernel
theorem dX12_goes_37 : decode cX12_goes 37 = .ok (.ifCond .ne 10, 3) := by decide +kernel
theorem dX12_goes_40 : decode cX12_goes 40 = .ok (.aload_n 0, 1) := by decide +kernel
theorem dX12_goes_41 : decode cX12_goes 41 = .ok (.invokevirtual 317, 3) := by decide +kernel
theorem dX12_goes_44 : decode cX12_goes 44 = .ok (.goto 18, 3) := by decide +kernel
theorem dX12_goes_47 : decode cX12_goes 47 = .ok (.iload 4, 2) := by decide +kernel
theorem dX12_goes_49 : decode cX12_goes 49 = .ok (.iconst 1, 1) := by decide +kernel
theorem dX12_goes_50 : decode cX12_goes 50 = .ok (.if_icmp .ne 10, 3) := by decide +kernel
theorem dX12_goes_53 : decode cX12_goes 53 = .ok (.aload_n 0, 1) := by decide +kernel
theorem dX12_goes_54 : decode cX12_goes 54 = .ok (.invokevirtual 320, 3) := by decide +kernel
theorem dX12_goes_57 : decode cX12_goes 57 = .ok (.goto 5, 3) := by decide +kernel
theorem dX12_goes_60 : decode cX12_goes 60 = .ok (.bipush (-2), 2) := by decide +kernel
theorem dX12_goes_62 : decode cX12_goes 62 = .ok (.ireturn, 1) := by decide +kernel
theorem dX12_termOf_0 : decode cX12_termOf 0 = .ok (.aload_n 0, 1) := by decide +kernel
theorem dX12_termOf_1 : decode cX12_termOf 1 = .ok (.getfield 7, 3) := by decide +kernel
theorem dX12_termOf_4 : decode cX12_termOf 4 = .ok (.aload_n 0, 1) := by decide +kernel
theorem dX12_termOf_5 : decode cX12_termOf 5 = .ok (.getfield 323, 3) := by decide +kernel
theorem dX12_termOf_8 : decode cX12_termOf 8 = .ok (.iconst 1, 1) := by decide +kernel
theorem dX12_termOf_9 : decode cX12_termOf 9 = .ok (.iadd, 1) := by decide +kernel
theorem dX12_termOf_10 : decode cX12_termOf 10 = .ok (.iconst 3, 1) := by decide +kernel
theorem dX12_termOf_11 : decode cX12_termOf 11 = .ok (.iload_n 1, 1) := by decide +kernel
theorem dX12_termOf_12 : decode cX12_termOf 12 = .ok (.imul, 1) := by decide +kernel
theorem dX12_termOf_13 : decode cX12_termOf 13 = .ok (.iadd, 1) := by decide +kernel
theorem dX12_termOf_14 : decode cX12_termOf 14 = .ok (.iload_n 2, 1) := by decide +kernel
theorem dX12_termOf_15 : decode cX12_termOf 15 = .ok (.iadd, 1) := by decide +kernel
theorem dX12_termOf_16 : decode cX12_termOf 16 = .ok (.iaload, 1) := by decide +kernel
theorem dX12_termOf_17 : decode cX12_termOf 17 = .ok (.ireturn, 1) := by decide +kernel
theorem dX12_term_0 : decode cX12_term 0 = .ok (.aload_n 0, 1) := by decide +kernel
theorem dX12_term_1 : decode cX12_term 1 = .ok (.iconst 4, 1) := by decide +kernel
theorem dX12_term_2 : decode cX12_term 2 = .ok (.iload_n 1, 1) := by decide +kernel
theorem dX12_term_3 : decode cX12_term 3 = .ok (.invokevirtual 144, 3) := by decide +kernel
theorem dX12_term_6 : decode cX12_term 6 = .ok (.ifCond .ne 6, 3) := by decide +kernel
theorem dX12_term_9 : decode cX12_term 9 = .ok (.bipush (-2), 2) := by decide +kernel
theorem dX12_term_11 : decode cX12_term 11 = .ok (.ireturn, 1) := by decide +kernel
theorem dX12_term_12 : decode cX12_term 12 = .ok (.aload_n 0, 1) := by decide +kernel
theorem dX12_term_13 : decode cX12_term 13 = .ok (.iconst 4, 1) := by decide +kernel
theorem dX12_term_14 : decode cX12_term 14 = .ok (.iload_n 1, 1) := by decide +kernel
theorem dX12_term_15 : decode cX12_term 15 = .ok (.invokestatic 174, 3) := by decide +kernel
theorem dX12_term_18 : decode cX12_term 18 = .ok (.putfield 323, 3) := by decide +kernel
theorem dX12_term_21 : decode cX12_term 21 = .ok (.iload_n 2, 1) := by decide +kernel
theorem dX12_term_22 : decode cX12_term 22 = .ok (.iconst (-1), 1) := by decide +kernel
theorem dX12_term_23 : decode cX12_term 23 = .ok (.if_icmp .ne 22, 3) := by decide +kernel
theorem dX12_term_26 : decode cX12_term 26 = .ok (.iload_n 3, 1) := by decide +kernel
theorem dX12_term_27 : decode cX12_term 27 = .ok (.ifCond .ne 15, 3) := by decide +kernel
theorem dX12_term_30 : decode cX12_term 30 = .ok (.aload_n 0, 1) := by decide +kernel
theorem dX12_term_31 : decode cX12_term 31 = .ok (.getfield 7, 3) := by decide +kernel
theorem dX12_term_34 : decode cX12_term 34 = .ok (.aload_n 0, 1) := by decide +kernel
theorem dX12_term_35 : decode cX12_term 35 = .ok (.getfield 323, 3) := by decide +kernel
theorem dX12_term_38 : decode cX12_term 38 = .ok (.iaload, 1) := by decide +kernel
theorem dX12_term_39 : decode cX12_term 39 = .ok (.goto 5, 3) := by decide +kernel
theorem dX12_term_42 : decode cX12_term 42 = .ok (.bipush (-2), 2) := by decide +kernel
theorem dX12_term_44 : decode cX12_term 44 = .ok (.ireturn, 1) := by decide +kernel
theorem dX12_term_45 : decode cX12_term 45 = .ok (.iload_n 2, 1) := by decide +kernel
theorem dX12_term_46 : decode cX12_term 46 = .ok (.iconst 0, 1) := by decide +kernel
theorem dX12_term_47 : decode cX12_term 47 = .ok (.aload_n 0, 1) := by decide +kernel
theorem dX12_term_48 : decode cX12_term 48 = .ok (.getfield 7, 3) := by decide +kernel
theorem dX12_term_51 : decode cX12_term 51 = .ok (.aload_n 0, 1) := by decide +kernel
theorem dX12_term_52 : decode cX12_term 52 = .ok (.getfield 323, 3) := by decide +kernel
theorem dX12_term_55 : decode cX12_term 55 = .ok (.iaload, 1) := by decide +kernel
theorem dX12_term_56 : decode cX12_term 56 = .ok (.iconst 1, 1) := by decide +kernel
theorem dX12_term_57 : decode cX12_term 57 = .ok (.isub, 1) := by decide +kernel
theorem dX12_term_58 : decode cX12_term 58 = .ok (.invokestatic 109, 3) := by decide +kernel
theorem dX12_term_61 : decode cX12_term 61 = .ok (.ifCond .eq 21, 3) := by decide +kernel
theorem dX12_term_64 : decode cX12_term 64 = .ok (.iload_n 3, 1) := by decide +kernel
theorem dX12_term_65 : decode cX12_term 65 = .ok (.iconst 0, 1) := by decide +kernel
theorem dX12_term_66 : decode cX12_term 66 = .ok (.iconst 2, 1) := by decide +kernel
theorem dX12_term_67 : decode cX12_term 67 = .ok (.invokestatic 109, 3) := by decide +kernel
theorem dX12_term_70 : decode cX12_term 70 = .ok (.ifCond .eq 12, 3) := by decide +kernel
theorem dX12_term_73 : decode cX12_term 73 = .ok (.aload_n 0, 1) := by decide +kernel
theorem dX12_term_74 : decode cX12_term 74 = .ok (.iload_n 2, 1) := by decide +kernel
theorem dX12_term_75 : decode cX12_term 75 = .ok (.iload_n 3, 1) := by decide +kernel
theorem dX12_term_76 : decode cX12_term 76 = .ok (.invokevirtual 326, 3) := by decide +kernel
theorem dX12_term_79 : decode cX12_term 79 = .ok (.goto 5, 3) := by decide +kernel
theorem dX12_term_82 : decode cX12_term 82 = .ok (.bipush (-2), 2) := by decide +kernel
theorem dX12_term_84 : decode cX12_term 84 = .ok (.ireturn, 1) := by decide +kernel
theorem dX12_allGraves_0 : decode cX12_allGraves 0 = .ok (.iconst 0, 1) := by decide +kernel
theorem dX12_allGraves_1 : decode cX12_allGraves 1 = .ok (.istore_n 1, 1) := by decide +kernel
theorem dX12_allGraves_2 : decode cX12_allGraves 2 = .ok (.iconst 0, 1) := by decide +kernel
theorem dX12_allGraves_3 : decode cX12_allGraves 3 = .ok (.istore_n 2, 1) := by decide +kernel
theorem dX12_allGraves_4 : decode cX12_allGraves 4 = .ok (.iload_n 2, 1) := by decide +kernel
theorem dX12_allGraves_5 : decode cX12_allGraves 5 = .ok (.aload_n 0, 1) := by decide +kernel
theorem dX12_allGraves_6 : decode cX12_allGraves 6 = .ok (.bipush 12, 2) := by decide +kernel
theorem dX12_allGraves_8 : decode cX12_allGraves 8 = .ok (.invokevirtual 180, 3) := by decide +kernel
theorem dX12_allGraves_11 : decode cX12_allGraves 11 = .ok (.if_icmp .ge 24, 3) := by decide +kernel
theorem dX12_allGraves_14 : decode cX12_allGraves 14 = .ok (.iload_n 1, 1) := by decide +kernel
theorem dX12_allGraves_15 : decode cX12_allGraves 15 = .ok (.aload_n 0, 1) := by decide +kernel
theorem dX12_allGraves_16 : decode cX12_allGraves 16 = .ok (.bipush 56, 2) := by decide +kernel
theorem dX12_allGraves_18 : decode cX12_allGraves 18 = .ok (.iconst 2, 1) := by decide +kernel
theorem dX12_allGraves_19 : decode cX12_allGraves 19 = .ok (.iload_n 2, 1) := by decide +kernel
theorem dX12_allGraves_20 : decode cX12_allGraves 20 = .ok (.imul, 1) := by decide +kernel
theorem dX12_allGraves_21 : decode cX12_allGraves 21 = .ok (.iadd, 1) := by decide +kernel
theorem dX12_allGraves_22 : decode cX12_allGraves 22 = .ok (.iconst 1, 1) := by decide +kernel
theorem dX12_allGraves_23 : decode cX12_allGraves 23 = .ok (.iadd, 1) := by decide +kernel
theorem dX12_allGraves_24 : decode cX12_allGraves 24 = .ok (.invokevirtual 180, 3) := by decide +kernel
theorem dX12_allGraves_27 : decode cX12_allGraves 27 = .ok (.iadd, 1) := by decide +kernel
theorem dX12_allGraves_28 : decode cX12_allGraves 28 = .ok (.istore_n 1, 1) := by decide +kernel
theorem dX12_allGraves_29 : decode cX12_allGraves 29 = .ok (.iinc 2 1, 3) := by decide +kernel
theorem dX12_allGraves_32 : decode cX12_allGraves 32 = .ok (.goto (-28), 3) := by decide +kernel
theorem dX12_allGraves_35 : decode cX12_allGraves 35 = .ok (.iload_n 1, 1) := by decide +kernel
theorem dX12_allGraves_36 : decode cX12_allGraves 36 = .ok (.ireturn, 1) := by decide +kernel
theorem dX12_owes_0 : decode cX12_owes 0 = .ok (.aload_n 0, 1) := by decide +kernel
theorem dX12_owes_1 : decode cX12_owes 1 = .ok (.iload_n 2, 1) := by decide +kernel
theorem dX12_owes_2 : decode cX12_owes 2 = .ok (.iconst 1, 1) := by decide +kernel
theorem dX12_owes_3 : decode cX12_owes 3 = .ok (.invokevirtual 326, 3) := by decide +kernel
theorem dX12_owes_6 : decode cX12_owes 6 = .ok (.istore_n 3, 1) := by decide +kernel
theorem dX12_owes_7 : decode cX12_owes 7 = .ok (.aload_n 0, 1) := by decide +kernel
theorem dX12_owes_8 : decode cX12_owes 8 = .ok (.iload_n 2, 1) := by decide +kernel
theorem dX12_owes_9 : decode cX12_owes 9 = .ok (.iconst 2, 1) := by decide +kernel
theorem dX12_owes_10 : decode cX12_owes 10 = .ok (.invokevirtual 326, 3) := by decide +kernel
theorem dX12_owes_13 : decode cX12_owes 13 = .ok (.istore 4, 2) := by decide +kernel
theorem dX12_owes_15 : decode cX12_owes 15 = .ok (.aload_n 0, 1) := by decide +kernel
theorem dX12_owes_16 : decode cX12_owes 16 = .ok (.iload_n 2, 1) := by decide +kernel
theorem dX12_owes_17 : decode cX12_owes 17 = .ok (.iconst 0, 1) := by decide +kernel
theorem dX12_owes_18 : decode cX12_owes 18 = .ok (.invokevirtual 326, 3) := by decide +kernel
theorem dX12_owes_21 : decode cX12_owes 21 = .ok (.tableswitch 127 0 4 #[35, 44, 74, 95, 104], 35) := by decide +kernel
theorem dX12_owes_56 : decode cX12_owes 56 = .ok (.iload_n 1, 1) := by decide +kernel
theorem dX12_owes_57 : decode cX12_owes 57 = .ok (.iload_n 3, 1) := by decide +kernel
theorem dX12_owes_58 : decode cX12_owes 58 = .ok (.aload_n 0, 1) := by decide +kernel
theorem dX12_owes_59 : decode cX12_owes 59 = .ok (.invokevirtual 329, 3) := by decide +kernel
theorem dX12_owes_62 : decode cX12_owes 62 = .ok (.imul, 1) := by decide +kernel
theorem dX12_owes_63 : decode cX12_owes 63 = .ok (.iadd, 1) := by decide +kernel
theorem dX12_owes_64 : decode cX12_owes 64 = .ok (.ireturn, 1) := by decide +kernel
theorem dX12_owes_65 : decode cX12_owes 65 = .ok (.iload_n 1, 1) := by decide +kernel
theorem dX12_owes_66 : decode cX12_owes 66 = .ok (.aload_n 0, 1) := by decide +kernel
theorem dX12_owes_67 : decode cX12_owes 67 = .ok (.iconst 0, 1) := by decide +kernel
theorem dX12_owes_68 : decode cX12_owes 68 = .ok (.invokevirtual 260, 3) := by decide +kernel
theorem dX12_owes_71 : decode cX12_owes 71 = .ok (.invokestatic 195, 3) := by decide +kernel
theorem dX12_owes_74 : decode cX12_owes 74 = .ok (.aload_n 0, 1) := by decide +kernel
theorem dX12_owes_75 : decode cX12_owes 75 = .ok (.iconst 1, 1) := by decide +kernel
theorem dX12_owes_76 : decode cX12_owes 76 = .ok (.invokevirtual 260, 3) := by decide +kernel
theorem dX12_owes_79 : decode cX12_owes 79 = .ok (.invokestatic 195, 3) := by decide +kernel
theorem dX12_owes_82 : decode cX12_owes 82 = .ok (.iadd, 1) := by decide +kernel
theorem dX12_owes_83 : decode cX12_owes 83 = .ok (.iload_n 3, 1) := by decide +kernel
theorem dX12_owes_84 : decode cX12_owes 84 = .ok (.if_icmp .le 8, 3) := by decide +kernel
theorem dX12_owes_87 : decode cX12_owes 87 = .ok (.iload 4, 2) := by decide +kernel
theorem dX12_owes_89 : decode cX12_owes 89 = .ok (.goto 4, 3) := by decide +kernel
theorem dX12_owes_92 : decode cX12_owes 92 = .ok (.iconst 0, 1) := by decide +kernel
theorem dX12_owes_93 : decode cX12_owes 93 = .ok (.iadd, 1) := by decide +kernel
theorem dX12_owes_94 : decode cX12_owes 94 = .ok (.ireturn, 1) := by decide +kernel
theorem dX12_owes_95 : decode cX12_owes 95 = .ok (.iload_n 1, 1) := by decide +kernel
theorem dX12_owes_96 : decode cX12_owes 96 = .ok (.aload_n 0, 1) := by decide +kernel
theorem dX12_owes_97 : decode cX12_owes 97 = .ok (.getfield 233, 3) := by decide +kernel
theorem dX12_owes_100 : decode cX12_owes 100 = .ok (.iload_n 3, 1) := by decide +kernel
theorem dX12_owes_101 : decode cX12_owes 101 = .ok (.ishr, 1) := by decide +kernel
theorem dX12_owes_102 : decode cX12_owes 102 = .ok (.iconst 1, 1) := by decide +kernel
theorem dX12_owes_103 : decode cX12_owes 103 = .ok (.iand, 1) := by decide +kernel
theorem dX12_owes_104 : decode cX12_owes 104 = .ok (.iconst 1, 1) := by decide +kernel
theorem dX12_owes_105 : decode cX12_owes 105 = .ok (.if_icmp .ne 8, 3) := by decide +kernel
theorem dX12_owes_108 : decode cX12_owes 108 = .ok (.iload 4, 2) := by decide +kernel
theorem dX12_owes_110 : decode cX12_owes 110 = .ok (.goto 4, 3) := by decide +kernel
theorem dX12_owes_113 : decode cX12_owes 113 = .ok (.iconst 0, 1) := by decide +kernel
theorem dX12_owes_114 : decode cX12_owes 114 = .ok (.iadd, 1) := by decide +kernel
theorem dX12_owes_115 : decode cX12_owes 115 = .ok (.ireturn, 1) := by decide +kernel
theorem dX12_owes_116 : decode cX12_owes 116 = .ok (.iload_n 1, 1) := by decide +kernel
theorem dX12_owes_117 : decode cX12_owes 117 = .ok (.iload_n 3, 1) := by decide +kernel
theorem dX12_owes_118 : decode cX12_owes 118 = .ok (.aload_n 0, 1) := by decide +kernel
theorem dX12_owes_119 : decode cX12_owes 119 = .ok (.invokevirtual 273, 3) := by decide +kernel
theorem dX12_owes_122 : decode cX12_owes 122 = .ok (.imul, 1) := by decide +kernel
theorem dX12_owes_123 : decode cX12_owes 123 = .ok (.iadd, 1) := by decide +kernel
theorem dX12_owes_124 : decode cX12_owes 124 = .ok (.ireturn, 1) := by decide +kernel
theorem dX12_owes_125 : decode cX12_owes 125 = .ok (.iload_n 1, 1) := by decide +kernel
theorem dX12_owes_126 : decode cX12_owes 126 = .ok (.aload_n 0, 1) := by decide +kernel
theorem dX12_owes_127 : decode cX12_owes 127 = .ok (.getfield 218, 3) := by decide +kernel
theorem dX12_owes_130 : decode cX12_owes 130 = .ok (.aload_n 0, 1) := by decide +kernel
theorem dX12_owes_131 : decode cX12_owes 131 = .ok (.getfield 221, 3) := by decide +kernel
theorem dX12_owes_134 : decode cX12_owes 134 = .ok (.iadd, 1) := by decide +kernel
theorem dX12_owes_135 : decode cX12_owes 135 = .ok (.iconst 2, 1) := by decide +kernel
theorem dX12_owes_136 : decode cX12_owes 136 = .ok (.irem, 1) := by decide +kernel
theorem dX12_owes_137 : decode cX12_owes 137 = .ok (.iconst 1, 1) := by decide +kernel
theorem dX12_owes_138 : decode cX12_owes 138 = .ok (.if_icmp .ne 7, 3) := by decide +kernel
theorem dX12_owes_141 : decode cX12_owes 141 = .ok (.iload_n 3, 1) := by decide +kernel
theorem dX12_owes_142 : decode cX12_owes 142 = .ok (.goto 4, 3) := by decide +kernel
theorem dX12_owes_145 : decode cX12_owes 145 = .ok (.iconst 0, 1) := by decide +kernel
theorem dX12_owes_146 : decode cX12_owes 146 = .ok (.iadd, 1) := by decide +kernel
theorem dX12_owes_147 : decode cX12_owes 147 = .ok (.ireturn, 1) := by decide +kernel
theorem dX12_owes_148 : decode cX12_owes 148 = .ok (.iload_n 1, 1) := by decide +kernel
theorem dX12_owes_149 : decode cX12_owes 149 = .ok (.iload_n 3, 1) := by decide +kernel
theorem dX12_owes_150 : decode cX12_owes 150 = .ok (.if_icmp .le 7, 3) := by decide +kernel
theorem dX12_owes_153 : decode cX12_owes 153 = .ok (.iload_n 3, 1) := by decide +kernel
theorem dX12_owes_154 : decode cX12_owes 154 = .ok (.goto 4, 3) := by decide +kernel
theorem dX12_owes_157 : decode cX12_owes 157 = .ok (.iload_n 1, 1) := by decide +kernel
theorem dX12_owes_158 : decode cX12_owes 158 = .ok (.ireturn, 1) := by decide +kernel
theorem dX12_owed_0 : decode cX12_owed 0 = .ok (.aload_n 0, 1) := by decide +kernel
theorem dX12_owed_1 : decode cX12_owed 1 = .ok (.iload_n 1, 1) := by decide +kernel
theorem dX12_owed_2 : decode cX12_owed 2 = .ok (.iload_n 2, 1) := by decide +kernel
theorem dX12_owed_3 : decode cX12_owed 3 = .ok (.iload_n 3, 1) := by decide +kernel
theorem dX12_owed_4 : decode cX12_owed 4 = .ok (.invokevirtual 310, 3) := by decide +kernel
theorem dX12_owed_7 : decode cX12_owed 7 = .ok (.ifCond .eq 13, 3) := by decide +kernel
theorem dX12_owed_10 : decode cX12_owed 10 = .ok (.aload_n 0, 1) := by decide +kernel
theorem dX12_owed_11 : decode cX12_owed 11 = .ok (.iconst 4, 1) := by decide +kernel
theorem dX12_owed_12 : decode cX12_owed 12 = .ok (.iload 4, 2) := by decide +kernel
theorem dX12_owed_14 : decode cX12_owed 14 = .ok (.invokevirtual 144, 3) := by decide +kernel
theorem dX12_owed_17 : decode cX12_owed 17 = .ok (.ifCond .ne 5, 3) := by decide +kernel
theorem dX12_owed_20 : decode cX12_owed 20 = .ok (.iconst (-1), 1) := by decide +kernel
theorem dX12_owed_21 : decode cX12_owed 21 = .ok (.ireturn, 1) := by decide +kernel
theorem dX12_owed_22 : decode cX12_owed 22 = .ok (.aload_n 0, 1) := by decide +kernel
theorem dX12_owed_23 : decode cX12_owed 23 = .ok (.iconst 4, 1) := by decide +kernel
theorem dX12_owed_24 : decode cX12_owed 24 = .ok (.iload 4, 2) := by decide +kernel
theorem dX12_owed_26 : decode cX12_owed 26 = .ok (.invokestatic 174, 3) := by decide +kernel
theorem dX12_owed_29 : decode cX12_owed 29 = .ok (.putfield 323, 3) := by decide +kernel
theorem dX12_owed_32 : decode cX12_owed 32 = .ok (.iconst 0, 1) := by decide +kernel
theorem dX12_owed_33 : decode cX12_owed 33 = .ok (.istore 5, 2) := by decide +kernel
theorem dX12_owed_35 : decode cX12_owed 35 = .ok (.iconst 0, 1) := by decide +kernel
theorem dX12_owed_36 : decode cX12_owed 36 = .ok (.istore 6, 2) := by decide +kernel
theorem dX12_owed_38 : decode cX12_owed 38 = .ok (.iload 6, 2) := by decide +kernel
theorem dX12_owed_40 : decode cX12_owed 40 = .ok (.aload_n 0, 1) := by decide +kernel
theorem dX12_owed_41 : decode cX12_owed 41 = .ok (.getfield 7, 3) := by decide +kernel
theorem dX12_owed_44 : decode cX12_owed 44 = .ok (.aload_n 0, 1) := by decide +kernel
theorem dX12_owed_45 : decode cX12_owed 45 = .ok (.getfield 323, 3) := by decide +kernel
theorem dX12_owed_48 : decode cX12_owed 48 = .ok (.iaload, 1) := by decide +kernel
theorem dX12_owed_49 : decode cX12_owed 49 = .ok (.if_icmp .ge 19, 3) := by decide +kernel
theorem dX12_owed_52 : decode cX12_owed 52 = .ok (.aload_n 0, 1) := by decide +kernel
theorem dX12_owed_53 : decode cX12_owed 53 = .ok (.iload 5, 2) := by decide +kernel
theorem dX12_owed_55 : decode cX12_owed 55 = .ok (.iload 6, 2) := by decide +kernel
theorem dX12_owed_57 : decode cX12_owed 57 = .ok (.invokevirtual 332, 3) := by decide +kernel
theorem dX12_owed_60 : decode cX12_owed 60 = .ok (.istore 5, 2) := by decide +kernel
theorem dX12_owed_62 : decode cX12_owed 62 = .ok (.iinc 6 1, 3) := by decide +kernel
theorem dX12_owed_65 : decode cX12_owed 65 = .ok (.goto (-27), 3) := by decide +kernel
theorem dX12_owed_68 : decode cX12_owed 68 = .ok (.iload 5, 2) := by decide +kernel
theorem dX12_owed_70 : decode cX12_owed 70 = .ok (.ireturn, 1) := by decide +kernel
theorem dX12_boards_0 : decode cX12_boards 0 = .ok (.iconst 0, 1) := by decide +kernel
theorem dX12_boards_1 : decode cX12_boards 1 = .ok (.istore_n 2, 1) := by decide +kernel
theorem dX12_boards_2 : decode cX12_boards 2 = .ok (.iload_n 2, 1) := by decide +kernel
theorem dX12_boards_3 : decode cX12_boards 3 = .ok (.sipush 32761, 3) := by decide +kernel
theorem dX12_boards_6 : decode cX12_boards 6 = .ok (.if_icmp .ge 21, 3) := by decide +kernel
theorem dX12_boards_9 : decode cX12_boards 9 = .ok (.aload_n 0, 1) := by decide +kernel
theorem dX12_boards_10 : decode cX12_boards 10 = .ok (.getfield 29, 3) := by decide +kernel
theorem dX12_boards_13 : decode cX12_boards 13 = .ok (.iload_n 2, 1) := by decide +kernel
theorem dX12_boards_14 : decode cX12_boards 14 = .ok (.aload_n 0, 1) := by decide +kernel
theorem dX12_boards_15 : decode cX12_boards 15 = .ok (.getfield 26, 3) := by decide +kernel
theorem dX12_boards_18 : decode cX12_boards 18 = .ok (.iload_n 2, 1) := by decide +kernel
theorem dX12_boards_19 : decode cX12_boards 19 = .ok (.iaload, 1) := by decide +kernel
theorem dX12_boards_20 : decode cX12_boards 20 = .ok (.iastore, 1) := by decide +kernel
theorem dX12_boards_21 : decode cX12_boards 21 = .ok (.iinc 2 1, 3) := by decide +kernel
theorem dX12_boards_24 : decode cX12_boards 24 = .ok (.goto (-22), 3) := by decide +kernel
theorem dX12_boards_27 : decode cX12_boards 27 = .ok (.iconst 0, 1) := by decide +kernel
theorem dX12_boards_28 : decode cX12_boards 28 = .ok (.istore_n 2, 1) := by decide +kernel
theorem dX12_boards_29 : decode cX12_boards 29 = .ok (.iload_n 2, 1) := by decide +kernel
theorem dX12_boards_30 : decode cX12_boards 30 = .ok (.sipush 32761, 3) := by decide +kernel
theorem dX12_boards_33 : decode cX12_boards 33 = .ok (.if_icmp .ge 121, 3) := by decide +kernel
theorem dX12_boards_36 : decode cX12_boards 36 = .ok (.aload_n 0, 1) := by decide +kernel
theorem dX12_boards_37 : decode cX12_boards 37 = .ok (.getfield 26, 3) := by decide +kernel
theorem dX12_boards_40 : decode cX12_boards 40 = .ok (.iload_n 2, 1) := by decide +kernel
theorem dX12_boards_41 : decode cX12_boards 41 = .ok (.iaload, 1) := by decide +kernel
theorem dX12_boards_42 : decode cX12_boards 42 = .ok (.ldc_w 335, 3) := by decide +kernel
theorem dX12_boards_45 : decode cX12_boards 45 = .ok (.if_icmp .lt 6, 3) := by decide +kernel
theorem dX12_boards_48 : decode cX12_boards 48 = .ok (.goto 100, 3) := by decide +kernel
theorem dX12_boards_51 : decode cX12_boards 51 = .ok (.iconst 0, 1) := by decide +kernel
theorem dX12_boards_52 : decode cX12_boards 52 = .ok (.istore_n 3, 1) := by decide +kernel
theorem dX12_boards_53 : decode cX12_boards 53 = .ok (.iload_n 3, 1) := by decide +kernel
theorem dX12_boards_54 : decode cX12_boards 54 = .ok (.aload_n 0, 1) := by decide +kernel
theorem dX12_boards_55 : decode cX12_boards 55 = .ok (.invokevirtual 257, 3) := by decide +kernel
theorem dX12_boards_58 : decode cX12_boards 58 = .ok (.if_icmp .ge 90, 3) := by decide +kernel
theorem dX12_boards_61 : decode cX12_boards 61 = .ok (.iload_n 2, 1) := by decide +kernel
theorem dX12_boards_62 : decode cX12_boards 62 = .ok (.sipush 181, 3) := by decide +kernel
theorem dX12_boards_65 : decode cX12_boards 65 = .ok (.aload_n 0, 1) := by decide +kernel
theorem dX12_boards_66 : decode cX12_boards 66 = .ok (.iload_n 1, 1) := by decide +kernel
theorem dX12_boards_67 : decode cX12_boards 67 = .ok (.iconst 0, 1) := by decide +kernel
theorem dX12_boards_68 : decode cX12_boards 68 = .ok (.invokevirtual 189, 3) := by decide +kernel
theorem dX12_boards_71 : decode cX12_boards 71 = .ok (.imul, 1) := by decide +kernel
theorem dX12_boards_72 : decode cX12_boards 72 = .ok (.aload_n 0, 1) := by decide +kernel
theorem dX12_boards_73 : decode cX12_boards 73 = .ok (.iload_n 3, 1) := by decide +kernel
theorem dX12_boards_74 : decode cX12_boards 74 = .ok (.iconst 0, 1) := by decide +kernel
theorem dX12_boards_75 : decode cX12_boards 75 = .ok (.invokevirtual 192, 3) := by decide +kernel
theorem dX12_boards_78 : decode cX12_boards 78 = .ok (.imul, 1) := by decide +kernel
theorem dX12_boards_79 : decode cX12_boards 79 = .ok (.iadd, 1) := by decide +kernel
theorem dX12_boards_80 : decode cX12_boards 80 = .ok (.aload_n 0, 1) := by decide +kernel
theorem dX12_boards_81 : decode cX12_boards 81 = .ok (.iload_n 1, 1) := by decide +kernel
theorem dX12_boards_82 : decode cX12_boards 82 = .ok (.iconst 0, 1) := by decide +kernel
theorem dX12_boards_83 : decode cX12_boards 83 = .ok (.invokevirtual 189, 3) := by decide +kernel
theorem dX12_boards_86 : decode cX12_boards 86 = .ok (.aload_n 0, 1) := by decide +kernel
theorem dX12_boards_87 : decode cX12_boards 87 = .ok (.iload_n 3, 1) := by decide +kernel
theorem dX12_boards_88 : decode cX12_boards 88 = .ok (.iconst 1, 1) := by decide +kernel
theorem dX12_boards_89 : decode cX12_boards 89 = .ok (.invokevirtual 192, 3) := by decide +kernel
theorem dX12_boards_92 : decode cX12_boards 92 = .ok (.imul, 1) := by decide +kernel
theorem dX12_boards_93 : decode cX12_boards 93 = .ok (.iadd, 1) := by decide +kernel
theorem dX12_boards_94 : decode cX12_boards 94 = .ok (.istore 4, 2) := by decide +kernel
theorem dX12_boards_96 : decode cX12_boards 96 = .ok (.aload_n 0, 1) := by decide +kernel
theorem dX12_boards_97 : decode cX12_boards 97 = .ok (.getfield 26, 3) := by decide +kernel
theorem dX12_boards_100 : decode cX12_boards 100 = .ok (.iload_n 2, 1) := by decide +kernel
theorem dX12_boards_101 : decode cX12_boards 101 = .ok (.iaload, 1) := by decide +kernel
theorem dX12_boards_102 : decode cX12_boards 102 = .ok (.aload_n 0, 1) := by decide +kernel
theorem dX12_boards_103 : decode cX12_boards 103 = .ok (.iload_n 1, 1) := by decide +kernel
theorem dX12_boards_104 : decode cX12_boards 104 = .ok (.iconst 1, 1) := by decide +kernel
theorem dX12_boards_105 : decode cX12_boards 105 = .ok (.invokevirtual 189, 3) := by decide +kernel
theorem dX12_boards_108 : decode cX12_boards 108 = .ok (.iadd, 1) := by decide +kernel
theorem dX12_boards_109 : decode cX12_boards 109 = .ok (.istore 5, 2) := by decide +kernel
theorem dX12_boards_111 : decode cX12_boards 111 = .ok (.aload_n 0, 1) := by decide +kernel
theorem dX12_boards_112 : decode cX12_boards 112 = .ok (.getfield 29, 3) := by decide +kernel
theorem dX12_boards_115 : decode cX12_boards 115 = .ok (.iload 4, 2) := by decide +kernel
theorem dX12_boards_117 : decode cX12_boards 117 = .ok (.iload 5, 2) := by decide +kernel
theorem dX12_boards_119 : decode cX12_boards 119 = .ok (.aload_n 0, 1) := by decide +kernel
theorem dX12_boards_120 : decode cX12_boards 120 = .ok (.getfield 29, 3) := by decide +kernel
theorem dX12_boards_123 : decode cX12_boards 123 = .ok (.iload 4, 2) := by decide +kernel
theorem dX12_boards_125 : decode cX12_boards 125 = .ok (.iaload, 1) := by decide +kernel
theorem dX12_boards_126 : decode cX12_boards 126 = .ok (.if_icmp .ge 8, 3) := by decide +kernel
theorem dX12_boards_129 : decode cX12_boards 129 = .ok (.iload 5, 2) := by decide +kernel
theorem dX12_boards_131 : decode cX12_boards 131 = .ok (.goto 10, 3) := by decide +kernel
theorem dX12_boards_134 : decode cX12_boards 134 = .ok (.aload_n 0, 1) := by decide +kernel
theorem dX12_boards_135 : decode cX12_boards 135 = .ok (.getfield 29, 3) := by decide +kernel
theorem dX12_boards_138 : decode cX12_boards 138 = .ok (.iload 4, 2) := by decide +kernel
theorem dX12_boards_140 : decode cX12_boards 140 = .ok (.iaload, 1) := by decide +kernel
theorem dX12_boards_141 : decode cX12_boards 141 = .ok (.iastore, 1) := by decide +kernel
theorem dX12_boards_142 : decode cX12_boards 142 = .ok (.iinc 3 1, 3) := by decide +kernel
theorem dX12_boards_145 : decode cX12_boards 145 = .ok (.goto (-92), 3) := by decide +kernel
theorem dX12_boards_148 : decode cX12_boards 148 = .ok (.iinc 2 1, 3) := by decide +kernel
theorem dX12_boards_151 : decode cX12_boards 151 = .ok (.goto (-122), 3) := by decide +kernel
theorem dX12_boards_154 : decode cX12_boards 154 = .ok (.iconst 0, 1) := by decide +kernel
theorem dX12_boards_155 : decode cX12_boards 155 = .ok (.istore_n 2, 1) := by decide +kernel
theorem dX12_boards_156 : decode cX12_boards 156 = .ok (.iload_n 2, 1) := by decide +kernel
theorem dX12_boards_157 : decode cX12_boards 157 = .ok (.sipush 32761, 3) := by decide +kernel
theorem dX12_boards_160 : decode cX12_boards 160 = .ok (.if_icmp .ge 21, 3) := by decide +kernel
theorem dX12_boards_163 : decode cX12_boards 163 = .ok (.aload_n 0, 1) := by decide +kernel
theorem dX12_boards_164 : decode cX12_boards 164 = .ok (.getfield 26, 3) := by decide +kernel
theorem dX12_boards_167 : decode cX12_boards 167 = .ok (.iload_n 2, 1) := by decide +kernel
theorem dX12_boards_168 : decode cX12_boards 168 = .ok (.aload_n 0, 1) := by decide +kernel
theorem dX12_boards_169 : decode cX12_boards 169 = .ok (.getfield 29, 3) := by decide +kernel
theorem dX12_boards_172 : decode cX12_boards 172 = .ok (.iload_n 2, 1) := by decide +kernel
theorem dX12_boards_173 : decode cX12_boards 173 = .ok (.iaload, 1) := by decide +kernel
theorem dX12_boards_174 : decode cX12_boards 174 = .ok (.iastore, 1) := by decide +kernel
theorem dX12_boards_175 : decode cX12_boards 175 = .ok (.iinc 2 1, 3) := by decide +kernel
theorem dX12_boards_178 : decode cX12_boards 178 = .ok (.goto (-22), 3) := by decide +kernel
theorem dX12_boards_181 : decode cX12_boards 181 = .ok (.return_, 1) := by decide +kernel
theorem dX12_prices_0 : decode cX12_prices 0 = .ok (.iconst 0, 1) := by decide +kernel
theorem dX12_prices_1 : decode cX12_prices 1 = .ok (.istore_n 2, 1) := by decide +kernel
theorem dX12_prices_2 : decode cX12_prices 2 = .ok (.iload_n 2, 1) := by decide +kernel
theorem dX12_prices_3 : decode cX12_prices 3 = .ok (.sipush 32761, 3) := by decide +kernel
theorem dX12_prices_6 : decode cX12_prices 6 = .ok (.if_icmp .ge 18, 3) := by decide +kernel
theorem dX12_prices_9 : decode cX12_prices 9 = .ok (.aload_n 0, 1) := by decide +kernel
theorem dX12_prices_10 : decode cX12_prices 10 = .ok (.getfield 26, 3) := by decide +kernel
theorem dX12_prices_13 : decode cX12_prices 13 = .ok (.iload_n 2, 1) := by decide +kernel
theorem dX12_prices_14 : decode cX12_prices 14 = .ok (.ldc_w 335, 3) := by decide +kernel
theorem dX12_prices_17 : decode cX12_prices 17 = .ok (.iastore, 1) := by decide +kernel
theorem dX12_prices_18 : decode cX12_prices 18 = .ok (.iinc 2 1, 3) := by decide +kernel
theorem dX12_prices_21 : decode cX12_prices 21 = .ok (.goto (-19), 3) := by decide +kernel
theorem dX12_prices_24 : decode cX12_prices 24 = .ok (.aload_n 0, 1) := by decide +kernel
theorem dX12_prices_25 : decode cX12_prices 25 = .ok (.getfield 26, 3) := by decide +kernel
theorem dX12_prices_28 : decode cX12_prices 28 = .ok (.sipush 16380, 3) := by decide +kernel
theorem dX12_prices_31 : decode cX12_prices 31 = .ok (.iconst 0, 1) := by decide +kernel
theorem dX12_prices_32 : decode cX12_prices 32 = .ok (.iastore, 1) := by decide +kernel
theorem dX12_prices_33 : decode cX12_prices 33 = .ok (.iconst 0, 1) := by decide +kernel
theorem dX12_prices_34 : decode cX12_prices 34 = .ok (.istore_n 2, 1) := by decide +kernel
theorem dX12_prices_35 : decode cX12_prices 35 = .ok (.iload_n 2, 1) := by decide +kernel
theorem dX12_prices_36 : decode cX12_prices 36 = .ok (.aload_n 0, 1) := by decide +kernel
theorem dX12_prices_37 : decode cX12_prices 37 = .ok (.invokevirtual 183, 3) := by decide +kernel
theorem dX12_prices_40 : decode cX12_prices 40 = .ok (.if_icmp .ge 19, 3) := by decide +kernel
theorem dX12_prices_43 : decode cX12_prices 43 = .ok (.iload_n 2, 1) := by decide +kernel
theorem dX12_prices_44 : decode cX12_prices 44 = .ok (.iload_n 1, 1) := by decide +kernel
theorem dX12_prices_45 : decode cX12_prices 45 = .ok (.if_icmp .eq 8, 3) := by decide +kernel
theorem dX12_prices_48 : decode cX12_prices 48 = .ok (.aload_n 0, 1) := by decide +kernel
theorem dX12_prices_49 : decode cX12_prices 49 = .ok (.iload_n 2, 1) := by decide +kernel
theorem dX12_prices_50 : decode cX12_prices 50 = .ok (.invokevirtual 336, 3) := by decide +kernel
theorem dX12_prices_53 : decode cX12_prices 53 = .ok (.iinc 2 1, 3) := by decide +kernel
theorem dX12_prices_56 : decode cX12_prices 56 = .ok (.goto (-21), 3) := by decide +kernel
theorem dX12_prices_59 : decode cX12_prices 59 = .ok (.iconst 0, 1) := by decide +kernel
theorem dX12_prices_60 : decode cX12_prices 60 = .ok (.istore_n 2, 1) := by decide +kernel
theorem dX12_prices_61 : decode cX12_prices 61 = .ok (.iload_n 2, 1) := by decide +kernel
theorem dX12_prices_62 : decode cX12_prices 62 = .ok (.bipush 9, 2) := by decide +kernel
theorem dX12_prices_64 : decode cX12_prices 64 = .ok (.if_icmp .ge 18, 3) := by decide +kernel
theorem dX12_prices_67 : decode cX12_prices 67 = .ok (.aload_n 0, 1) := by decide +kernel
theorem dX12_prices_68 : decode cX12_prices 68 = .ok (.getfield 32, 3) := by decide +kernel
theorem dX12_prices_71 : decode cX12_prices 71 = .ok (.iload_n 2, 1) := by decide +kernel
theorem dX12_prices_72 : decode cX12_prices 72 = .ok (.ldc_w 335, 3) := by decide +kernel
theorem dX12_prices_75 : decode cX12_prices 75 = .ok (.iastore, 1) := by decide +kernel
theorem dX12_prices_76 : decode cX12_prices 76 = .ok (.iinc 2 1, 3) := by decide +kernel
theorem dX12_prices_79 : decode cX12_prices 79 = .ok (.goto (-18), 3) := by decide +kernel
theorem dX12_prices_82 : decode cX12_prices 82 = .ok (.aload_n 0, 1) := by decide +kernel
theorem dX12_prices_83 : decode cX12_prices 83 = .ok (.iconst 0, 1) := by decide +kernel
theorem dX12_prices_84 : decode cX12_prices 84 = .ok (.iconst (-1), 1) := by decide +kernel
theorem dX12_prices_85 : decode cX12_prices 85 = .ok (.invokevirtual 254, 3) := by decide +kernel
theorem dX12_prices_88 : decode cX12_prices 88 = .ok (.istore_n 2, 1) := by decide +kernel
theorem dX12_prices_89 : decode cX12_prices 89 = .ok (.aload_n 0, 1) := by decide +kernel
theorem dX12_prices_90 : decode cX12_prices 90 = .ok (.iconst 1, 1) := by decide +kernel
theorem dX12_prices_91 : decode cX12_prices 91 = .ok (.iconst (-1), 1) := by decide +kernel
theorem dX12_prices_92 : decode cX12_prices 92 = .ok (.invokevirtual 254, 3) := by decide +kernel
theorem dX12_prices_95 : decode cX12_prices 95 = .ok (.istore_n 3, 1) := by decide +kernel
theorem dX12_prices_96 : decode cX12_prices 96 = .ok (.iconst 0, 1) := by decide +kernel
theorem dX12_prices_97 : decode cX12_prices 97 = .ok (.istore 4, 2) := by decide +kernel
theorem dX12_prices_99 : decode cX12_prices 99 = .ok (.iload 4, 2) := by decide +kernel
theorem dX12_prices_101 : decode cX12_prices 101 = .ok (.sipush 32761, 3) := by decide +kernel
theorem dX12_prices_104 : decode cX12_prices 104 = .ok (.if_icmp .ge 105, 3) := by decide +kernel
theorem dX12_prices_107 : decode cX12_prices 107 = .ok (.aload_n 0, 1) := by decide +kernel
theorem dX12_prices_108 : decode cX12_prices 108 = .ok (.getfield 26, 3) := by decide +kernel
theorem dX12_prices_111 : decode cX12_prices 111 = .ok (.iload 4, 2) := by decide +kernel
theorem dX12_prices_113 : decode cX12_prices 113 = .ok (.iaload, 1) := by decide +kernel
theorem dX12_prices_114 : decode cX12_prices 114 = .ok (.ldc_w 335, 3) := by decide +kernel
theorem dX12_prices_117 : decode cX12_prices 117 = .ok (.if_icmp .lt 6, 3) := by decide +kernel
theorem dX12_prices_120 : decode cX12_prices 120 = .ok (.goto 83, 3) := by decide +kernel
theorem dX12_prices_123 : decode cX12_prices 123 = .ok (.iconst 3, 1) := by decide +kernel
theorem dX12_prices_124 : decode cX12_prices 124 = .ok (.aload_n 0, 1) := by decide +kernel
theorem dX12_prices_125 : decode cX12_prices 125 = .ok (.iload_n 2, 1) := by decide +kernel
theorem dX12_prices_126 : decode cX12_prices 126 = .ok (.iload 4, 2) := by decide +kernel
theorem dX12_prices_128 : decode cX12_prices 128 = .ok (.sipush 181, 3) := by decide +kernel
theorem dX12_prices_131 : decode cX12_prices 131 = .ok (.idiv, 1) := by decide +kernel
theorem dX12_prices_132 : decode cX12_prices 132 = .ok (.iadd, 1) := by decide +kernel
theorem dX12_prices_133 : decode cX12_prices 133 = .ok (.bipush 90, 2) := by decide +kernel
theorem dX12_prices_135 : decode cX12_prices 135 = .ok (.isub, 1) := by decide +kernel
theorem dX12_prices_136 : decode cX12_prices 136 = .ok (.invokevirtual 263, 3) := by decide +kernel
theorem dX12_prices_139 : decode cX12_prices 139 = .ok (.iconst 1, 1) := by decide +kernel
theorem dX12_prices_140 : decode cX12_prices 140 = .ok (.iadd, 1) := by decide +kernel
theorem dX12_prices_141 : decode cX12_prices 141 = .ok (.imul, 1) := by decide +kernel
theorem dX12_prices_142 : decode cX12_prices 142 = .ok (.aload_n 0, 1) := by decide +kernel
theorem dX12_prices_143 : decode cX12_prices 143 = .ok (.iload_n 3, 1) := by decide +kernel
theorem dX12_prices_144 : decode cX12_prices 144 = .ok (.iload 4, 2) := by decide +kernel
theorem dX12_prices_146 : decode cX12_prices 146 = .ok (.sipush 181, 3) := by decide +kernel
theorem dX12_prices_149 : decode cX12_prices 149 = .ok (.irem, 1) := by decide +kernel
theorem dX12_prices_150 : decode cX12_prices 150 = .ok (.iadd, 1) := by decide +kernel
theorem dX12_prices_151 : decode cX12_prices 151 = .ok (.bipush 90, 2) := by decide +kernel
theorem dX12_prices_153 : decode cX12_prices 153 = .ok (.isub, 1) := by decide +kernel
theorem dX12_prices_154 : decode cX12_prices 154 = .ok (.invokevirtual 263, 3) := by decide +kernel
theorem dX12_prices_157 : decode cX12_prices 157 = .ok (.iadd, 1) := by decide +kernel
theorem dX12_prices_158 : decode cX12_prices 158 = .ok (.iconst 1, 1) := by decide +kernel
theorem dX12_prices_159 : decode cX12_prices 159 = .ok (.iadd, 1) := by decide +kernel
theorem dX12_prices_160 : decode cX12_prices 160 = .ok (.istore 5, 2) := by decide +kernel
theorem dX12_prices_162 : decode cX12_prices 162 = .ok (.aload_n 0, 1) := by decide +kernel
theorem dX12_prices_163 : decode cX12_prices 163 = .ok (.getfield 32, 3) := by decide +kernel
theorem dX12_prices_166 : decode cX12_prices 166 = .ok (.iload 5, 2) := by decide +kernel
theorem dX12_prices_168 : decode cX12_prices 168 = .ok (.aload_n 0, 1) := by decide +kernel
theorem dX12_prices_169 : decode cX12_prices 169 = .ok (.getfield 26, 3) := by decide +kernel
theorem dX12_prices_172 : decode cX12_prices 172 = .ok (.iload 4, 2) := by decide +kernel
theorem dX12_prices_174 : decode cX12_prices 174 = .ok (.iaload, 1) := by decide +kernel
theorem dX12_prices_175 : decode cX12_prices 175 = .ok (.aload_n 0, 1) := by decide +kernel
theorem dX12_prices_176 : decode cX12_prices 176 = .ok (.getfield 32, 3) := by decide +kernel
theorem dX12_prices_179 : decode cX12_prices 179 = .ok (.iload 5, 2) := by decide +kernel
theorem dX12_prices_181 : decode cX12_prices 181 = .ok (.iaload, 1) := by decide +kernel
theorem dX12_prices_182 : decode cX12_prices 182 = .ok (.if_icmp .ge 13, 3) := by decide +kernel
theorem dX12_prices_185 : decode cX12_prices 185 = .ok (.aload_n 0, 1) := by decide +kernel
theorem dX12_prices_186 : decode cX12_prices 186 = .ok (.getfield 26, 3) := by decide +kernel
theorem dX12_prices_189 : decode cX12_prices 189 = .ok (.iload 4, 2) := by decide +kernel
theorem dX12_prices_191 : decode cX12_prices 191 = .ok (.iaload, 1) := by decide +kernel
theorem dX12_prices_192 : decode cX12_prices 192 = .ok (.goto 10, 3) := by decide +kernel
theorem dX12_prices_195 : decode cX12_prices 195 = .ok (.aload_n 0, 1) := by decide +kernel
theorem dX12_prices_196 : decode cX12_prices 196 = .ok (.getfield 32, 3) := by decide +kernel
theorem dX12_prices_199 : decode cX12_prices 199 = .ok (.iload 5, 2) := by decide +kernel
theorem dX12_prices_201 : decode cX12_prices 201 = .ok (.iaload, 1) := by decide +kernel
theorem dX12_prices_202 : decode cX12_prices 202 = .ok (.iastore, 1) := by decide +kernel
theorem dX12_prices_203 : decode cX12_prices 203 = .ok (.iinc 4 1, 3) := by decide +kernel
theorem dX12_prices_206 : decode cX12_prices 206 = .ok (.goto (-107), 3) := by decide +kernel
theorem dX12_prices_209 : decode cX12_prices 209 = .ok (.return_, 1) := by decide +kernel
theorem dX12_cost_0 : decode cX12_cost 0 = .ok (.aload_n 0, 1) := by decide +kernel
theorem dX12_cost_1 : decode cX12_cost 1 = .ok (.iload_n 1, 1) := by decide +kernel
theorem dX12_cost_2 : decode cX12_cost 2 = .ok (.invokevirtual 186, 3) := by decide +kernel
theorem dX12_cost_5 : decode cX12_cost 5 = .ok (.ifCond .eq 21, 3) := by decide +kernel
theorem dX12_cost_8 : decode cX12_cost 8 = .ok (.iload_n 2, 1) := by decide +kernel
theorem dX12_cost_9 : decode cX12_cost 9 = .ok (.iconst (-1), 1) := by decide +kernel
theorem dX12_cost_10 : decode cX12_cost 10 = .ok (.iconst 1, 1) := by decide +kernel
theorem dX12_cost_11 : decode cX12_cost 11 = .ok (.invokestatic 109, 3) := by decide +kernel
theorem dX12_cost_14 : decode cX12_cost 14 = .ok (.ifCond .eq 12, 3) := by decide +kernel
theorem dX12_cost_17 : decode cX12_cost 17 = .ok (.iload_n 3, 1) := by decide +kernel
theorem dX12_cost_18 : decode cX12_cost 18 = .ok (.iconst (-1), 1) := by decide +kernel
theorem dX12_cost_19 : decode cX12_cost 19 = .ok (.iconst 1, 1) := by decide +kernel
theorem dX12_cost_20 : decode cX12_cost 20 = .ok (.invokestatic 109, 3) := by decide +kernel
theorem dX12_cost_23 : decode cX12_cost 23 = .ok (.ifCond .ne 5, 3) := by decide +kernel
theorem dX12_cost_26 : decode cX12_cost 26 = .ok (.iconst (-1), 1) := by decide +kernel
theorem dX12_cost_27 : decode cX12_cost 27 = .ok (.ireturn, 1) := by decide +kernel
theorem dX12_cost_28 : decode cX12_cost 28 = .ok (.aload_n 0, 1) := by decide +kernel
theorem dX12_cost_29 : decode cX12_cost 29 = .ok (.iconst (-1), 1) := by decide +kernel
theorem dX12_cost_30 : decode cX12_cost 30 = .ok (.invokevirtual 339, 3) := by decide +kernel
theorem dX12_cost_33 : decode cX12_cost 33 = .ok (.aload_n 0, 1) := by decide +kernel
theorem dX12_cost_34 : decode cX12_cost 34 = .ok (.getfield 32, 3) := by decide +kernel
theorem dX12_cost_37 : decode cX12_cost 37 = .ok (.iconst 3, 1) := by decide +kernel
theorem dX12_cost_38 : decode cX12_cost 38 = .ok (.iload_n 2, 1) := by decide +kernel
theorem dX12_cost_39 : decode cX12_cost 39 = .ok (.iconst 1, 1) := by decide +kernel
theorem dX12_cost_40 : decode cX12_cost 40 = .ok (.iadd, 1) := by decide +kernel
theorem dX12_cost_41 : decode cX12_cost 41 = .ok (.imul, 1) := by decide +kernel
theorem dX12_cost_42 : decode cX12_cost 42 = .ok (.iload_n 3, 1) := by decide +kernel
theorem dX12_cost_43 : decode cX12_cost 43 = .ok (.iadd, 1) := by decide +kernel
theorem dX12_cost_44 : decode cX12_cost 44 = .ok (.iconst 1, 1) := by decide +kernel
theorem dX12_cost_45 : decode cX12_cost 45 = .ok (.iadd, 1) := by decide +kernel
theorem dX12_cost_46 : decode cX12_cost 46 = .ok (.iaload, 1) := by decide +kernel
theorem dX12_cost_47 : decode cX12_cost 47 = .ok (.istore 4, 2) := by decide +kernel
theorem dX12_cost_49 : decode cX12_cost 49 = .ok (.iload 4, 2) := by decide +kernel
theorem dX12_cost_51 : decode cX12_cost 51 = .ok (.ldc_w 335, 3) := by decide +kernel
theorem dX12_cost_54 : decode cX12_cost 54 = .ok (.if_icmp .ge 8, 3) := by decide +kernel
theorem dX12_cost_57 : decode cX12_cost 57 = .ok (.iload 4, 2) := by decide +kernel
theorem dX12_cost_59 : decode cX12_cost 59 = .ok (.goto 4, 3) := by decide +kernel
theorem dX12_cost_62 : decode cX12_cost 62 = .ok (.iconst (-1), 1) := by decide +kernel
theorem dX12_cost_63 : decode cX12_cost 63 = .ok (.ireturn, 1) := by decide +kernel
theorem dX12_cellAfter_0 : decode cX12_cellAfter 0 = .ok (.aload_n 0, 1) := by decide +kernel
theorem dX12_cellAfter_1 : decode cX12_cellAfter 1 = .ok (.iload_n 1, 1) := by decide +kernel
theorem dX12_cellAfter_2 : decode cX12_cellAfter 2 = .ok (.bipush 12, 2) := by decide +kernel
theorem dX12_cellAfter_4 : decode cX12_cellAfter 4 = .ok (.irem, 1) := by decide +kernel
theorem dX12_cellAfter_5 : decode cX12_cellAfter 5 = .ok (.putfield 218, 3) := by decide +kernel
theorem dX12_cellAfter_8 : decode cX12_cellAfter 8 = .ok (.aload_n 0, 1) := by decide +kernel
theorem dX12_cellAfter_9 : decode cX12_cellAfter 9 = .ok (.iload_n 1, 1) := by decide +kernel
theorem dX12_cellAfter_10 : decode cX12_cellAfter 10 = .ok (.bipush 12, 2) := by decide +kernel
theorem dX12_cellAfter_12 : decode cX12_cellAfter 12 = .ok (.idiv, 1) := by decide +kernel
theorem dX12_cellAfter_13 : decode cX12_cellAfter 13 = .ok (.putfield 221, 3) := by decide +kernel
theorem dX12_cellAfter_16 : decode cX12_cellAfter 16 = .ok (.aload_n 0, 1) := by decide +kernel
theorem dX12_cellAfter_17 : decode cX12_cellAfter 17 = .ok (.iload_n 2, 1) := by decide +kernel
theorem dX12_cellAfter_18 : decode cX12_cellAfter 18 = .ok (.iconst 3, 1) := by decide +kernel
theorem dX12_cellAfter_19 : decode cX12_cellAfter 19 = .ok (.idiv, 1) := by decide +kernel
theorem dX12_cellAfter_20 : decode cX12_cellAfter 20 = .ok (.iconst 1, 1) := by decide +kernel
theorem dX12_cellAfter_21 : decode cX12_cellAfter 21 = .ok (.isub, 1) := by decide +kernel
theorem dX12_cellAfter_22 : decode cX12_cellAfter 22 = .ok (.iload_n 2, 1) := by decide +kernel
theorem dX12_cellAfter_23 : decode cX12_cellAfter 23 = .ok (.iconst 3, 1) := by decide +kernel
theorem dX12_cellAfter_24 : decode cX12_cellAfter 24 = .ok (.irem, 1) := by decide +kernel
theorem dX12_cellAfter_25 : decode cX12_cellAfter 25 = .ok (.iconst 1, 1) := by decide +kernel
theorem dX12_cellAfter_26 : decode cX12_cellAfter 26 = .ok (.isub, 1) := by decide +kernel
theorem dX12_cellAfter_27 : decode cX12_cellAfter 27 = .ok (.invokevirtual 279, 3) := by decide +kernel
theorem dX12_cellAfter_30 : decode cX12_cellAfter 30 = .ok (.bipush 12, 2) := by decide +kernel
theorem dX12_cellAfter_32 : decode cX12_cellAfter 32 = .ok (.aload_n 0, 1) := by decide +kernel
theorem dX12_cellAfter_33 : decode cX12_cellAfter 33 = .ok (.getfield 221, 3) := by decide +kernel
theorem dX12_cellAfter_36 : decode cX12_cellAfter 36 = .ok (.imul, 1) := by decide +kernel
theorem dX12_cellAfter_37 : decode cX12_cellAfter 37 = .ok (.aload_n 0, 1) := by decide +kernel
theorem dX12_cellAfter_38 : decode cX12_cellAfter 38 = .ok (.getfield 218, 3) := by decide +kernel
theorem dX12_cellAfter_41 : decode cX12_cellAfter 41 = .ok (.iadd, 1) := by decide +kernel
theorem dX12_cellAfter_42 : decode cX12_cellAfter 42 = .ok (.ireturn, 1) := by decide +kernel
theorem dX12_reach_0 : decode cX12_reach 0 = .ok (.aload_n 0, 1) := by decide +kernel
theorem dX12_reach_1 : decode cX12_reach 1 = .ok (.iload_n 1, 1) := by decide +kernel
theorem dX12_reach_2 : decode cX12_reach 2 = .ok (.invokevirtual 186, 3) := by decide +kernel
theorem dX12_reach_5 : decode cX12_reach 5 = .ok (.ifCond .eq 13, 3) := by decide +kernel
theorem dX12_reach_8 : decode cX12_reach 8 = .ok (.iload_n 2, 1) := by decide +kernel
theorem dX12_reach_9 : decode cX12_reach 9 = .ok (.iconst 0, 1) := by decide +kernel
theorem dX12_reach_10 : decode cX12_reach 10 = .ok (.bipush 12, 2) := by decide +kernel
theorem dX12_reach_12 : decode cX12_reach 12 = .ok (.invokestatic 109, 3) := by decide +kernel
theorem dX12_reach_15 : decode cX12_reach 15 = .ok (.ifCond .ne 5, 3) := by decide +kernel
theorem dX12_reach_18 : decode cX12_reach 18 = .ok (.iconst (-1), 1) := by decide +kernel
theorem dX12_reach_19 : decode cX12_reach 19 = .ok (.ireturn, 1) := by decide +kernel
theorem dX12_reach_20 : decode cX12_reach 20 = .ok (.iload_n 3, 1) := by decide +kernel
theorem dX12_reach_21 : decode cX12_reach 21 = .ok (.iconst (-1), 1) := by decide +kernel
theorem dX12_reach_22 : decode cX12_reach 22 = .ok (.if_icmp .ne 9, 3) := by decide +kernel
theorem dX12_reach_25 : decode cX12_reach 25 = .ok (.iload 4, 2) := by decide +kernel
theorem dX12_reach_27 : decode cX12_reach 27 = .ok (.iconst (-1), 1) := by decide +kernel
theorem dX12_reach_28 : decode cX12_reach 28 = .ok (.if_icmp .eq 7, 3) := by decide +kernel
theorem dX12_reach_31 : decode cX12_reach 31 = .ok (.iconst 1, 1) := by decide +kernel
theorem dX12_reach_32 : decode cX12_reach 32 = .ok (.goto 4, 3) := by decide +kernel
theorem dX12_reach_35 : decode cX12_reach 35 = .ok (.iconst 0, 1) := by decide +kernel
theorem dX12_reach_36 : decode cX12_reach 36 = .ok (.istore 5, 2) := by decide +kernel
theorem dX12_reach_38 : decode cX12_reach 38 = .ok (.iload 5, 2) := by decide +kernel
theorem dX12_reach_40 : decode cX12_reach 40 = .ok (.ifCond .eq 36, 3) := by decide +kernel
theorem dX12_reach_43 : decode cX12_reach 43 = .ok (.iload_n 3, 1) := by decide +kernel
theorem dX12_reach_44 : decode cX12_reach 44 = .ok (.iconst 0, 1) := by decide +kernel
theorem dX12_reach_45 : decode cX12_reach 45 = .ok (.aload_n 0, 1) := by decide +kernel
theorem dX12_reach_46 : decode cX12_reach 46 = .ok (.iconst 0, 1) := by decide +kernel
theorem dX12_reach_47 : decode cX12_reach 47 = .ok (.invokevirtual 180, 3) := by decide +kernel
theorem dX12_reach_50 : decode cX12_reach 50 = .ok (.iconst 1, 1) := by decide +kernel
theorem dX12_reach_51 : decode cX12_reach 51 = .ok (.isub, 1) := by decide +kernel
theorem dX12_reach_52 : decode cX12_reach 52 = .ok (.invokestatic 109, 3) := by decide +kernel
theorem dX12_reach_55 : decode cX12_reach 55 = .ok (.ifCond .eq 19, 3) := by decide +kernel
theorem dX12_reach_58 : decode cX12_reach 58 = .ok (.iload 4, 2) := by decide +kernel
theorem dX12_reach_60 : decode cX12_reach 60 = .ok (.iconst 0, 1) := by decide +kernel
theorem dX12_reach_61 : decode cX12_reach 61 = .ok (.aload_n 0, 1) := by decide +kernel
theorem dX12_reach_62 : decode cX12_reach 62 = .ok (.iconst 1, 1) := by decide +kernel
theorem dX12_reach_63 : decode cX12_reach 63 = .ok (.invokevirtual 180, 3) := by decide +kernel
theorem dX12_reach_66 : decode cX12_reach 66 = .ok (.iconst 1, 1) := by decide +kernel
theorem dX12_reach_67 : decode cX12_reach 67 = .ok (.isub, 1) := by decide +kernel
theorem dX12_reach_68 : decode cX12_reach 68 = .ok (.invokestatic 109, 3) := by decide +kernel
theorem dX12_reach_71 : decode cX12_reach 71 = .ok (.ifCond .ne 5, 3) := by decide +kernel
theorem dX12_reach_74 : decode cX12_reach 74 = .ok (.iconst (-1), 1) := by decide +kernel
theorem dX12_reach_75 : decode cX12_reach 75 = .ok (.ireturn, 1) := by decide +kernel
theorem dX12_reach_76 : decode cX12_reach 76 = .ok (.aload_n 0, 1) := by decide +kernel
theorem dX12_reach_77 : decode cX12_reach 77 = .ok (.iconst (-1), 1) := by decide +kernel
theorem dX12_reach_78 : decode cX12_reach 78 = .ok (.invokevirtual 339, 3) := by decide +kernel
theorem dX12_reach_81 : decode cX12_reach 81 = .ok (.iconst 0, 1) := by decide +kernel
theorem dX12_reach_82 : decode cX12_reach 82 = .ok (.istore 6, 2) := by decide +kernel
theorem dX12_reach_84 : decode cX12_reach 84 = .ok (.iload 6, 2) := by decide +kernel
theorem dX12_reach_86 : decode cX12_reach 86 = .ok (.sipush 144, 3) := by decide +kernel
theorem dX12_reach_89 : decode cX12_reach 89 = .ok (.if_icmp .ge 17, 3) := by decide +kernel
theorem dX12_reach_92 : decode cX12_reach 92 = .ok (.aload_n 0, 1) := by decide +kernel
theorem dX12_reach_93 : decode cX12_reach 93 = .ok (.getfield 35, 3) := by decide +kernel
theorem dX12_reach_96 : decode cX12_reach 96 = .ok (.iload 6, 2) := by decide +kernel
theorem dX12_reach_98 : decode cX12_reach 98 = .ok (.iconst 0, 1) := by decide +kernel
theorem dX12_reach_99 : decode cX12_reach 99 = .ok (.bastore, 1) := by decide +kernel
theorem dX12_reach_100 : decode cX12_reach 100 = .ok (.iinc 6 1, 3) := by decide +kernel
theorem dX12_reach_103 : decode cX12_reach 103 = .ok (.goto (-19), 3) := by decide +kernel
theorem dX12_reach_106 : decode cX12_reach 106 = .ok (.aload_n 0, 1) := by decide +kernel
theorem dX12_reach_107 : decode cX12_reach 107 = .ok (.getfield 35, 3) := by decide +kernel
theorem dX12_reach_110 : decode cX12_reach 110 = .ok (.bipush 12, 2) := by decide +kernel
theorem dX12_reach_112 : decode cX12_reach 112 = .ok (.aload_n 0, 1) := by decide +kernel
theorem dX12_reach_113 : decode cX12_reach 113 = .ok (.iconst 5, 1) := by decide +kernel
theorem dX12_reach_114 : decode cX12_reach 114 = .ok (.invokevirtual 180, 3) := by decide +kernel
theorem dX12_reach_117 : decode cX12_reach 117 = .ok (.imul, 1) := by decide +kernel
theorem dX12_reach_118 : decode cX12_reach 118 = .ok (.aload_n 0, 1) := by decide +kernel
theorem dX12_reach_119 : decode cX12_reach 119 = .ok (.iconst 4, 1) := by decide +kernel
theorem dX12_reach_120 : decode cX12_reach 120 = .ok (.invokevirtual 180, 3) := by decide +kernel
theorem dX12_reach_123 : decode cX12_reach 123 = .ok (.iadd, 1) := by decide +kernel
theorem dX12_reach_124 : decode cX12_reach 124 = .ok (.iconst 1, 1) := by decide +kernel
theorem dX12_reach_125 : decode cX12_reach 125 = .ok (.bastore, 1) := by decide +kernel
theorem dX12_reach_126 : decode cX12_reach 126 = .ok (.iconst 0, 1) := by decide +kernel
theorem dX12_reach_127 : decode cX12_reach 127 = .ok (.istore 6, 2) := by decide +kernel
theorem dX12_reach_129 : decode cX12_reach 129 = .ok (.iload 6, 2) := by decide +kernel
theorem dX12_reach_131 : decode cX12_reach 131 = .ok (.iload_n 2, 1) := by decide +kernel
theorem dX12_reach_132 : decode cX12_reach 132 = .ok (.if_icmp .ge 135, 3) := by decide +kernel
theorem dX12_reach_135 : decode cX12_reach 135 = .ok (.iconst 0, 1) := by decide +kernel
theorem dX12_reach_136 : decode cX12_reach 136 = .ok (.istore 7, 2) := by decide +kernel
theorem dX12_reach_138 : decode cX12_reach 138 = .ok (.iload 7, 2) := by decide +kernel
theorem dX12_reach_140 : decode cX12_reach 140 = .ok (.sipush 144, 3) := by decide +kernel
theorem dX12_reach_143 : decode cX12_reach 143 = .ok (.if_icmp .ge 17, 3) := by decide +kernel
theorem dX12_reach_146 : decode cX12_reach 146 = .ok (.aload_n 0, 1) := by decide +kernel
theorem dX12_reach_147 : decode cX12_reach 147 = .ok (.getfield 38, 3) := by decide +kernel
theorem dX12_reach_150 : decode cX12_reach 150 = .ok (.iload 7, 2) := by decide +kernel
theorem dX12_reach_152 : decode cX12_reach 152 = .ok (.iconst 0, 1) := by decide +kernel
theorem dX12_reach_153 : decode cX12_reach 153 = .ok (.bastore, 1) := by decide +kernel
theorem dX12_reach_154 : decode cX12_reach 154 = .ok (.iinc 7 1, 3) := by decide +kernel
theorem dX12_reach_157 : decode cX12_reach 157 = .ok (.goto (-19), 3) := by decide +kernel
theorem dX12_reach_160 : decode cX12_reach 160 = .ok (.iconst 0, 1) := by decide +kernel
theorem dX12_reach_161 : decode cX12_reach 161 = .ok (.istore 7, 2) := by decide +kernel
theorem dX12_reach_163 : decode cX12_reach 163 = .ok (.iload 7, 2) := by decide +kernel
theorem dX12_reach_165 : decode cX12_reach 165 = .ok (.sipush 144, 3) := by decide +kernel
theorem dX12_reach_168 : decode cX12_reach 168 = .ok (.if_icmp .ge 62, 3) := by decide +kernel
theorem dX12_reach_171 : decode cX12_reach 171 = .ok (.iconst 0, 1) := by decide +kernel
theorem dX12_reach_172 : decode cX12_reach 172 = .ok (.istore 8, 2) := by decide +kernel
theorem dX12_reach_174 : decode cX12_reach 174 = .ok (.iload 8, 2) := by decide +kernel
theorem dX12_reach_176 : decode cX12_reach 176 = .ok (.bipush 9, 2) := by decide +kernel
theorem dX12_reach_178 : decode cX12_reach 178 = .ok (.if_icmp .ge 46, 3) := by decide +kernel
theorem dX12_reach_181 : decode cX12_reach 181 = .ok (.aload_n 0, 1) := by decide +kernel
theorem dX12_reach_182 : decode cX12_reach 182 = .ok (.getfield 35, 3) := by decide +kernel
theorem dX12_reach_185 : decode cX12_reach 185 = .ok (.iload 7, 2) := by decide +kernel
theorem dX12_reach_187 : decode cX12_reach 187 = .ok (.baload, 1) := by decide +kernel
theorem dX12_reach_188 : decode cX12_reach 188 = .ok (.ifCond .eq 30, 3) := by decide +kernel
theorem dX12_reach_191 : decode cX12_reach 191 = .ok (.aload_n 0, 1) := by decide +kernel
theorem dX12_reach_192 : decode cX12_reach 192 = .ok (.getfield 32, 3) := by decide +kernel
theorem dX12_reach_195 : decode cX12_reach 195 = .ok (.iload 8, 2) := by decide +kernel
theorem dX12_reach_197 : decode cX12_reach 197 = .ok (.iaload, 1) := by decide +kernel
theorem dX12_reach_198 : decode cX12_reach 198 = .ok (.ldc_w 335, 3) := by decide +kernel
theorem dX12_reach_201 : decode cX12_reach 201 = .ok (.if_icmp .ge 17, 3) := by decide +kernel
theorem dX12_reach_204 : decode cX12_reach 204 = .ok (.aload_n 0, 1) := by decide +kernel
theorem dX12_reach_205 : decode cX12_reach 205 = .ok (.getfield 38, 3) := by decide +kernel
theorem dX12_reach_208 : decode cX12_reach 208 = .ok (.aload_n 0, 1) := by decide +kernel
theorem dX12_reach_209 : decode cX12_reach 209 = .ok (.iload 7, 2) := by decide +kernel
theorem dX12_reach_211 : decode cX12_reach 211 = .ok (.iload 8, 2) := by decide +kernel
theorem dX12_reach_213 : decode cX12_reach 213 = .ok (.invokevirtual 342, 3) := by decide +kernel
theorem dX12_reach_216 : decode cX12_reach 216 = .ok (.iconst 1, 1) := by decide +kernel
theorem dX12_reach_217 : decode cX12_reach 217 = .ok (.bastore, 1) := by decide +kernel
theorem dX12_reach_218 : decode cX12_reach 218 = .ok (.iinc 8 1, 3) := by decide +kernel
theorem dX12_reach_221 : decode cX12_reach 221 = .ok (.goto (-47), 3) := by decide +kernel
theorem dX12_reach_224 : decode cX12_reach 224 = .ok (.iinc 7 1, 3) := by decide +kernel
theorem dX12_reach_227 : decode cX12_reach 227 = .ok (.goto (-64), 3) := by decide +kernel
theorem dX12_reach_230 : decode cX12_reach 230 = .ok (.iconst 0, 1) := by decide +kernel
theorem dX12_reach_231 : decode cX12_reach 231 = .ok (.istore 7, 2) := by decide +kernel
theorem dX12_reach_233 : decode cX12_reach 233 = .ok (.iload 7, 2) := by decide +kernel
theorem dX12_reach_235 : decode cX12_reach 235 = .ok (.sipush 144, 3) := by decide +kernel
theorem dX12_reach_238 : decode cX12_reach 238 = .ok (.if_icmp .ge 23, 3) := by decide +kernel
theorem dX12_reach_241 : decode cX12_reach 241 = .ok (.aload_n 0, 1) := by decide +kernel
theorem dX12_reach_242 : decode cX12_reach 242 = .ok (.getfield 35, 3) := by decide +kernel
theorem dX12_reach_245 : decode cX12_reach 245 = .ok (.iload 7, 2) := by decide +kernel
theorem dX12_reach_247 : decode cX12_reach 247 = .ok (.aload_n 0, 1) := by decide +kernel
theorem dX12_reach_248 : decode cX12_reach 248 = .ok (.getfield 38, 3) := by decide +kernel
theorem dX12_reach_251 : decode cX12_reach 251 = .ok (.iload 7, 2) := by decide +kernel
theorem dX12_reach_253 : decode cX12_reach 253 = .ok (.baload, 1) := by decide +kernel
theorem dX12_reach_254 : decode cX12_reach 254 = .ok (.bastore, 1) := by decide +kernel
theorem dX12_reach_255 : decode cX12_reach 255 = .ok (.iinc 7 1, 3) := by decide +kernel
theorem dX12_reach_258 : decode cX12_reach 258 = .ok (.goto (-25), 3) := by decide +kernel
theorem dX12_reach_261 : decode cX12_reach 261 = .ok (.iinc 6 1, 3) := by decide +kernel
theorem dX12_reach_264 : decode cX12_reach 264 = .ok (.goto (-135), 3) := by decide +kernel
theorem dX12_reach_267 : decode cX12_reach 267 = .ok (.iload 5, 2) := by decide +kernel
theorem dX12_reach_269 : decode cX12_reach 269 = .ok (.ifCond .eq 24, 3) := by decide +kernel
theorem dX12_reach_272 : decode cX12_reach 272 = .ok (.aload_n 0, 1) := by decide +kernel
theorem dX12_reach_273 : decode cX12_reach 273 = .ok (.getfield 35, 3) := by decide +kernel
theorem dX12_reach_276 : decode cX12_reach 276 = .ok (.bipush 12, 2) := by decide +kernel
theorem dX12_reach_278 : decode cX12_reach 278 = .ok (.iload 4, 2) := by decide +kernel
theorem dX12_reach_280 : decode cX12_reach 280 = .ok (.imul, 1) := by decide +kernel
theorem dX12_reach_281 : decode cX12_reach 281 = .ok (.iload_n 3, 1) := by decide +kernel
theorem dX12_reach_282 : decode cX12_reach 282 = .ok (.iadd, 1) := by decide +kernel
theorem dX12_reach_283 : decode cX12_reach 283 = .ok (.baload, 1) := by decide +kernel
theorem dX12_reach_284 : decode cX12_reach 284 = .ok (.ifCond .eq 7, 3) := by decide +kernel
theorem dX12_reach_287 : decode cX12_reach 287 = .ok (.iconst 1, 1) := by decide +kernel
theorem dX12_reach_288 : decode cX12_reach 288 = .ok (.goto 4, 3) := by decide +kernel
theorem dX12_reach_291 : decode cX12_reach 291 = .ok (.iconst 0, 1) := by decide +kernel
theorem dX12_reach_292 : decode cX12_reach 292 = .ok (.ireturn, 1) := by decide +kernel
theorem dX12_reach_293 : decode cX12_reach 293 = .ok (.iconst 0, 1) := by decide +kernel
theorem dX12_reach_294 : decode cX12_reach 294 = .ok (.istore 6, 2) := by decide +kernel
theorem dX12_reach_296 : decode cX12_reach 296 = .ok (.iconst 0, 1) := by decide +kernel
theorem dX12_reach_297 : decode cX12_reach 297 = .ok (.istore 7, 2) := by decide +kernel
theorem dX12_reach_299 : decode cX12_reach 299 = .ok (.iload 7, 2) := by decide +kernel
theorem dX12_reach_301 : decode cX12_reach 301 = .ok (.sipush 144, 3) := by decide +kernel
theorem dX12_reach_304 : decode cX12_reach 304 = .ok (.if_icmp .ge 29, 3) := by decide +kernel
theorem dX12_reach_307 : decode cX12_reach 307 = .ok (.iload 6, 2) := by decide +kernel
theorem dX12_reach_309 : decode cX12_reach 309 = .ok (.aload_n 0, 1) := by decide +kernel
theorem dX12_reach_310 : decode cX12_reach 310 = .ok (.getfield 35, 3) := by decide +kernel
theorem dX12_reach_313 : decode cX12_reach 313 = .ok (.iload 7, 2) := by decide +kernel
theorem dX12_reach_315 : decode cX12_reach 315 = .ok (.baload, 1) := by decide +kernel
theorem dX12_reach_316 : decode cX12_reach 316 = .ok (.ifCond .eq 7, 3) := by decide +kernel
theorem dX12_reach_319 : decode cX12_reach 319 = .ok (.iconst 1, 1) := by decide +kernel
theorem dX12_reach_320 : decode cX12_reach 320 = .ok (.goto 4, 3) := by decide +kernel
theorem dX12_reach_323 : decode cX12_reach 323 = .ok (.iconst 0, 1) := by decide +kernel
theorem dX12_reach_324 : decode cX12_reach 324 = .ok (.iadd, 1) := by decide +kernel
theorem dX12_reach_325 : decode cX12_reach 325 = .ok (.istore 6, 2) := by decide +kernel
theorem dX12_reach_327 : decode cX12_reach 327 = .ok (.iinc 7 1, 3) := by decide +kernel
theorem dX12_reach_330 : decode cX12_reach 330 = .ok (.goto (-31), 3) := by decide +kernel
theorem dX12_reach_333 : decode cX12_reach 333 = .ok (.iload 6, 2) := by decide +kernel
theorem dX12_reach_335 : decode cX12_reach 335 = .ok (.ireturn, 1) := by decide +kernel
theorem dX12_metAt_0 : decode cX12_metAt 0 = .ok (.aload_n 0, 1) := by decide +kernel
theorem dX12_metAt_1 : decode cX12_metAt 1 = .ok (.iload_n 1, 1) := by decide +kernel
theorem dX12_metAt_2 : decode cX12_metAt 2 = .ok (.bipush 12, 2) := by decide +kernel
theorem dX12_metAt_4 : decode cX12_metAt 4 = .ok (.irem, 1) := by decide +kernel
theorem dX12_metAt_5 : decode cX12_metAt 5 = .ok (.iload_n 1, 1) := by decide +kernel
theorem dX12_metAt_6 : decode cX12_metAt 6 = .ok (.bipush 12, 2) := by decide +kernel
theorem dX12_metAt_8 : decode cX12_metAt 8 = .ok (.idiv, 1) := by decide +kernel
theorem dX12_metAt_9 : decode cX12_metAt 9 = .ok (.invokevirtual 230, 3) := by decide +kernel
theorem dX12_metAt_12 : decode cX12_metAt 12 = .ok (.istore_n 2, 1) := by decide +kernel
theorem dX12_metAt_13 : decode cX12_metAt 13 = .ok (.iload_n 2, 1) := by decide +kernel
theorem dX12_metAt_14 : decode cX12_metAt 14 = .ok (.aload_n 0, 1) := by decide +kernel
theorem dX12_metAt_15 : decode cX12_metAt 15 = .ok (.bipush 9, 2) := by decide +kernel
theorem dX12_metAt_17 : decode cX12_metAt 17 = .ok (.invokevirtual 180, 3) := by decide +kernel
theorem dX12_metAt_20 : decode cX12_metAt 20 = .ok (.ishr, 1) := by decide +kernel
theorem dX12_metAt_21 : decode cX12_metAt 21 = .ok (.iconst 1, 1) := by decide +kernel
theorem dX12_metAt_22 : decode cX12_metAt 22 = .ok (.iand, 1) := by decide +kernel
theorem dX12_metAt_23 : decode cX12_metAt 23 = .ok (.iconst 2, 1) := by decide +kernel
theorem dX12_metAt_24 : decode cX12_metAt 24 = .ok (.iload_n 2, 1) := by decide +kernel
theorem dX12_metAt_25 : decode cX12_metAt 25 = .ok (.aload_n 0, 1) := by decide +kernel
theorem dX12_metAt_26 : decode cX12_metAt 26 = .ok (.bipush 10, 2) := by decide +kernel
theorem dX12_metAt_28 : decode cX12_metAt 28 = .ok (.invokevirtual 180, 3) := by decide +kernel
theorem dX12_metAt_31 : decode cX12_metAt 31 = .ok (.ishr, 1) := by decide +kernel
theorem dX12_metAt_32 : decode cX12_metAt 32 = .ok (.iconst 1, 1) := by decide +kernel
theorem dX12_metAt_33 : decode cX12_metAt 33 = .ok (.iand, 1) := by decide +kernel
theorem dX12_metAt_34 : decode cX12_metAt 34 = .ok (.imul, 1) := by decide +kernel
theorem dX12_metAt_35 : decode cX12_metAt 35 = .ok (.iadd, 1) := by decide +kernel
theorem dX12_metAt_36 : decode cX12_metAt 36 = .ok (.ireturn, 1) := by decide +kernel
theorem dX12_spreads_0 : decode cX12_spreads 0 = .ok (.iconst 0, 1) := by decide +kernel
theorem dX12_spreads_1 : decode cX12_spreads 1 = .ok (.istore_n 2, 1) := by decide +kernel
theorem dX12_spreads_2 : decode cX12_spreads 2 = .ok (.iload_n 2, 1) := by decide +kernel
theorem dX12_spreads_3 : decode cX12_spreads 3 = .ok (.sipush 576, 3) := by decide +kernel
theorem dX12_spreads_6 : decode cX12_spreads 6 = .ok (.if_icmp .ge 18, 3) := by decide +kernel
theorem dX12_spreads_9 : decode cX12_spreads 9 = .ok (.aload_n 0, 1) := by decide +kernel
theorem dX12_spreads_10 : decode cX12_spreads 10 = .ok (.getfield 41, 3) := by decide +kernel
theorem dX12_spreads_13 : decode cX12_spreads 13 = .ok (.iload_n 2, 1) := by decide +kernel
theorem dX12_spreads_14 : decode cX12_spreads 14 = .ok (.ldc_w 335, 3) := by decide +kernel
theorem dX12_spreads_17 : decode cX12_spreads 17 = .ok (.iastore, 1) := by decide +kernel
theorem dX12_spreads_18 : decode cX12_spreads 18 = .ok (.iinc 2 1, 3) := by decide +kernel
theorem dX12_spreads_21 : decode cX12_spreads 21 = .ok (.goto (-19), 3) := by decide +kernel
theorem dX12_spreads_24 : decode cX12_spreads 24 = .ok (.bipush 12, 2) := by decide +kernel
theorem dX12_spreads_26 : decode cX12_spreads 26 = .ok (.aload_n 0, 1) := by decide +kernel
theorem dX12_spreads_27 : decode cX12_spreads 27 = .ok (.iconst 5, 1) := by decide +kernel
theorem dX12_spreads_28 : decode cX12_spreads 28 = .ok (.invokevirtual 180, 3) := by decide +kernel
theorem dX12_spreads_31 : decode cX12_spreads 31 = .ok (.imul, 1) := by decide +kernel
theorem dX12_spreads_32 : decode cX12_spreads 32 = .ok (.aload_n 0, 1) := by decide +kernel
theorem dX12_spreads_33 : decode cX12_spreads 33 = .ok (.iconst 4, 1) := by decide +kernel
theorem dX12_spreads_34 : decode cX12_spreads 34 = .ok (.invokevirtual 180, 3) := by decide +kernel
theorem dX12_spreads_37 : decode cX12_spreads 37 = .ok (.iadd, 1) := by decide +kernel
theorem dX12_spreads_38 : decode cX12_spreads 38 = .ok (.istore_n 2, 1) := by decide +kernel
theorem dX12_spreads_39 : decode cX12_spreads 39 = .ok (.aload_n 0, 1) := by decide +kernel
theorem dX12_spreads_40 : decode cX12_spreads 40 = .ok (.getfield 41, 3) := by decide +kernel
theorem dX12_spreads_43 : decode cX12_spreads 43 = .ok (.iconst 4, 1) := by decide +kernel
theorem dX12_spreads_44 : decode cX12_spreads 44 = .ok (.iload_n 2, 1) := by decide +kernel
theorem dX12_spreads_45 : decode cX12_spreads 45 = .ok (.imul, 1) := by decide +kernel
theorem dX12_spreads_46 : decode cX12_spreads 46 = .ok (.aload_n 0, 1) := by decide +kernel
theorem dX12_spreads_47 : decode cX12_spreads 47 = .ok (.iload_n 2, 1) := by decide +kernel
theorem dX12_spreads_48 : decode cX12_spreads 48 = .ok (.invokevirtual 345, 3) := by decide +kernel
theorem dX12_spreads_51 : decode cX12_spreads 51 = .ok (.iadd, 1) := by decide +kernel
theorem dX12_spreads_52 : decode cX12_spreads 52 = .ok (.iconst 0, 1) := by decide +kernel
theorem dX12_spreads_53 : decode cX12_spreads 53 = .ok (.iastore, 1) := by decide +kernel
theorem dX12_spreads_54 : decode cX12_spreads 54 = .ok (.iconst 1, 1) := by decide +kernel
theorem dX12_spreads_55 : decode cX12_spreads 55 = .ok (.istore_n 3, 1) := by decide +kernel
theorem dX12_spreads_56 : decode cX12_spreads 56 = .ok (.iload_n 3, 1) := by decide +kernel
theorem dX12_spreads_57 : decode cX12_spreads 57 = .ok (.ifCond .eq 178, 3) := by decide +kernel
theorem dX12_spreads_60 : decode cX12_spreads 60 = .ok (.iconst 0, 1) := by decide +kernel
theorem dX12_spreads_61 : decode cX12_spreads 61 = .ok (.istore_n 3, 1) := by decide +kernel
theorem dX12_spreads_62 : decode cX12_spreads 62 = .ok (.iconst 0, 1) := by decide +kernel
theorem dX12_spreads_63 : decode cX12_spreads 63 = .ok (.istore 4, 2) := by decide +kernel
theorem dX12_spreads_65 : decode cX12_spreads 65 = .ok (.iload 4, 2) := by decide +kernel
theorem dX12_spreads_67 : decode cX12_spreads 67 = .ok (.sipush 576, 3) := by decide +kernel
theorem dX12_spreads_70 : decode cX12_spreads 70 = .ok (.if_icmp .ge 162, 3) := by decide +kernel
theorem dX12_spreads_73 : decode cX12_spreads 73 = .ok (.iconst 0, 1) := by decide +kernel
theorem dX12_spreads_74 : decode cX12_spreads 74 = .ok (.istore 5, 2) := by decide +kernel
theorem dX12_spreads_76 : decode cX12_spreads 76 = .ok (.iload 5, 2) := by decide +kernel
theorem dX12_spreads_78 : decode cX12_spreads 78 = .ok (.bipush 9, 2) := by decide +kernel
theorem dX12_spreads_80 : decode cX12_spreads 80 = .ok (.if_icmp .ge 146, 3) := by decide +kernel
theorem dX12_spreads_83 : decode cX12_spreads 83 = .ok (.aload_n 0, 1) := by decide +kernel
theorem dX12_spreads_84 : decode cX12_spreads 84 = .ok (.getfield 41, 3) := by decide +kernel
theorem dX12_spreads_87 : decode cX12_spreads 87 = .ok (.iload 4, 2) := by decide +kernel
theorem dX12_spreads_89 : decode cX12_spreads 89 = .ok (.iaload, 1) := by decide +kernel
theorem dX12_spreads_90 : decode cX12_spreads 90 = .ok (.ldc_w 335, 3) := by decide +kernel
theorem dX12_spreads_93 : decode cX12_spreads 93 = .ok (.if_icmp .ge 133, 3) := by decide +kernel
theorem dX12_spreads_96 : decode cX12_spreads 96 = .ok (.aload_n 0, 1) := by decide +kernel
theorem dX12_spreads_97 : decode cX12_spreads 97 = .ok (.getfield 32, 3) := by decide +kernel
theorem dX12_spreads_100 : decode cX12_spreads 100 = .ok (.iload 5, 2) := by decide +kernel
theorem dX12_spreads_102 : decode cX12_spreads 102 = .ok (.iaload, 1) := by decide +kernel
theorem dX12_spreads_103 : decode cX12_spreads 103 = .ok (.ldc_w 335, 3) := by decide +kernel
theorem dX12_spreads_106 : decode cX12_spreads 106 = .ok (.if_icmp .lt 6, 3) := by decide +kernel
theorem dX12_spreads_109 : decode cX12_spreads 109 = .ok (.goto 111, 3) := by decide +kernel
theorem dX12_spreads_112 : decode cX12_spreads 112 = .ok (.aload_n 0, 1) := by decide +kernel
theorem dX12_spreads_113 : decode cX12_spreads 113 = .ok (.iload 4, 2) := by decide +kernel
theorem dX12_spreads_115 : decode cX12_spreads 115 = .ok (.iconst 4, 1) := by decide +kernel
theorem dX12_spreads_116 : decode cX12_spreads 116 = .ok (.idiv, 1) := by decide +kernel
theorem dX12_spreads_117 : decode cX12_spreads 117 = .ok (.iload 5, 2) := by decide +kernel
theorem dX12_spreads_119 : decode cX12_spreads 119 = .ok (.invokevirtual 342, 3) := by decide +kernel
theorem dX12_spreads_122 : decode cX12_spreads 122 = .ok (.istore 6, 2) := by decide +kernel
theorem dX12_spreads_124 : decode cX12_spreads 124 = .ok (.iconst 4, 1) := by decide +kernel
theorem dX12_spreads_125 : decode cX12_spreads 125 = .ok (.iload 6, 2) := by decide +kernel
theorem dX12_spreads_127 : decode cX12_spreads 127 = .ok (.imul, 1) := by decide +kernel
theorem dX12_spreads_128 : decode cX12_spreads 128 = .ok (.iload 4, 2) := by decide +kernel
theorem dX12_spreads_130 : decode cX12_spreads 130 = .ok (.iconst 4, 1) := by decide +kernel
theorem dX12_spreads_131 : decode cX12_spreads 131 = .ok (.irem, 1) := by decide +kernel
theorem dX12_spreads_132 : decode cX12_spreads 132 = .ok (.aload_n 0, 1) := by decide +kernel
theorem dX12_spreads_133 : decode cX12_spreads 133 = .ok (.iload 6, 2) := by decide +kernel
theorem dX12_spreads_135 : decode cX12_spreads 135 = .ok (.invokevirtual 345, 3) := by decide +kernel
theorem dX12_spreads_138 : decode cX12_spreads 138 = .ok (.ior, 1) := by decide +kernel
theorem dX12_spreads_139 : decode cX12_spreads 139 = .ok (.iadd, 1) := by decide +kernel
theorem dX12_spreads_140 : decode cX12_spreads 140 = .ok (.istore 7, 2) := by decide +kernel
theorem dX12_spreads_142 : decode cX12_spreads 142 = .ok (.aload_n 0, 1) := by decide +kernel
theorem dX12_spreads_143 : decode cX12_spreads 143 = .ok (.getfield 41, 3) := by decide +kernel
theorem dX12_spreads_146 : decode cX12_spreads 146 = .ok (.iload 4, 2) := by decide +kernel
theorem dX12_spreads_148 : decode cX12_spreads 148 = .ok (.iaload, 1) := by decide +kernel
theorem dX12_spreads_149 : decode cX12_spreads 149 = .ok (.iload_n 1, 1) := by decide +kernel
theorem dX12_spreads_150 : decode cX12_spreads 150 = .ok (.ifCond .eq 7, 3) := by decide +kernel
theorem dX12_spreads_153 : decode cX12_spreads 153 = .ok (.iconst 1, 1) := by decide +kernel
theorem dX12_spreads_154 : decode cX12_spreads 154 = .ok (.goto 10, 3) := by decide +kernel
theorem dX12_spreads_157 : decode cX12_spreads 157 = .ok (.aload_n 0, 1) := by decide +kernel
theorem dX12_spreads_158 : decode cX12_spreads 158 = .ok (.getfield 32, 3) := by decide +kernel
theorem dX12_spreads_161 : decode cX12_spreads 161 = .ok (.iload 5, 2) := by decide +kernel
theorem dX12_spreads_163 : decode cX12_spreads 163 = .ok (.iaload, 1) := by decide +kernel
theorem dX12_spreads_164 : decode cX12_spreads 164 = .ok (.iadd, 1) := by decide +kernel
theorem dX12_spreads_165 : decode cX12_spreads 165 = .ok (.istore 8, 2) := by decide +kernel
theorem dX12_spreads_167 : decode cX12_spreads 167 = .ok (.iload_n 3, 1) := by decide +kernel
theorem dX12_spreads_168 : decode cX12_spreads 168 = .ok (.ifCond .ne 15, 3) := by decide +kernel
theorem dX12_spreads_171 : decode cX12_spreads 171 = .ok (.iload 8, 2) := by decide +kernel
theorem dX12_spreads_173 : decode cX12_spreads 173 = .ok (.aload_n 0, 1) := by decide +kernel
theorem dX12_spreads_174 : decode cX12_spreads 174 = .ok (.getfield 41, 3) := by decide +kernel
theorem dX12_spreads_177 : decode cX12_spreads 177 = .ok (.iload 7, 2) := by decide +kernel
theorem dX12_spreads_179 : decode cX12_spreads 179 = .ok (.iaload, 1) := by decide +kernel
theorem dX12_spreads_180 : decode cX12_spreads 180 = .ok (.if_icmp .ge 7, 3) := by decide +kernel
theorem dX12_spreads_183 : decode cX12_spreads 183 = .ok (.iconst 1, 1) := by decide +kernel
theorem dX12_spreads_184 : decode cX12_spreads 184 = .ok (.goto 4, 3) := by decide +kernel
theorem dX12_spreads_187 : decode cX12_spreads 187 = .ok (.iconst 0, 1) := by decide +kernel
theorem dX12_spreads_188 : decode cX12_spreads 188 = .ok (.istore_n 3, 1) := by decide +kernel
theorem dX12_spreads_189 : decode cX12_spreads 189 = .ok (.aload_n 0, 1) := by decide +kernel
theorem dX12_spreads_190 : decode cX12_spreads 190 = .ok (.getfield 41, 3) := by decide +kernel
theorem dX12_spreads_193 : decode cX12_spreads 193 = .ok (.iload 7, 2) := by decide +kernel
theorem dX12_spreads_195 : decode cX12_spreads 195 = .ok (.iload 8, 2) := by decide +kernel
theorem dX12_spreads_197 : decode cX12_spreads 197 = .ok (.aload_n 0, 1) := by decide +kernel
theorem dX12_spreads_198 : decode cX12_spreads 198 = .ok (.getfield 41, 3) := by decide +kernel
theorem dX12_spreads_201 : decode cX12_spreads 201 = .ok (.iload 7, 2) := by decide +kernel
theorem dX12_spreads_203 : decode cX12_spreads 203 = .ok (.iaload, 1) := by decide +kernel
theorem dX12_spreads_204 : decode cX12_spreads 204 = .ok (.if_icmp .ge 8, 3) := by decide +kernel
theorem dX12_spreads_207 : decode cX12_spreads 207 = .ok (.iload 8, 2) := by decide +kernel
theorem dX12_spreads_209 : decode cX12_spreads 209 = .ok (.goto 10, 3) := by decide +kernel
theorem dX12_spreads_212 : decode cX12_spreads 212 = .ok (.aload_n 0, 1) := by decide +kernel
theorem dX12_spreads_213 : decode cX12_spreads 213 = .ok (.getfield 41, 3) := by decide +kernel
theorem dX12_spreads_216 : decode cX12_spreads 216 = .ok (.iload 7, 2) := by decide +kernel
theorem dX12_spreads_218 : decode cX12_spreads 218 = .ok (.iaload, 1) := by decide +kernel
theorem dX12_spreads_219 : decode cX12_spreads 219 = .ok (.iastore, 1) := by decide +kernel
theorem dX12_spreads_220 : decode cX12_spreads 220 = .ok (.iinc 5 1, 3) := by decide +kernel
theorem dX12_spreads_223 : decode cX12_spreads 223 = .ok (.goto (-147), 3) := by decide +kernel
theorem dX12_spreads_226 : decode cX12_spreads 226 = .ok (.iinc 4 1, 3) := by decide +kernel
theorem dX12_spreads_229 : decode cX12_spreads 229 = .ok (.goto (-164), 3) := by decide +kernel
theorem dX12_spreads_232 : decode cX12_spreads 232 = .ok (.goto (-176), 3) := by decide +kernel
theorem dX12_spreads_235 : decode cX12_spreads 235 = .ok (.return_, 1) := by decide +kernel
theorem dX12_both_0 : decode cX12_both 0 = .ok (.ldc_w 335, 3) := by decide +kernel
theorem dX12_both_3 : decode cX12_both 3 = .ok (.istore_n 1, 1) := by decide +kernel
theorem dX12_both_4 : decode cX12_both 4 = .ok (.iconst 0, 1) := by decide +kernel
theorem dX12_both_5 : decode cX12_both 5 = .ok (.istore_n 2, 1) := by decide +kernel
theorem dX12_both_6 : decode cX12_both 6 = .ok (.iload_n 2, 1) := by decide +kernel
theorem dX12_both_7 : decode cX12_both 7 = .ok (.sipush 144, 3) := by decide +kernel
theorem dX12_both_10 : decode cX12_both 10 = .ok (.if_icmp .ge 38, 3) := by decide +kernel
theorem dX12_both_13 : decode cX12_both 13 = .ok (.aload_n 0, 1) := by decide +kernel
theorem dX12_both_14 : decode cX12_both 14 = .ok (.getfield 41, 3) := by decide +kernel
theorem dX12_both_17 : decode cX12_both 17 = .ok (.iconst 4, 1) := by decide +kernel
theorem dX12_both_18 : decode cX12_both 18 = .ok (.iload_n 2, 1) := by decide +kernel
theorem dX12_both_19 : decode cX12_both 19 = .ok (.imul, 1) := by decide +kernel
theorem dX12_both_20 : decode cX12_both 20 = .ok (.iconst 3, 1) := by decide +kernel
theorem dX12_both_21 : decode cX12_both 21 = .ok (.iadd, 1) := by decide +kernel
theorem dX12_both_22 : decode cX12_both 22 = .ok (.iaload, 1) := by decide +kernel
theorem dX12_both_23 : decode cX12_both 23 = .ok (.iload_n 1, 1) := by decide +kernel
theorem dX12_both_24 : decode cX12_both 24 = .ok (.if_icmp .ge 16, 3) := by decide +kernel
theorem dX12_both_27 : decode cX12_both 27 = .ok (.aload_n 0, 1) := by decide +kernel
theorem dX12_both_28 : decode cX12_both 28 = .ok (.getfield 41, 3) := by decide +kernel
theorem dX12_both_31 : decode cX12_both 31 = .ok (.iconst 4, 1) := by decide +kernel
theorem dX12_both_32 : decode cX12_both 32 = .ok (.iload_n 2, 1) := by decide +kernel
theorem dX12_both_33 : decode cX12_both 33 = .ok (.imul, 1) := by decide +kernel
theorem dX12_both_34 : decode cX12_both 34 = .ok (.iconst 3, 1) := by decide +kernel
theorem dX12_both_35 : decode cX12_both 35 = .ok (.iadd, 1) := by decide +kernel
theorem dX12_both_36 : decode cX12_both 36 = .ok (.iaload, 1) := by decide +kernel
theorem dX12_both_37 : decode cX12_both 37 = .ok (.goto 4, 3) := by decide +kernel
theorem dX12_both_40 : decode cX12_both 40 = .ok (.iload_n 1, 1) := by decide +kernel
theorem dX12_both_41 : decode cX12_both 41 = .ok (.istore_n 1, 1) := by decide +kernel
theorem dX12_both_42 : decode cX12_both 42 = .ok (.iinc 2 1, 3) := by decide +kernel
theorem dX12_both_45 : decode cX12_both 45 = .ok (.goto (-39), 3) := by decide +kernel
theorem dX12_both_48 : decode cX12_both 48 = .ok (.iload_n 1, 1) := by decide +kernel
theorem dX12_both_49 : decode cX12_both 49 = .ok (.ldc_w 335, 3) := by decide +kernel
theorem dX12_both_52 : decode cX12_both 52 = .ok (.if_icmp .ge 7, 3) := by decide +kernel
theorem dX12_both_55 : decode cX12_both 55 = .ok (.iload_n 1, 1) := by decide +kernel
theorem dX12_both_56 : decode cX12_both 56 = .ok (.goto 4, 3) := by decide +kernel
theorem dX12_both_59 : decode cX12_both 59 = .ok (.iconst (-1), 1) := by decide +kernel
theorem dX12_both_60 : decode cX12_both 60 = .ok (.ireturn, 1) := by decide +kernel
theorem dX12_soon_0 : decode cX12_soon 0 = .ok (.aload_n 0, 1) := by decide +kernel
theorem dX12_soon_1 : decode cX12_soon 1 = .ok (.iload_n 1, 1) := by decide +kernel
theorem dX12_soon_2 : decode cX12_soon 2 = .ok (.invokevirtual 339, 3) := by decide +kernel
theorem dX12_soon_5 : decode cX12_soon 5 = .ok (.aload_n 0, 1) := by decide +kernel
theorem dX12_soon_6 : decode cX12_soon 6 = .ok (.iconst 1, 1) := by decide +kernel
theorem dX12_soon_7 : decode cX12_soon 7 = .ok (.invokevirtual 348, 3) := by decide +kernel
theorem dX12_soon_10 : decode cX12_soon 10 = .ok (.aload_n 0, 1) := by decide +kernel
theorem dX12_soon_11 : decode cX12_soon 11 = .ok (.invokevirtual 351, 3) := by decide +kernel
theorem dX12_soon_14 : decode cX12_soon 14 = .ok (.ireturn, 1) := by decide +kernel
theorem dX12_sends_0 : decode cX12_sends 0 = .ok (.aload_n 0, 1) := by decide +kernel
theorem dX12_sends_1 : decode cX12_sends 1 = .ok (.iload_n 1, 1) := by decide +kernel
theorem dX12_sends_2 : decode cX12_sends 2 = .ok (.invokevirtual 186, 3) := by decide +kernel
theorem dX12_sends_5 : decode cX12_sends 5 = .ok (.ifCond .eq 12, 3) := by decide +kernel
theorem dX12_sends_8 : decode cX12_sends 8 = .ok (.iload_n 2, 1) := by decide +kernel
theorem dX12_sends_9 : decode cX12_sends 9 = .ok (.iconst 0, 1) := by decide +kernel
theorem dX12_sends_10 : decode cX12_sends 10 = .ok (.iconst 2, 1) := by decide +kernel
theorem dX12_sends_11 : decode cX12_sends 11 = .ok (.invokestatic 109, 3) := by decide +kernel
theorem dX12_sends_14 : decode cX12_sends 14 = .ok (.ifCond .ne 5, 3) := by decide +kernel
theorem dX12_sends_17 : decode cX12_sends 17 = .ok (.iconst (-1), 1) := by decide +kernel
theorem dX12_sends_18 : decode cX12_sends 18 = .ok (.ireturn, 1) := by decide +kernel
theorem dX12_sends_19 : decode cX12_sends 19 = .ok (.aload_n 0, 1) := by decide +kernel
theorem dX12_sends_20 : decode cX12_sends 20 = .ok (.iconst (-1), 1) := by decide +kernel
theorem dX12_sends_21 : decode cX12_sends 21 = .ok (.invokevirtual 354, 3) := by decide +kernel
theorem dX12_sends_24 : decode cX12_sends 24 = .ok (.istore_n 3, 1) := by decide +kernel
theorem dX12_sends_25 : decode cX12_sends 25 = .ok (.iload_n 2, 1) := by decide +kernel
theorem dX12_sends_26 : decode cX12_sends 26 = .ok (.ifCond .ne 5, 3) := by decide +kernel
theorem dX12_sends_29 : decode cX12_sends 29 = .ok (.iload_n 3, 1) := by decide +kernel
theorem dX12_sends_30 : decode cX12_sends 30 = .ok (.ireturn, 1) := by decide +kernel
theorem dX12_sends_31 : decode cX12_sends 31 = .ok (.iload_n 2, 1) := by decide +kernel
theorem dX12_sends_32 : decode cX12_sends 32 = .ok (.iconst 1, 1) := by decide +kernel
theorem dX12_sends_33 : decode cX12_sends 33 = .ok (.if_icmp .ne 13, 3) := by decide +kernel
theorem dX12_sends_36 : decode cX12_sends 36 = .ok (.aload_n 0, 1) := by decide +kernel
theorem dX12_sends_37 : decode cX12_sends 37 = .ok (.iconst 0, 1) := by decide +kernel
theorem dX12_sends_38 : decode cX12_sends 38 = .ok (.invokevirtual 348, 3) := by decide +kernel
theorem dX12_sends_41 : decode cX12_sends 41 = .ok (.aload_n 0, 1) := by decide +kernel
theorem dX12_sends_42 : decode cX12_sends 42 = .ok (.invokevirtual 351, 3) := by decide +kernel
theorem dX12_sends_45 : decode cX12_sends 45 = .ok (.ireturn, 1) := by decide +kernel
theorem dX12_sends_46 : decode cX12_sends 46 = .ok (.iconst 0, 1) := by decide +kernel
theorem dX12_sends_47 : decode cX12_sends 47 = .ok (.istore 4, 2) := by decide +kernel
theorem dX12_sends_49 : decode cX12_sends 49 = .ok (.iconst 0, 1) := by decide +kernel
theorem dX12_sends_50 : decode cX12_sends 50 = .ok (.istore 5, 2) := by decide +kernel
theorem dX12_sends_52 : decode cX12_sends 52 = .ok (.iload 5, 2) := by decide +kernel
theorem dX12_sends_54 : decode cX12_sends 54 = .ok (.aload_n 0, 1) := by decide +kernel
theorem dX12_sends_55 : decode cX12_sends 55 = .ok (.invokevirtual 183, 3) := by decide +kernel
theorem dX12_sends_58 : decode cX12_sends 58 = .ok (.if_icmp .ge 47, 3) := by decide +kernel
theorem dX12_sends_61 : decode cX12_sends 61 = .ok (.iload_n 3, 1) := by decide +kernel
theorem dX12_sends_62 : decode cX12_sends 62 = .ok (.iconst (-1), 1) := by decide +kernel
theorem dX12_sends_63 : decode cX12_sends 63 = .ok (.if_icmp .eq 42, 3) := by decide +kernel
theorem dX12_sends_66 : decode cX12_sends 66 = .ok (.aload_n 0, 1) := by decide +kernel
theorem dX12_sends_67 : decode cX12_sends 67 = .ok (.iload 5, 2) := by decide +kernel
theorem dX12_sends_69 : decode cX12_sends 69 = .ok (.invokevirtual 354, 3) := by decide +kernel
theorem dX12_sends_72 : decode cX12_sends 72 = .ok (.istore 6, 2) := by decide +kernel
theorem dX12_sends_74 : decode cX12_sends 74 = .ok (.iload 4, 2) := by decide +kernel
theorem dX12_sends_76 : decode cX12_sends 76 = .ok (.iload 6, 2) := by decide +kernel
theorem dX12_sends_78 : decode cX12_sends 78 = .ok (.iconst (-1), 1) := by decide +kernel
theorem dX12_sends_79 : decode cX12_sends 79 = .ok (.if_icmp .eq 16, 3) := by decide +kernel
theorem dX12_sends_82 : decode cX12_sends 82 = .ok (.iload 6, 2) := by decide +kernel
theorem dX12_sends_84 : decode cX12_sends 84 = .ok (.iload_n 3, 1) := by decide +kernel
theorem dX12_sends_85 : decode cX12_sends 85 = .ok (.if_icmp .gt 10, 3) := by decide +kernel
theorem dX12_sends_88 : decode cX12_sends 88 = .ok (.iconst 1, 1) := by decide +kernel
theorem dX12_sends_89 : decode cX12_sends 89 = .ok (.iload 5, 2) := by decide +kernel
theorem dX12_sends_91 : decode cX12_sends 91 = .ok (.ishl, 1) := by decide +kernel
theorem dX12_sends_92 : decode cX12_sends 92 = .ok (.goto 4, 3) := by decide +kernel
theorem dX12_sends_95 : decode cX12_sends 95 = .ok (.iconst 0, 1) := by decide +kernel
theorem dX12_sends_96 : decode cX12_sends 96 = .ok (.ior, 1) := by decide +kernel
theorem dX12_sends_97 : decode cX12_sends 97 = .ok (.istore 4, 2) := by decide +kernel
theorem dX12_sends_99 : decode cX12_sends 99 = .ok (.iinc 5 1, 3) := by decide +kernel
theorem dX12_sends_102 : decode cX12_sends 102 = .ok (.goto (-50), 3) := by decide +kernel
theorem dX12_sends_105 : decode cX12_sends 105 = .ok (.iload 4, 2) := by decide +kernel
theorem dX12_sends_107 : decode cX12_sends 107 = .ok (.ireturn, 1) := by decide +kernel
theorem dX12_thrift_0 : decode cX12_thrift 0 = .ok (.aload_n 0, 1) := by decide +kernel
theorem dX12_thrift_1 : decode cX12_thrift 1 = .ok (.iload_n 1, 1) := by decide +kernel
theorem dX12_thrift_2 : decode cX12_thrift 2 = .ok (.invokevirtual 186, 3) := by decide +kernel
theorem dX12_thrift_5 : decode cX12_thrift 5 = .ok (.ifCond .eq 33, 3) := by decide +kernel
theorem dX12_thrift_8 : decode cX12_thrift 8 = .ok (.iload_n 2, 1) := by decide +kernel
theorem dX12_thrift_9 : decode cX12_thrift 9 = .ok (.iconst 0, 1) := by decide +kernel
theorem dX12_thrift_10 : decode cX12_thrift 10 = .ok (.aload_n 0, 1) := by decide +kernel
theorem dX12_thrift_11 : decode cX12_thrift 11 = .ok (.iconst 0, 1) := by decide +kernel
theorem dX12_thrift_12 : decode cX12_thrift 12 = .ok (.invokevirtual 180, 3) := by decide +kernel
theorem dX12_thrift_15 : decode cX12_thrift 15 = .ok (.iconst 1, 1) := by decide +kernel
theorem dX12_thrift_16 : decode cX12_thrift 16 = .ok (.isub, 1) := by decide +kernel
theorem dX12_thrift_17 : decode cX12_thrift 17 = .ok (.invokestatic 109, 3) := by decide +kernel
theorem dX12_thrift_20 : decode cX12_thrift 20 = .ok (.ifCond .eq 18, 3) := by decide +kernel
theorem dX12_thrift_23 : decode cX12_thrift 23 = .ok (.iload_n 3, 1) := by decide +kernel
theorem dX12_thrift_24 : decode cX12_thrift 24 = .ok (.iconst 0, 1) := by decide +kernel
theorem dX12_thrift_25 : decode cX12_thrift 25 = .ok (.aload_n 0, 1) := by decide +kernel
theorem dX12_thrift_26 : decode cX12_thrift 26 = .ok (.iconst 1, 1) := by decide +kernel
theorem dX12_thrift_27 : decode cX12_thrift 27 = .ok (.invokevirtual 180, 3) := by decide +kernel
theorem dX12_thrift_30 : decode cX12_thrift 30 = .ok (.iconst 1, 1) := by decide +kernel
theorem dX12_thrift_31 : decode cX12_thrift 31 = .ok (.isub, 1) := by decide +kernel
theorem dX12_thrift_32 : decode cX12_thrift 32 = .ok (.invokestatic 109, 3) := by decide +kernel
theorem dX12_thrift_35 : decode cX12_thrift 35 = .ok (.ifCond .ne 5, 3) := by decide +kernel
theorem dX12_thrift_38 : decode cX12_thrift 38 = .ok (.iconst (-1), 1) := by decide +kernel
theorem dX12_thrift_39 : decode cX12_thrift 39 = .ok (.ireturn, 1) := by decide +kernel
theorem dX12_thrift_40 : decode cX12_thrift 40 = .ok (.aload_n 0, 1) := by decide +kernel
theorem dX12_thrift_41 : decode cX12_thrift 41 = .ok (.iconst (-1), 1) := by decide +kernel
theorem dX12_thrift_42 : decode cX12_thrift 42 = .ok (.invokevirtual 339, 3) := by decide +kernel
theorem dX12_thrift_45 : decode cX12_thrift 45 = .ok (.aload_n 0, 1) := by decide +kernel
theorem dX12_thrift_46 : decode cX12_thrift 46 = .ok (.iconst 0, 1) := by decide +kernel
theorem dX12_thrift_47 : decode cX12_thrift 47 = .ok (.invokevirtual 348, 3) := by decide +kernel
theorem dX12_thrift_50 : decode cX12_thrift 50 = .ok (.ldc_w 335, 3) := by decide +kernel
theorem dX12_thrift_53 : decode cX12_thrift 53 = .ok (.istore 4, 2) := by decide +kernel
theorem dX12_thrift_55 : decode cX12_thrift 55 = .ok (.iconst 0, 1) := by decide +kernel
theorem dX12_thrift_56 : decode cX12_thrift 56 = .ok (.istore 5, 2) := by decide +kernel
theorem dX12_thrift_58 : decode cX12_thrift 58 = .ok (.iload 5, 2) := by decide +kernel
theorem dX12_thrift_60 : decode cX12_thrift 60 = .ok (.iconst 4, 1) := by decide +kernel
theorem dX12_thrift_61 : decode cX12_thrift 61 = .ok (.if_icmp .ge 53, 3) := by decide +kernel
theorem dX12_thrift_64 : decode cX12_thrift 64 = .ok (.aload_n 0, 1) := by decide +kernel
theorem dX12_thrift_65 : decode cX12_thrift 65 = .ok (.getfield 41, 3) := by decide +kernel
theorem dX12_thrift_68 : decode cX12_thrift 68 = .ok (.iconst 4, 1) := by decide +kernel
theorem dX12_thrift_69 : decode cX12_thrift 69 = .ok (.bipush 12, 2) := by decide +kernel
theorem dX12_thrift_71 : decode cX12_thrift 71 = .ok (.iload_n 3, 1) := by decide +kernel
theorem dX12_thrift_72 : decode cX12_thrift 72 = .ok (.imul, 1) := by decide +kernel
theorem dX12_thrift_73 : decode cX12_thrift 73 = .ok (.iload_n 2, 1) := by decide +kernel
theorem dX12_thrift_74 : decode cX12_thrift 74 = .ok (.iadd, 1) := by decide +kernel
theorem dX12_thrift_75 : decode cX12_thrift 75 = .ok (.imul, 1) := by decide +kernel
theorem dX12_thrift_76 : decode cX12_thrift 76 = .ok (.iload 5, 2) := by decide +kernel
theorem dX12_thrift_78 : decode cX12_thrift 78 = .ok (.iadd, 1) := by decide +kernel
theorem dX12_thrift_79 : decode cX12_thrift 79 = .ok (.iaload, 1) := by decide +kernel
theorem dX12_thrift_80 : decode cX12_thrift 80 = .ok (.iload 4, 2) := by decide +kernel
theorem dX12_thrift_82 : decode cX12_thrift 82 = .ok (.if_icmp .ge 22, 3) := by decide +kernel
theorem dX12_thrift_85 : decode cX12_thrift 85 = .ok (.aload_n 0, 1) := by decide +kernel
theorem dX12_thrift_86 : decode cX12_thrift 86 = .ok (.getfield 41, 3) := by decide +kernel
theorem dX12_thrift_89 : decode cX12_thrift 89 = .ok (.iconst 4, 1) := by decide +kernel
theorem dX12_thrift_90 : decode cX12_thrift 90 = .ok (.bipush 12, 2) := by decide +kernel
theorem dX12_thrift_92 : decode cX12_thrift 92 = .ok (.iload_n 3, 1) := by decide +kernel
theorem dX12_thrift_93 : decode cX12_thrift 93 = .ok (.imul, 1) := by decide +kernel
theorem dX12_thrift_94 : decode cX12_thrift 94 = .ok (.iload_n 2, 1) := by decide +kernel
theorem dX12_thrift_95 : decode cX12_thrift 95 = .ok (.iadd, 1) := by decide +kernel
theorem dX12_thrift_96 : decode cX12_thrift 96 = .ok (.imul, 1) := by decide +kernel
theorem dX12_thrift_97 : decode cX12_thrift 97 = .ok (.iload 5, 2) := by decide +kernel
theorem dX12_thrift_99 : decode cX12_thrift 99 = .ok (.iadd, 1) := by decide +kernel
theorem dX12_thrift_100 : decode cX12_thrift 100 = .ok (.iaload, 1) := by decide +kernel
theorem dX12_thrift_101 : decode cX12_thrift 101 = .ok (.goto 5, 3) := by decide +kernel
theorem dX12_thrift_104 : decode cX12_thrift 104 = .ok (.iload 4, 2) := by decide +kernel
theorem dX12_thrift_106 : decode cX12_thrift 106 = .ok (.istore 4, 2) := by decide +kernel
theorem dX12_thrift_108 : decode cX12_thrift 108 = .ok (.iinc 5 1, 3) := by decide +kernel
theorem dX12_thrift_111 : decode cX12_thrift 111 = .ok (.goto (-53), 3) := by decide +kernel
theorem dX12_thrift_114 : decode cX12_thrift 114 = .ok (.iload 4, 2) := by decide +kernel
theorem dX12_thrift_116 : decode cX12_thrift 116 = .ok (.ldc_w 335, 3) := by decide +kernel
theorem dX12_thrift_119 : decode cX12_thrift 119 = .ok (.if_icmp .ge 8, 3) := by decide +kernel
theorem dX12_thrift_122 : decode cX12_thrift 122 = .ok (.iload 4, 2) := by decide +kernel
theorem dX12_thrift_124 : decode cX12_thrift 124 = .ok (.goto 4, 3) := by decide +kernel
theorem dX12_thrift_127 : decode cX12_thrift 127 = .ok (.iconst (-1), 1) := by decide +kernel
theorem dX12_thrift_128 : decode cX12_thrift 128 = .ok (.ireturn, 1) := by decide +kernel
theorem dX12_puts_0 : decode cX12_puts 0 = .ok (.iconst 0, 1) := by decide +kernel
theorem dX12_puts_1 : decode cX12_puts 1 = .ok (.istore_n 3, 1) := by decide +kernel
theorem dX12_puts_2 : decode cX12_puts 2 = .ok (.iload_n 3, 1) := by decide +kernel
theorem dX12_puts_3 : decode cX12_puts 3 = .ok (.aload_n 0, 1) := by decide +kernel
theorem dX12_puts_4 : decode cX12_puts 4 = .ok (.invokevirtual 183, 3) := by decide +kernel
theorem dX12_puts_7 : decode cX12_puts 7 = .ok (.if_icmp .ge 49, 3) := by decide +kernel
theorem dX12_puts_10 : decode cX12_puts 10 = .ok (.aload_n 0, 1) := by decide +kernel
theorem dX12_puts_11 : decode cX12_puts 11 = .ok (.iload_n 3, 1) := by decide +kernel
theorem dX12_puts_12 : decode cX12_puts 12 = .ok (.iconst 2, 1) := by decide +kernel
theorem dX12_puts_13 : decode cX12_puts 13 = .ok (.invokevirtual 189, 3) := by decide +kernel
theorem dX12_puts_16 : decode cX12_puts 16 = .ok (.iload_n 1, 1) := by decide +kernel
theorem dX12_puts_17 : decode cX12_puts 17 = .ok (.if_icmp .ne 33, 3) := by decide +kernel
theorem dX12_puts_20 : decode cX12_puts 20 = .ok (.aload_n 0, 1) := by decide +kernel
theorem dX12_puts_21 : decode cX12_puts 21 = .ok (.getfield 20, 3) := by decide +kernel
theorem dX12_puts_24 : decode cX12_puts 24 = .ok (.iload_n 3, 1) := by decide +kernel
theorem dX12_puts_25 : decode cX12_puts 25 = .ok (.iload_n 2, 1) := by decide +kernel
theorem dX12_puts_26 : decode cX12_puts 26 = .ok (.ifCond .ne 7, 3) := by decide +kernel
theorem dX12_puts_29 : decode cX12_puts 29 = .ok (.iconst (-1), 1) := by decide +kernel
theorem dX12_puts_30 : decode cX12_puts 30 = .ok (.goto 19, 3) := by decide +kernel
theorem dX12_puts_33 : decode cX12_puts 33 = .ok (.iload_n 2, 1) := by decide +kernel
theorem dX12_puts_34 : decode cX12_puts 34 = .ok (.iconst 1, 1) := by decide +kernel
theorem dX12_puts_35 : decode cX12_puts 35 = .ok (.if_icmp .ne 7, 3) := by decide +kernel
theorem dX12_puts_38 : decode cX12_puts 38 = .ok (.iconst 0, 1) := by decide +kernel
theorem dX12_puts_39 : decode cX12_puts 39 = .ok (.goto 10, 3) := by decide +kernel
theorem dX12_puts_42 : decode cX12_puts 42 = .ok (.aload_n 0, 1) := by decide +kernel
theorem dX12_puts_43 : decode cX12_puts 43 = .ok (.iconst 2, 1) := by decide +kernel
theorem dX12_puts_44 : decode cX12_puts 44 = .ok (.invokevirtual 180, 3) := by decide +kernel
theorem dX12_puts_47 : decode cX12_puts 47 = .ok (.iconst 1, 1) := by decide +kernel
theorem dX12_puts_48 : decode cX12_puts 48 = .ok (.isub, 1) := by decide +kernel
theorem dX12_puts_49 : decode cX12_puts 49 = .ok (.iastore, 1) := by decide +kernel
theorem dX12_puts_50 : decode cX12_puts 50 = .ok (.iinc 3 1, 3) := by decide +kernel
theorem dX12_puts_53 : decode cX12_puts 53 = .ok (.goto (-51), 3) := by decide +kernel
theorem dX12_puts_56 : decode cX12_puts 56 = .ok (.return_, 1) := by decide +kernel
theorem dX12_gainOf_0 : decode cX12_gainOf 0 = .ok (.aload_n 0, 1) := by decide +kernel
theorem dX12_gainOf_1 : decode cX12_gainOf 1 = .ok (.invokevirtual 295, 3) := by decide +kernel
theorem dX12_gainOf_4 : decode cX12_gainOf 4 = .ok (.aload_n 0, 1) := by decide +kernel
theorem dX12_gainOf_5 : decode cX12_gainOf 5 = .ok (.iconst 0, 1) := by decide +kernel
theorem dX12_gainOf_6 : decode cX12_gainOf 6 = .ok (.iload_n 2, 1) := by decide +kernel
theorem dX12_gainOf_7 : decode cX12_gainOf 7 = .ok (.iconst 3, 1) := by decide +kernel
theorem dX12_gainOf_8 : decode cX12_gainOf 8 = .ok (.idiv, 1) := by decide +kernel
theorem dX12_gainOf_9 : decode cX12_gainOf 9 = .ok (.invokevirtual 357, 3) := by decide +kernel
theorem dX12_gainOf_12 : decode cX12_gainOf 12 = .ok (.aload_n 0, 1) := by decide +kernel
theorem dX12_gainOf_13 : decode cX12_gainOf 13 = .ok (.iconst 1, 1) := by decide +kernel
theorem dX12_gainOf_14 : decode cX12_gainOf 14 = .ok (.iload_n 2, 1) := by decide +kernel
theorem dX12_gainOf_15 : decode cX12_gainOf 15 = .ok (.iconst 3, 1) := by decide +kernel
theorem dX12_gainOf_16 : decode cX12_gainOf 16 = .ok (.irem, 1) := by decide +kernel
theorem dX12_gainOf_17 : decode cX12_gainOf 17 = .ok (.invokevirtual 357, 3) := by decide +kernel
theorem dX12_gainOf_20 : decode cX12_gainOf 20 = .ok (.iconst 0, 1) := by decide +kernel
theorem dX12_gainOf_21 : decode cX12_gainOf 21 = .ok (.istore 4, 2) := by decide +kernel
theorem dX12_gainOf_23 : decode cX12_gainOf 23 = .ok (.iload 4, 2) := by decide +kernel
theorem dX12_gainOf_25 : decode cX12_gainOf 25 = .ok (.iload_n 1, 1) := by decide +kernel
theorem dX12_gainOf_26 : decode cX12_gainOf 26 = .ok (.if_icmp .ge 14, 3) := by decide +kernel
theorem dX12_gainOf_29 : decode cX12_gainOf 29 = .ok (.aload_n 0, 1) := by decide +kernel
theorem dX12_gainOf_30 : decode cX12_gainOf 30 = .ok (.iconst 0, 1) := by decide +kernel
theorem dX12_gainOf_31 : decode cX12_gainOf 31 = .ok (.invokevirtual 291, 3) := by decide +kernel
theorem dX12_gainOf_34 : decode cX12_gainOf 34 = .ok (.iinc 4 1, 3) := by decide +kernel
theorem dX12_gainOf_37 : decode cX12_gainOf 37 = .ok (.goto (-14), 3) := by decide +kernel
theorem dX12_gainOf_40 : decode cX12_gainOf 40 = .ok (.iconst 0, 1) := by decide +kernel
theorem dX12_gainOf_41 : decode cX12_gainOf 41 = .ok (.istore 4, 2) := by decide +kernel
theorem dX12_gainOf_43 : decode cX12_gainOf 43 = .ok (.iconst 0, 1) := by decide +kernel
theorem dX12_gainOf_44 : decode cX12_gainOf 44 = .ok (.istore 5, 2) := by decide +kernel
theorem dX12_gainOf_46 : decode cX12_gainOf 46 = .ok (.iload 5, 2) := by decide +kernel
theorem dX12_gainOf_48 : decode cX12_gainOf 48 = .ok (.aload_n 0, 1) := by decide +kernel
theorem dX12_gainOf_49 : decode cX12_gainOf 49 = .ok (.invokevirtual 183, 3) := by decide +kernel
theorem dX12_gainOf_52 : decode cX12_gainOf 52 = .ok (.if_icmp .ge 47, 3) := by decide +kernel
theorem dX12_gainOf_55 : decode cX12_gainOf 55 = .ok (.iload 4, 2) := by decide +kernel
theorem dX12_gainOf_57 : decode cX12_gainOf 57 = .ok (.aload_n 0, 1) := by decide +kernel
theorem dX12_gainOf_58 : decode cX12_gainOf 58 = .ok (.iload 5, 2) := by decide +kernel
theorem dX12_gainOf_60 : decode cX12_gainOf 60 = .ok (.iconst 2, 1) := by decide +kernel
theorem dX12_gainOf_61 : decode cX12_gainOf 61 = .ok (.invokevirtual 189, 3) := by decide +kernel
theorem dX12_gainOf_64 : decode cX12_gainOf 64 = .ok (.iload_n 3, 1) := by decide +kernel
theorem dX12_gainOf_65 : decode cX12_gainOf 65 = .ok (.if_icmp .ne 24, 3) := by decide +kernel
theorem dX12_gainOf_68 : decode cX12_gainOf 68 = .ok (.aload_n 0, 1) := by decide +kernel
theorem dX12_gainOf_69 : decode cX12_gainOf 69 = .ok (.getfield 20, 3) := by decide +kernel
theorem dX12_gainOf_72 : decode cX12_gainOf 72 = .ok (.iload 5, 2) := by decide +kernel
theorem dX12_gainOf_74 : decode cX12_gainOf 74 = .ok (.iaload, 1) := by decide +kernel
theorem dX12_gainOf_75 : decode cX12_gainOf 75 = .ok (.iconst (-1), 1) := by decide +kernel
theorem dX12_gainOf_76 : decode cX12_gainOf 76 = .ok (.if_icmp .eq 13, 3) := by decide +kernel
theorem dX12_gainOf_79 : decode cX12_gainOf 79 = .ok (.aload_n 0, 1) := by decide +kernel
theorem dX12_gainOf_80 : decode cX12_gainOf 80 = .ok (.iload 5, 2) := by decide +kernel
theorem dX12_gainOf_82 : decode cX12_gainOf 82 = .ok (.iconst 1, 1) := by decide +kernel
theorem dX12_gainOf_83 : decode cX12_gainOf 83 = .ok (.invokevirtual 189, 3) := by decide +kernel
theorem dX12_gainOf_86 : decode cX12_gainOf 86 = .ok (.goto 4, 3) := by decide +kernel
theorem dX12_gainOf_89 : decode cX12_gainOf 89 = .ok (.iconst 0, 1) := by decide +kernel
theorem dX12_gainOf_90 : decode cX12_gainOf 90 = .ok (.iadd, 1) := by decide +kernel
theorem dX12_gainOf_91 : decode cX12_gainOf 91 = .ok (.istore 4, 2) := by decide +kernel
theorem dX12_gainOf_93 : decode cX12_gainOf 93 = .ok (.iinc 5 1, 3) := by decide +kernel
theorem dX12_gainOf_96 : decode cX12_gainOf 96 = .ok (.goto (-50), 3) := by decide +kernel
theorem dX12_gainOf_99 : decode cX12_gainOf 99 = .ok (.aload_n 0, 1) := by decide +kernel
theorem dX12_gainOf_100 : decode cX12_gainOf 100 = .ok (.getfield 218, 3) := by decide +kernel
theorem dX12_gainOf_103 : decode cX12_gainOf 103 = .ok (.aload_n 0, 1) := by decide +kernel
theorem dX12_gainOf_104 : decode cX12_gainOf 104 = .ok (.iconst 4, 1) := by decide +kernel
theorem dX12_gainOf_105 : decode cX12_gainOf 105 = .ok (.invokevirtual 180, 3) := by decide +kernel
theorem dX12_gainOf_108 : decode cX12_gainOf 108 = .ok (.isub, 1) := by decide +kernel
theorem dX12_gainOf_109 : decode cX12_gainOf 109 = .ok (.istore 5, 2) := by decide +kernel
theorem dX12_gainOf_111 : decode cX12_gainOf 111 = .ok (.bipush 10, 2) := by decide +kernel
theorem dX12_gainOf_113 : decode cX12_gainOf 113 = .ok (.iload_n 3, 1) := by decide +kernel
theorem dX12_gainOf_114 : decode cX12_gainOf 114 = .ok (.iconst 1, 1) := by decide +kernel
theorem dX12_gainOf_115 : decode cX12_gainOf 115 = .ok (.if_icmp .ne 8, 3) := by decide +kernel
theorem dX12_gainOf_118 : decode cX12_gainOf 118 = .ok (.iload 5, 2) := by decide +kernel
theorem dX12_gainOf_120 : decode cX12_gainOf 120 = .ok (.goto 6, 3) := by decide +kernel
theorem dX12_gainOf_123 : decode cX12_gainOf 123 = .ok (.iload 5, 2) := by decide +kernel
theorem dX12_gainOf_125 : decode cX12_gainOf 125 = .ok (.ineg, 1) := by decide +kernel
theorem dX12_gainOf_126 : decode cX12_gainOf 126 = .ok (.imul, 1) := by decide +kernel
theorem dX12_gainOf_127 : decode cX12_gainOf 127 = .ok (.iload 4, 2) := by decide +kernel
theorem dX12_gainOf_129 : decode cX12_gainOf 129 = .ok (.iload_n 1, 1) := by decide +kernel
theorem dX12_gainOf_130 : decode cX12_gainOf 130 = .ok (.imul, 1) := by decide +kernel
theorem dX12_gainOf_131 : decode cX12_gainOf 131 = .ok (.isub, 1) := by decide +kernel
theorem dX12_gainOf_132 : decode cX12_gainOf 132 = .ok (.ireturn, 1) := by decide +kernel
theorem dX12_gain_0 : decode cX12_gain 0 = .ok (.aload_n 0, 1) := by decide +kernel
theorem dX12_gain_1 : decode cX12_gain 1 = .ok (.iload_n 1, 1) := by decide +kernel
theorem dX12_gain_2 : decode cX12_gain 2 = .ok (.invokevirtual 186, 3) := by decide +kernel
theorem dX12_gain_5 : decode cX12_gain 5 = .ok (.ifCond .eq 44, 3) := by decide +kernel
theorem dX12_gain_8 : decode cX12_gain 8 = .ok (.iload_n 2, 1) := by decide +kernel
theorem dX12_gain_9 : decode cX12_gain 9 = .ok (.iconst 1, 1) := by decide +kernel
theorem dX12_gain_10 : decode cX12_gain 10 = .ok (.bipush 12, 2) := by decide +kernel
theorem dX12_gain_12 : decode cX12_gain 12 = .ok (.invokestatic 109, 3) := by decide +kernel
theorem dX12_gain_15 : decode cX12_gain 15 = .ok (.ifCond .eq 34, 3) := by decide +kernel
theorem dX12_gain_18 : decode cX12_gain 18 = .ok (.iload_n 3, 1) := by decide +kernel
theorem dX12_gain_19 : decode cX12_gain 19 = .ok (.iconst 0, 1) := by decide +kernel
theorem dX12_gain_20 : decode cX12_gain 20 = .ok (.bipush 8, 2) := by decide +kernel
theorem dX12_gain_22 : decode cX12_gain 22 = .ok (.invokestatic 109, 3) := by decide +kernel
theorem dX12_gain_25 : decode cX12_gain 25 = .ok (.ifCond .eq 24, 3) := by decide +kernel
theorem dX12_gain_28 : decode cX12_gain 28 = .ok (.iload 4, 2) := by decide +kernel
theorem dX12_gain_30 : decode cX12_gain 30 = .ok (.iconst 0, 1) := by decide +kernel
theorem dX12_gain_31 : decode cX12_gain 31 = .ok (.iconst 1, 1) := by decide +kernel
theorem dX12_gain_32 : decode cX12_gain 32 = .ok (.invokestatic 109, 3) := by decide +kernel
theorem dX12_gain_35 : decode cX12_gain 35 = .ok (.ifCond .eq 14, 3) := by decide +kernel
theorem dX12_gain_38 : decode cX12_gain 38 = .ok (.aload_n 0, 1) := by decide +kernel
theorem dX12_gain_39 : decode cX12_gain 39 = .ok (.iload_n 2, 1) := by decide +kernel
theorem dX12_gain_40 : decode cX12_gain 40 = .ok (.iload_n 3, 1) := by decide +kernel
theorem dX12_gain_41 : decode cX12_gain 41 = .ok (.iload 4, 2) := by decide +kernel
theorem dX12_gain_43 : decode cX12_gain 43 = .ok (.invokevirtual 360, 3) := by decide +kernel
theorem dX12_gain_46 : decode cX12_gain 46 = .ok (.goto 6, 3) := by decide +kernel
theorem dX12_gain_49 : decode cX12_gain 49 = .ok (.ldc_w 313, 3) := by decide +kernel
theorem dX12_gain_52 : decode cX12_gain 52 = .ok (.ireturn, 1) := by decide +kernel
theorem dX12_isRest_0 : decode cX12_isRest 0 = .ok (.iconst 1, 1) := by decide +kernel
theorem dX12_isRest_1 : decode cX12_isRest 1 = .ok (.istore_n 3, 1) := by decide +kernel
theorem dX12_isRest_2 : decode cX12_isRest 2 = .ok (.iconst 0, 1) := by decide +kernel
theorem dX12_isRest_3 : decode cX12_isRest 3 = .ok (.istore 4, 2) := by decide +kernel
theorem dX12_isRest_5 : decode cX12_isRest 5 = .ok (.iload 4, 2) := by decide +kernel
theorem dX12_isRest_7 : decode cX12_isRest 7 = .ok (.iconst 3, 1) := by decide +kernel
theorem dX12_isRest_8 : decode cX12_isRest 8 = .ok (.if_icmp .ge 67, 3) := by decide +kernel
theorem dX12_isRest_11 : decode cX12_isRest 11 = .ok (.iload_n 3, 1) := by decide +kernel
theorem dX12_isRest_12 : decode cX12_isRest 12 = .ok (.ifCond .eq 55, 3) := by decide +kernel
theorem dX12_isRest_15 : decode cX12_isRest 15 = .ok (.aload_n 0, 1) := by decide +kernel
theorem dX12_isRest_16 : decode cX12_isRest 16 = .ok (.iload_n 1, 1) := by decide +kernel
theorem dX12_isRest_17 : decode cX12_isRest 17 = .ok (.iconst 3, 1) := by decide +kernel
theorem dX12_isRest_18 : decode cX12_isRest 18 = .ok (.iload 4, 2) := by decide +kernel
theorem dX12_isRest_20 : decode cX12_isRest 20 = .ok (.imul, 1) := by decide +kernel
theorem dX12_isRest_21 : decode cX12_isRest 21 = .ok (.iload_n 2, 1) := by decide +kernel
theorem dX12_isRest_22 : decode cX12_isRest 22 = .ok (.iconst 3, 1) := by decide +kernel
theorem dX12_isRest_23 : decode cX12_isRest 23 = .ok (.irem, 1) := by decide +kernel
theorem dX12_isRest_24 : decode cX12_isRest 24 = .ok (.iadd, 1) := by decide +kernel
theorem dX12_isRest_25 : decode cX12_isRest 25 = .ok (.iconst 0, 1) := by decide +kernel
theorem dX12_isRest_26 : decode cX12_isRest 26 = .ok (.invokevirtual 360, 3) := by decide +kernel
theorem dX12_isRest_29 : decode cX12_isRest 29 = .ok (.aload_n 0, 1) := by decide +kernel
theorem dX12_isRest_30 : decode cX12_isRest 30 = .ok (.iload_n 1, 1) := by decide +kernel
theorem dX12_isRest_31 : decode cX12_isRest 31 = .ok (.iload_n 2, 1) := by decide +kernel
theorem dX12_isRest_32 : decode cX12_isRest 32 = .ok (.iconst 0, 1) := by decide +kernel
theorem dX12_isRest_33 : decode cX12_isRest 33 = .ok (.invokevirtual 360, 3) := by decide +kernel
theorem dX12_isRest_36 : decode cX12_isRest 36 = .ok (.if_icmp .gt 31, 3) := by decide +kernel
theorem dX12_isRest_39 : decode cX12_isRest 39 = .ok (.aload_n 0, 1) := by decide +kernel
theorem dX12_isRest_40 : decode cX12_isRest 40 = .ok (.iload_n 1, 1) := by decide +kernel
theorem dX12_isRest_41 : decode cX12_isRest 41 = .ok (.iconst 3, 1) := by decide +kernel
theorem dX12_isRest_42 : decode cX12_isRest 42 = .ok (.iload_n 2, 1) := by decide +kernel
theorem dX12_isRest_43 : decode cX12_isRest 43 = .ok (.iconst 3, 1) := by decide +kernel
theorem dX12_isRest_44 : decode cX12_isRest 44 = .ok (.idiv, 1) := by decide +kernel
theorem dX12_isRest_45 : decode cX12_isRest 45 = .ok (.imul, 1) := by decide +kernel
theorem dX12_isRest_46 : decode cX12_isRest 46 = .ok (.iload 4, 2) := by decide +kernel
theorem dX12_isRest_48 : decode cX12_isRest 48 = .ok (.iadd, 1) := by decide +kernel
theorem dX12_isRest_49 : decode cX12_isRest 49 = .ok (.iconst 1, 1) := by decide +kernel
theorem dX12_isRest_50 : decode cX12_isRest 50 = .ok (.invokevirtual 360, 3) := by decide +kernel
theorem dX12_isRest_53 : decode cX12_isRest 53 = .ok (.aload_n 0, 1) := by decide +kernel
theorem dX12_isRest_54 : decode cX12_isRest 54 = .ok (.iload_n 1, 1) := by decide +kernel
theorem dX12_isRest_55 : decode cX12_isRest 55 = .ok (.iload_n 2, 1) := by decide +kernel
theorem dX12_isRest_56 : decode cX12_isRest 56 = .ok (.iconst 1, 1) := by decide +kernel
theorem dX12_isRest_57 : decode cX12_isRest 57 = .ok (.invokevirtual 360, 3) := by decide +kernel
theorem dX12_isRest_60 : decode cX12_isRest 60 = .ok (.if_icmp .gt 7, 3) := by decide +kernel
theorem dX12_isRest_63 : decode cX12_isRest 63 = .ok (.iconst 1, 1) := by decide +kernel
theorem dX12_isRest_64 : decode cX12_isRest 64 = .ok (.goto 4, 3) := by decide +kernel
theorem dX12_isRest_67 : decode cX12_isRest 67 = .ok (.iconst 0, 1) := by decide +kernel
theorem dX12_isRest_68 : decode cX12_isRest 68 = .ok (.istore_n 3, 1) := by decide +kernel
theorem dX12_isRest_69 : decode cX12_isRest 69 = .ok (.iinc 4 1, 3) := by decide +kernel
theorem dX12_isRest_72 : decode cX12_isRest 72 = .ok (.goto (-67), 3) := by decide +kernel
theorem dX12_isRest_75 : decode cX12_isRest 75 = .ok (.iload_n 3, 1) := by decide +kernel
theorem dX12_isRest_76 : decode cX12_isRest 76 = .ok (.ireturn, 1) := by decide +kernel
theorem dX12_pull_0 : decode cX12_pull 0 = .ok (.aload_n 0, 1) := by decide +kernel
theorem dX12_pull_1 : decode cX12_pull 1 = .ok (.iload_n 1, 1) := by decide +kernel
theorem dX12_pull_2 : decode cX12_pull 2 = .ok (.invokevirtual 186, 3) := by decide +kernel
theorem dX12_pull_5 : decode cX12_pull 5 = .ok (.ifCond .eq 18, 3) := by decide +kernel
theorem dX12_pull_8 : decode cX12_pull 8 = .ok (.iload_n 2, 1) := by decide +kernel
theorem dX12_pull_9 : decode cX12_pull 9 = .ok (.iconst 1, 1) := by decide +kernel
theorem dX12_pull_10 : decode cX12_pull 10 = .ok (.bipush 12, 2) := by decide +kernel
theorem dX12_pull_12 : decode cX12_pull 12 = .ok (.invokestatic 109, 3) := by decide +kernel
theorem dX12_pull_15 : decode cX12_pull 15 = .ok (.ifCond .eq 8, 3) := by decide +kernel
theorem dX12_pull_18 : decode cX12_pull 18 = .ok (.iload_n 3, 1) := by decide +kernel
theorem dX12_pull_19 : decode cX12_pull 19 = .ok (.iconst (-1), 1) := by decide +kernel
theorem dX12_pull_20 : decode cX12_pull 20 = .ok (.if_icmp .ge 6, 3) := by decide +kernel
theorem dX12_pull_23 : decode cX12_pull 23 = .ok (.bipush (-2), 2) := by decide +kernel
theorem dX12_pull_25 : decode cX12_pull 25 = .ok (.ireturn, 1) := by decide +kernel
theorem dX12_pull_26 : decode cX12_pull 26 = .ok (.iconst 0, 1) := by decide +kernel
theorem dX12_pull_27 : decode cX12_pull 27 = .ok (.istore 4, 2) := by decide +kernel
theorem dX12_pull_29 : decode cX12_pull 29 = .ok (.iconst 0, 1) := by decide +kernel
theorem dX12_pull_30 : decode cX12_pull 30 = .ok (.istore 5, 2) := by decide +kernel
theorem dX12_pull_32 : decode cX12_pull 32 = .ok (.iload 5, 2) := by decide +kernel
theorem dX12_pull_34 : decode cX12_pull 34 = .ok (.bipush 9, 2) := by decide +kernel
theorem dX12_pull_36 : decode cX12_pull 36 = .ok (.if_icmp .ge 34, 3) := by decide +kernel
theorem dX12_pull_39 : decode cX12_pull 39 = .ok (.aload_n 0, 1) := by decide +kernel
theorem dX12_pull_40 : decode cX12_pull 40 = .ok (.iload_n 2, 1) := by decide +kernel
theorem dX12_pull_41 : decode cX12_pull 41 = .ok (.iload 5, 2) := by decide +kernel
theorem dX12_pull_43 : decode cX12_pull 43 = .ok (.invokevirtual 363, 3) := by decide +kernel
theorem dX12_pull_46 : decode cX12_pull 46 = .ok (.ifCond .ne 6, 3) := by decide +kernel
theorem dX12_pull_49 : decode cX12_pull 49 = .ok (.goto 15, 3) := by decide +kernel
theorem dX12_pull_52 : decode cX12_pull 52 = .ok (.iload 4, 2) := by decide +kernel
theorem dX12_pull_54 : decode cX12_pull 54 = .ok (.iload_n 3, 1) := by decide +kernel
theorem dX12_pull_55 : decode cX12_pull 55 = .ok (.if_icmp .ne 6, 3) := by decide +kernel
theorem dX12_pull_58 : decode cX12_pull 58 = .ok (.iload 5, 2) := by decide +kernel
theorem dX12_pull_60 : decode cX12_pull 60 = .ok (.ireturn, 1) := by decide +kernel
theorem dX12_pull_61 : decode cX12_pull 61 = .ok (.iinc 4 1, 3) := by decide +kernel
theorem dX12_pull_64 : decode cX12_pull 64 = .ok (.iinc 5 1, 3) := by decide +kernel
theorem dX12_pull_67 : decode cX12_pull 67 = .ok (.goto (-35), 3) := by decide +kernel
theorem dX12_pull_70 : decode cX12_pull 70 = .ok (.iload_n 3, 1) := by decide +kernel
theorem dX12_pull_71 : decode cX12_pull 71 = .ok (.iconst (-1), 1) := by decide +kernel
theorem dX12_pull_72 : decode cX12_pull 72 = .ok (.if_icmp .ne 8, 3) := by decide +kernel
theorem dX12_pull_75 : decode cX12_pull 75 = .ok (.iload 4, 2) := by decide +kernel
theorem dX12_pull_77 : decode cX12_pull 77 = .ok (.goto 5, 3) := by decide +kernel
theorem dX12_pull_80 : decode cX12_pull 80 = .ok (.bipush (-2), 2) := by decide +kernel
theorem dX12_pull_82 : decode cX12_pull 82 = .ok (.ireturn, 1) := by decide +kernel
theorem dX12_sights_0 : decode cX12_sights 0 = .ok (.aload_n 0, 1) := by decide +kernel
theorem dX12_sights_1 : decode cX12_sights 1 = .ok (.getfield 7, 3) := by decide +kernel
theorem dX12_sights_4 : decode cX12_sights 4 = .ok (.aload_n 0, 1) := by decide +kernel
theorem dX12_sights_5 : decode cX12_sights 5 = .ok (.getfield 366, 3) := by decide +kernel
theorem dX12_sights_8 : decode cX12_sights 8 = .ok (.iaload, 1) := by decide +kernel
theorem dX12_sights_9 : decode cX12_sights 9 = .ok (.ireturn, 1) := by decide +kernel
theorem dX12_sightOf_0 : decode cX12_sightOf 0 = .ok (.aload_n 0, 1) := by decide +kernel
theorem dX12_sightOf_1 : decode cX12_sightOf 1 = .ok (.getfield 7, 3) := by decide +kernel
theorem dX12_sightOf_4 : decode cX12_sightOf 4 = .ok (.aload_n 0, 1) := by decide +kernel
theorem dX12_sightOf_5 : decode cX12_sightOf 5 = .ok (.getfield 366, 3) := by decide +kernel
theorem dX12_sightOf_8 : decode cX12_sightOf 8 = .ok (.iconst 1, 1) := by decide +kernel
theorem dX12_sightOf_9 : decode cX12_sightOf 9 = .ok (.iadd, 1) := by decide +kernel
theorem dX12_sightOf_10 : decode cX12_sightOf 10 = .ok (.iconst 2, 1) := by decide +kernel
theorem dX12_sightOf_11 : decode cX12_sightOf 11 = .ok (.iload_n 1, 1) := by decide +kernel
theorem dX12_sightOf_12 : decode cX12_sightOf 12 = .ok (.imul, 1) := by decide +kernel
theorem dX12_sightOf_13 : decode cX12_sightOf 13 = .ok (.iadd, 1) := by decide +kernel
theorem dX12_sightOf_14 : decode cX12_sightOf 14 = .ok (.iload_n 2, 1) := by decide +kernel
theorem dX12_sightOf_15 : decode cX12_sightOf 15 = .ok (.iadd, 1) := by decide +kernel
theorem dX12_sightOf_16 : decode cX12_sightOf 16 = .ok (.iaload, 1) := by decide +kernel
theorem dX12_sightOf_17 : decode cX12_sightOf 17 = .ok (.ireturn, 1) := by decide +kernel
theorem dX12_sight_0 : decode cX12_sight 0 = .ok (.aload_n 0, 1) := by decide +kernel
theorem dX12_sight_1 : decode cX12_sight 1 = .ok (.iconst 2, 1) := by decide +kernel
theorem dX12_sight_2 : decode cX12_sight 2 = .ok (.iload_n 1, 1) := by decide +kernel
theorem dX12_sight_3 : decode cX12_sight 3 = .ok (.invokevirtual 144, 3) := by decide +kernel
theorem dX12_sight_6 : decode cX12_sight 6 = .ok (.ifCond .ne 6, 3) := by decide +kernel
theorem dX12_sight_9 : decode cX12_sight 9 = .ok (.bipush (-2), 2) := by decide +kernel
theorem dX12_sight_11 : decode cX12_sight 11 = .ok (.ireturn, 1) := by decide +kernel
theorem dX12_sight_12 : decode cX12_sight 12 = .ok (.aload_n 0, 1) := by decide +kernel
theorem dX12_sight_13 : decode cX12_sight 13 = .ok (.iconst 2, 1) := by decide +kernel
theorem dX12_sight_14 : decode cX12_sight 14 = .ok (.iload_n 1, 1) := by decide +kernel
theorem dX12_sight_15 : decode cX12_sight 15 = .ok (.invokestatic 174, 3) := by decide +kernel
theorem dX12_sight_18 : decode cX12_sight 18 = .ok (.putfield 366, 3) := by decide +kernel
theorem dX12_sight_21 : decode cX12_sight 21 = .ok (.iload_n 2, 1) := by decide +kernel
theorem dX12_sight_22 : decode cX12_sight 22 = .ok (.iconst (-1), 1) := by decide +kernel
theorem dX12_sight_23 : decode cX12_sight 23 = .ok (.if_icmp .ne 17, 3) := by decide +kernel
theorem dX12_sight_26 : decode cX12_sight 26 = .ok (.iload_n 3, 1) := by decide +kernel
theorem dX12_sight_27 : decode cX12_sight 27 = .ok (.ifCond .ne 10, 3) := by decide +kernel
theorem dX12_sight_30 : decode cX12_sight 30 = .ok (.aload_n 0, 1) := by decide +kernel
theorem dX12_sight_31 : decode cX12_sight 31 = .ok (.invokevirtual 369, 3) := by decide +kernel
theorem dX12_sight_34 : decode cX12_sight 34 = .ok (.goto 5, 3) := by decide +kernel
theorem dX12_sight_37 : decode cX12_sight 37 = .ok (.bipush (-2), 2) := by decide +kernel
theorem dX12_sight_39 : decode cX12_sight 39 = .ok (.ireturn, 1) := by decide +kernel
theorem dX12_sight_40 : decode cX12_sight 40 = .ok (.iload_n 2, 1) := by decide +kernel
theorem dX12_sight_41 : decode cX12_sight 41 = .ok (.iconst 0, 1) := by decide +kernel
theorem dX12_sight_42 : decode cX12_sight 42 = .ok (.aload_n 0, 1) := by decide +kernel
theorem dX12_sight_43 : decode cX12_sight 43 = .ok (.invokevirtual 369, 3) := by decide +kernel
theorem dX12_sight_46 : decode cX12_sight 46 = .ok (.iconst 1, 1) := by decide +kernel
theorem dX12_sight_47 : decode cX12_sight 47 = .ok (.isub, 1) := by decide +kernel
theorem dX12_sight_48 : decode cX12_sight 48 = .ok (.invokestatic 109, 3) := by decide +kernel
theorem dX12_sight_51 : decode cX12_sight 51 = .ok (.ifCond .eq 21, 3) := by decide +kernel
theorem dX12_sight_54 : decode cX12_sight 54 = .ok (.iload_n 3, 1) := by decide +kernel
theorem dX12_sight_55 : decode cX12_sight 55 = .ok (.iconst 0, 1) := by decide +kernel
theorem dX12_sight_56 : decode cX12_sight 56 = .ok (.iconst 1, 1) := by decide +kernel
theorem dX12_sight_57 : decode cX12_sight 57 = .ok (.invokestatic 109, 3) := by decide +kernel
theorem dX12_sight_60 : decode cX12_sight 60 = .ok (.ifCond .eq 12, 3) := by decide +kernel
theorem dX12_sight_63 : decode cX12_sight 63 = .ok (.aload_n 0, 1) := by decide +kernel
theorem dX12_sight_64 : decode cX12_sight 64 = .ok (.iload_n 2, 1) := by decide +kernel
theorem dX12_sight_65 : decode cX12_sight 65 = .ok (.iload_n 3, 1) := by decide +kernel
theorem dX12_sight_66 : decode cX12_sight 66 = .ok (.invokevirtual 372, 3) := by decide +kernel
theorem dX12_sight_69 : decode cX12_sight 69 = .ok (.goto 5, 3) := by decide +kernel
theorem dX12_sight_72 : decode cX12_sight 72 = .ok (.bipush (-2), 2) := by decide +kernel
theorem dX12_sight_74 : decode cX12_sight 74 = .ok (.ireturn, 1) := by decide +kernel
theorem dX12_adds0_0 : decode cX12_adds0 0 = .ok (.iconst 0, 1) := by decide +kernel
theorem dX12_adds0_1 : decode cX12_adds0 1 = .ok (.istore_n 2, 1) := by decide +kernel
theorem dX12_adds0_2 : decode cX12_adds0 2 = .ok (.iconst 0, 1) := by decide +kernel
theorem dX12_adds0_3 : decode cX12_adds0 3 = .ok (.istore_n 3, 1) := by decide +kernel
theorem dX12_adds0_4 : decode cX12_adds0 4 = .ok (.iload_n 3, 1) := by decide +kernel
theorem dX12_adds0_5 : decode cX12_adds0 5 = .ok (.aload_n 0, 1) := by decide +kernel
theorem dX12_adds0_6 : decode cX12_adds0 6 = .ok (.getfield 375, 3) := by decide +kernel
theorem dX12_adds0_9 : decode cX12_adds0 9 = .ok (.if_icmp .ge 29, 3) := by decide +kernel
theorem dX12_adds0_12 : decode cX12_adds0 12 = .ok (.iload_n 2, 1) := by decide +kernel
theorem dX12_adds0_13 : decode cX12_adds0 13 = .ok (.ifCond .ne 13, 3) := by decide +kernel
theorem dX12_adds0_16 : decode cX12_adds0 16 = .ok (.aload_n 0, 1) := by decide +kernel
theorem dX12_adds0_17 : decode cX12_adds0 17 = .ok (.getfield 44, 3) := by decide +kernel
theorem dX12_adds0_20 : decode cX12_adds0 20 = .ok (.iload_n 3, 1) := by decide +kernel
theorem dX12_adds0_21 : decode cX12_adds0 21 = .ok (.iaload, 1) := by decide +kernel
theorem dX12_adds0_22 : decode cX12_adds0 22 = .ok (.iload_n 1, 1) := by decide +kernel
theorem dX12_adds0_23 : decode cX12_adds0 23 = .ok (.if_icmp .ne 7, 3) := by decide +kernel
theorem dX12_adds0_26 : decode cX12_adds0 26 = .ok (.iconst 1, 1) := by decide +kernel
theorem dX12_adds0_27 : decode cX12_adds0 27 = .ok (.goto 4, 3) := by decide +kernel
theorem dX12_adds0_30 : decode cX12_adds0 30 = .ok (.iconst 0, 1) := by decide +kernel
theorem dX12_adds0_31 : decode cX12_adds0 31 = .ok (.istore_n 2, 1) := by decide +kernel
theorem dX12_adds0_32 : decode cX12_adds0 32 = .ok (.iinc 3 1, 3) := by decide +kernel
theorem dX12_adds0_35 : decode cX12_adds0 35 = .ok (.goto (-31), 3) := by decide +kernel
theorem dX12_adds0_38 : decode cX12_adds0 38 = .ok (.iload_n 2, 1) := by decide +kernel
theorem dX12_adds0_39 : decode cX12_adds0 39 = .ok (.ifCond .eq 4, 3) := by decide +kernel
theorem dX12_adds0_42 : decode cX12_adds0 42 = .ok (.return_, 1) := by decide +kernel
theorem dX12_adds0_43 : decode cX12_adds0 43 = .ok (.aload_n 0, 1) := by decide +kernel
theorem dX12_adds0_44 : decode cX12_adds0 44 = .ok (.getfield 44, 3) := by decide +kernel
theorem dX12_adds0_47 : decode cX12_adds0 47 = .ok (.aload_n 0, 1) := by decide +kernel
theorem dX12_adds0_48 : decode cX12_adds0 48 = .ok (.getfield 375, 3) := by decide +kernel
theorem dX12_adds0_51 : decode cX12_adds0 51 = .ok (.iload_n 1, 1) := by decide +kernel
theorem dX12_adds0_52 : decode cX12_adds0 52 = .ok (.iastore, 1) := by decide +kernel
theorem dX12_adds0_53 : decode cX12_adds0 53 = .ok (.aload_n 0, 1) := by decide +kernel
theorem dX12_adds0_54 : decode cX12_adds0 54 = .ok (.dup, 1) := by decide +kernel
theorem dX12_adds0_55 : decode cX12_adds0 55 = .ok (.getfield 375, 3) := by decide +kernel
theorem dX12_adds0_58 : decode cX12_adds0 58 = .ok (.iconst 1, 1) := by decide +kernel
theorem dX12_adds0_59 : decode cX12_adds0 59 = .ok (.iadd, 1) := by decide +kernel
theorem dX12_adds0_60 : decode cX12_adds0 60 = .ok (.putfield 375, 3) := by decide +kernel
theorem dX12_adds0_63 : decode cX12_adds0 63 = .ok (.return_, 1) := by decide +kernel
theorem dX12_areSeen_0 : decode cX12_areSeen 0 = .ok (.aload_n 0, 1) := by decide +kernel
theorem dX12_areSeen_1 : decode cX12_areSeen 1 = .ok (.iload_n 1, 1) := by decide +kernel
theorem dX12_areSeen_2 : decode cX12_areSeen 2 = .ok (.invokevirtual 186, 3) := by decide +kernel
theorem dX12_areSeen_5 : decode cX12_areSeen 5 = .ok (.ifCond .eq 12, 3) := by decide +kernel
theorem dX12_areSeen_8 : decode cX12_areSeen 8 = .ok (.aload_n 0, 1) := by decide +kernel
theorem dX12_areSeen_9 : decode cX12_areSeen 9 = .ok (.iconst 2, 1) := by decide +kernel
theorem dX12_areSeen_10 : decode cX12_areSeen 10 = .ok (.iload_n 2, 1) := by decide +kernel
theorem dX12_areSeen_11 : decode cX12_areSeen 11 = .ok (.invokevirtual 144, 3) := by decide +kernel
theorem dX12_areSeen_14 : decode cX12_areSeen 14 = .ok (.ifCond .ne 5, 3) := by decide +kernel
theorem dX12_areSeen_17 : decode cX12_areSeen 17 = .ok (.iconst 0, 1) := by decide +kernel
theorem dX12_areSeen_18 : decode cX12_areSeen 18 = .ok (.ireturn, 1) := by decide +kernel
theorem dX12_areSeen_19 : decode cX12_areSeen 19 = .ok (.aload_n 0, 1) := by decide +kernel
theorem dX12_areSeen_20 : decode cX12_areSeen 20 = .ok (.iconst 2, 1) := by decide +kernel
theorem dX12_areSeen_21 : decode cX12_areSeen 21 = .ok (.iload_n 2, 1) := by decide +kernel
theorem dX12_areSeen_22 : decode cX12_areSeen 22 = .ok (.invokestatic 174, 3) := by decide +kernel
theorem dX12_areSeen_25 : decode cX12_areSeen 25 = .ok (.putfield 366, 3) := by decide +kernel
theorem dX12_areSeen_28 : decode cX12_areSeen 28 = .ok (.aload_n 0, 1) := by decide +kernel
theorem dX12_areSeen_29 : decode cX12_areSeen 29 = .ok (.iconst 0, 1) := by decide +kernel
theorem dX12_areSeen_30 : decode cX12_areSeen 30 = .ok (.putfield 375, 3) := by decide +kernel
theorem dX12_areSeen_33 : decode cX12_areSeen 33 = .ok (.aload_n 0, 1) := by decide +kernel
theorem dX12_areSeen_34 : decode cX12_areSeen 34 = .ok (.iconst 0, 1) := by decide +kernel
theorem dX12_areSeen_35 : decode cX12_areSeen 35 = .ok (.invokevirtual 378, 3) := by decide +kernel
theorem dX12_areSeen_38 : decode cX12_areSeen 38 = .ok (.aload_n 0, 1) := by decide +kernel
theorem dX12_areSeen_39 : decode cX12_areSeen 39 = .ok (.aload_n 0, 1) := by decide +kernel
theorem dX12_areSeen_40 : decode cX12_areSeen 40 = .ok (.iconst 2, 1) := by decide +kernel
theorem dX12_areSeen_41 : decode cX12_areSeen 41 = .ok (.invokevirtual 180, 3) := by decide +kernel
theorem dX12_areSeen_44 : decode cX12_areSeen 44 = .ok (.iconst 1, 1) := by decide +kernel
theorem dX12_areSeen_45 : decode cX12_areSeen 45 = .ok (.isub, 1) := by decide +kernel
theorem dX12_areSeen_46 : decode cX12_areSeen 46 = .ok (.invokevirtual 378, 3) := by decide +kernel
theorem dX12_areSeen_49 : decode cX12_areSeen 49 = .ok (.aload_n 0, 1) := by decide +kernel
theorem dX12_areSeen_50 : decode cX12_areSeen 50 = .ok (.aload_n 0, 1) := by decide +kernel
theorem dX12_areSeen_51 : decode cX12_areSeen 51 = .ok (.iconst 2, 1) := by decide +kernel
theorem dX12_areSeen_52 : decode cX12_areSeen 52 = .ok (.invokevirtual 180, 3) := by decide +kernel
theorem dX12_areSeen_55 : decode cX12_areSeen 55 = .ok (.aload_n 0, 1) := by decide +kernel
theorem dX12_areSeen_56 : decode cX12_areSeen 56 = .ok (.iconst 3, 1) := by decide +kernel
theorem dX12_areSeen_57 : decode cX12_areSeen 57 = .ok (.invokevirtual 180, 3) := by decide +kernel
theorem dX12_areSeen_60 : decode cX12_areSeen 60 = .ok (.iconst 1, 1) := by decide +kernel
theorem dX12_areSeen_61 : decode cX12_areSeen 61 = .ok (.isub, 1) := by decide +kernel
theorem dX12_areSeen_62 : decode cX12_areSeen 62 = .ok (.imul, 1) := by decide +kernel
theorem dX12_areSeen_63 : decode cX12_areSeen 63 = .ok (.invokevirtual 378, 3) := by decide +kernel
theorem dX12_areSeen_66 : decode cX12_areSeen 66 = .ok (.aload_n 0, 1) := by decide +kernel
theorem dX12_areSeen_67 : decode cX12_areSeen 67 = .ok (.aload_n 0, 1) := by decide +kernel
theorem dX12_areSeen_68 : decode cX12_areSeen 68 = .ok (.invokevirtual 257, 3) := by decide +kernel
theorem dX12_areSeen_71 : decode cX12_areSeen 71 = .ok (.iconst 1, 1) := by decide +kernel
theorem dX12_areSeen_72 : decode cX12_areSeen 72 = .ok (.isub, 1) := by decide +kernel
theorem dX12_areSeen_73 : decode cX12_areSeen 73 = .ok (.invokevirtual 378, 3) := by decide +kernel
theorem dX12_areSeen_76 : decode cX12_areSeen 76 = .ok (.iconst 1, 1) := by decide +kernel
theorem dX12_areSeen_77 : decode cX12_areSeen 77 = .ok (.ireturn, 1) := by decide +kernel
theorem dX12_allWays_0 : decode cX12_allWays 0 = .ok (.iconst 1, 1) := by decide +kernel
theorem dX12_allWays_1 : decode cX12_allWays 1 = .ok (.istore_n 1, 1) := by decide +kernel
theorem dX12_allWays_2 : decode cX12_allWays 2 = .ok (.iconst 0, 1) := by decide +kernel
theorem dX12_allWays_3 : decode cX12_allWays 3 = .ok (.istore_n 2, 1) := by decide +kernel
theorem dX12_allWays_4 : decode cX12_allWays 4 = .ok (.iload_n 2, 1) := by decide +kernel
theorem dX12_allWays_5 : decode cX12_allWays 5 = .ok (.aload_n 0, 1) := by decide +kernel
theorem dX12_allWays_6 : decode cX12_allWays 6 = .ok (.invokevirtual 183, 3) := by decide +kernel
theorem dX12_allWays_9 : decode cX12_allWays 9 = .ok (.if_icmp .ge 18, 3) := by decide +kernel
theorem dX12_allWays_12 : decode cX12_allWays 12 = .ok (.iload_n 1, 1) := by decide +kernel
theorem dX12_allWays_13 : decode cX12_allWays 13 = .ok (.aload_n 0, 1) := by decide +kernel
theorem dX12_allWays_14 : decode cX12_allWays 14 = .ok (.getfield 375, 3) := by decide +kernel
theorem dX12_allWays_17 : decode cX12_allWays 17 = .ok (.iconst 1, 1) := by decide +kernel
theorem dX12_allWays_18 : decode cX12_allWays 18 = .ok (.iadd, 1) := by decide +kernel
theorem dX12_allWays_19 : decode cX12_allWays 19 = .ok (.imul, 1) := by decide +kernel
theorem dX12_allWays_20 : decode cX12_allWays 20 = .ok (.istore_n 1, 1) := by decide +kernel
theorem dX12_allWays_21 : decode cX12_allWays 21 = .ok (.iinc 2 1, 3) := by decide +kernel
theorem dX12_allWays_24 : decode cX12_allWays 24 = .ok (.goto (-20), 3) := by decide +kernel
theorem dX12_allWays_27 : decode cX12_allWays 27 = .ok (.iload_n 1, 1) := by decide +kernel
theorem dX12_allWays_28 : decode cX12_allWays 28 = .ok (.ireturn, 1) := by decide +kernel
theorem dX12_fitting_0 : decode cX12_fitting 0 = .ok (.aload_n 0, 1) := by decide +kernel
theorem dX12_fitting_1 : decode cX12_fitting 1 = .ok (.invokevirtual 295, 3) := by decide +kernel
theorem dX12_fitting_4 : decode cX12_fitting 4 = .ok (.iload_n 1, 1) := by decide +kernel
theorem dX12_fitting_5 : decode cX12_fitting 5 = .ok (.istore_n 2, 1) := by decide +kernel
theorem dX12_fitting_6 : decode cX12_fitting 6 = .ok (.iconst 0, 1) := by decide +kernel
theorem dX12_fitting_7 : decode cX12_fitting 7 = .ok (.istore_n 3, 1) := by decide +kernel
theorem dX12_fitting_8 : decode cX12_fitting 8 = .ok (.iload_n 3, 1) := by decide +kernel
theorem dX12_fitting_9 : decode cX12_fitting 9 = .ok (.aload_n 0, 1) := by decide +kernel
theorem dX12_fitting_10 : decode cX12_fitting 10 = .ok (.invokevirtual 183, 3) := by decide +kernel
theorem dX12_fitting_13 : decode cX12_fitting 13 = .ok (.if_icmp .ge 56, 3) := by decide +kernel
theorem dX12_fitting_16 : decode cX12_fitting 16 = .ok (.aload_n 0, 1) := by decide +kernel
theorem dX12_fitting_17 : decode cX12_fitting 17 = .ok (.getfield 20, 3) := by decide +kernel
theorem dX12_fitting_20 : decode cX12_fitting 20 = .ok (.iload_n 3, 1) := by decide +kernel
theorem dX12_fitting_21 : decode cX12_fitting 21 = .ok (.iload_n 2, 1) := by decide +kernel
theorem dX12_fitting_22 : decode cX12_fitting 22 = .ok (.aload_n 0, 1) := by decide +kernel
theorem dX12_fitting_23 : decode cX12_fitting 23 = .ok (.getfield 375, 3) := by decide +kernel
theorem dX12_fitting_26 : decode cX12_fitting 26 = .ok (.iconst 1, 1) := by decide +kernel
theorem dX12_fitting_27 : decode cX12_fitting 27 = .ok (.iadd, 1) := by decide +kernel
theorem dX12_fitting_28 : decode cX12_fitting 28 = .ok (.irem, 1) := by decide +kernel
theorem dX12_fitting_29 : decode cX12_fitting 29 = .ok (.aload_n 0, 1) := by decide +kernel
theorem dX12_fitting_30 : decode cX12_fitting 30 = .ok (.getfield 375, 3) := by decide +kernel
theorem dX12_fitting_33 : decode cX12_fitting 33 = .ok (.if_icmp .ne 7, 3) := by decide +kernel
theorem dX12_fitting_36 : decode cX12_fitting 36 = .ok (.iconst (-1), 1) := by decide +kernel
theorem dX12_fitting_37 : decode cX12_fitting 37 = .ok (.goto 16, 3) := by decide +kernel
theorem dX12_fitting_40 : decode cX12_fitting 40 = .ok (.aload_n 0, 1) := by decide +kernel
theorem dX12_fitting_41 : decode cX12_fitting 41 = .ok (.getfield 44, 3) := by decide +kernel
theorem dX12_fitting_44 : decode cX12_fitting 44 = .ok (.iload_n 2, 1) := by decide +kernel
theorem dX12_fitting_45 : decode cX12_fitting 45 = .ok (.aload_n 0, 1) := by decide +kernel
theorem dX12_fitting_46 : decode cX12_fitting 46 = .ok (.getfield 375, 3) := by decide +kernel
theorem dX12_fitting_49 : decode cX12_fitting 49 = .ok (.iconst 1, 1) := by decide +kernel
theorem dX12_fitting_50 : decode cX12_fitting 50 = .ok (.iadd, 1) := by decide +kernel
theorem dX12_fitting_51 : decode cX12_fitting 51 = .ok (.irem, 1) := by decide +kernel
theorem dX12_fitting_52 : decode cX12_fitting 52 = .ok (.iaload, 1) := by decide +kernel
theorem dX12_fitting_53 : decode cX12_fitting 53 = .ok (.iastore, 1) := by decide +kernel
theorem dX12_fitting_54 : decode cX12_fitting 54 = .ok (.iload_n 2, 1) := by decide +kernel
theorem dX12_fitting_55 : decode cX12_fitting 55 = .ok (.aload_n 0, 1) := by decide +kernel
theorem dX12_fitting_56 : decode cX12_fitting 56 = .ok (.getfield 375, 3) := by decide +kernel
theorem dX12_fitting_59 : decode cX12_fitting 59 = .ok (.iconst 1, 1) := by decide +kernel
theorem dX12_fitting_60 : decode cX12_fitting 60 = .ok (.iadd, 1) := by decide +kernel
theorem dX12_fitting_61 : decode cX12_fitting 61 = .ok (.idiv, 1) := by decide +kernel
theorem dX12_fitting_62 : decode cX12_fitting 62 = .ok (.istore_n 2, 1) := by decide +kernel
theorem dX12_fitting_63 : decode cX12_fitting 63 = .ok (.iinc 3 1, 3) := by decide +kernel
theorem dX12_fitting_66 : decode cX12_fitting 66 = .ok (.goto (-58), 3) := by decide +kernel
theorem dX12_fitting_69 : decode cX12_fitting 69 = .ok (.iconst 0, 1) := by decide +kernel
theorem dX12_fitting_70 : decode cX12_fitting 70 = .ok (.istore_n 3, 1) := by decide +kernel
theorem dX12_fitting_71 : decode cX12_fitting 71 = .ok (.iconst 1, 1) := by decide +kernel
theorem dX12_fitting_72 : decode cX12_fitting 72 = .ok (.istore 4, 2) := by decide +kernel
theorem dX12_fitting_74 : decode cX12_fitting 74 = .ok (.iload 4, 2) := by decide +kernel
theorem dX12_fitting_76 : decode cX12_fitting 76 = .ok (.ifCond .eq 65, 3) := by decide +kernel
theorem dX12_fitting_79 : decode cX12_fitting 79 = .ok (.iload_n 3, 1) := by decide +kernel
theorem dX12_fitting_80 : decode cX12_fitting 80 = .ok (.aload_n 0, 1) := by decide +kernel
theorem dX12_fitting_81 : decode cX12_fitting 81 = .ok (.invokevirtual 369, 3) := by decide +kernel
theorem dX12_fitting_84 : decode cX12_fitting 84 = .ok (.if_icmp .ge 57, 3) := by decide +kernel
theorem dX12_fitting_87 : decode cX12_fitting 87 = .ok (.aload_n 0, 1) := by decide +kernel
theorem dX12_fitting_88 : decode cX12_fitting 88 = .ok (.iconst 0, 1) := by decide +kernel
theorem dX12_fitting_89 : decode cX12_fitting 89 = .ok (.invokevirtual 291, 3) := by decide +kernel
theorem dX12_fitting_92 : decode cX12_fitting 92 = .ok (.aload_n 0, 1) := by decide +kernel
theorem dX12_fitting_93 : decode cX12_fitting 93 = .ok (.getfield 218, 3) := by decide +kernel
theorem dX12_fitting_96 : decode cX12_fitting 96 = .ok (.aload_n 0, 1) := by decide +kernel
theorem dX12_fitting_97 : decode cX12_fitting 97 = .ok (.iload_n 3, 1) := by decide +kernel
theorem dX12_fitting_98 : decode cX12_fitting 98 = .ok (.iconst 0, 1) := by decide +kernel
theorem dX12_fitting_99 : decode cX12_fitting 99 = .ok (.invokevirtual 372, 3) := by decide +kernel
theorem dX12_fitting_102 : decode cX12_fitting 102 = .ok (.if_icmp .ne 20, 3) := by decide +kernel
theorem dX12_fitting_105 : decode cX12_fitting 105 = .ok (.aload_n 0, 1) := by decide +kernel
theorem dX12_fitting_106 : decode cX12_fitting 106 = .ok (.getfield 221, 3) := by decide +kernel
theorem dX12_fitting_109 : decode cX12_fitting 109 = .ok (.aload_n 0, 1) := by decide +kernel
theorem dX12_fitting_110 : decode cX12_fitting 110 = .ok (.iload_n 3, 1) := by decide +kernel
theorem dX12_fitting_111 : decode cX12_fitting 111 = .ok (.iconst 1, 1) := by decide +kernel
theorem dX12_fitting_112 : decode cX12_fitting 112 = .ok (.invokevirtual 372, 3) := by decide +kernel
theorem dX12_fitting_115 : decode cX12_fitting 115 = .ok (.if_icmp .ne 7, 3) := by decide +kernel
theorem dX12_fitting_118 : decode cX12_fitting 118 = .ok (.iconst 1, 1) := by decide +kernel
theorem dX12_fitting_119 : decode cX12_fitting 119 = .ok (.goto 4, 3) := by decide +kernel
theorem dX12_fitting_122 : decode cX12_fitting 122 = .ok (.iconst 0, 1) := by decide +kernel
theorem dX12_fitting_123 : decode cX12_fitting 123 = .ok (.istore 4, 2) := by decide +kernel
theorem dX12_fitting_125 : decode cX12_fitting 125 = .ok (.iload_n 3, 1) := by decide +kernel
theorem dX12_fitting_126 : decode cX12_fitting 126 = .ok (.iload 4, 2) := by decide +kernel
theorem dX12_fitting_128 : decode cX12_fitting 128 = .ok (.ifCond .eq 7, 3) := by decide +kernel
theorem dX12_fitting_131 : decode cX12_fitting 131 = .ok (.iconst 1, 1) := by decide +kernel
theorem dX12_fitting_132 : decode cX12_fitting 132 = .ok (.goto 4, 3) := by decide +kernel
theorem dX12_fitting_135 : decode cX12_fitting 135 = .ok (.iconst 0, 1) := by decide +kernel
theorem dX12_fitting_136 : decode cX12_fitting 136 = .ok (.iadd, 1) := by decide +kernel
theorem dX12_fitting_137 : decode cX12_fitting 137 = .ok (.istore_n 3, 1) := by decide +kernel
theorem dX12_fitting_138 : decode cX12_fitting 138 = .ok (.goto (-64), 3) := by decide +kernel
theorem dX12_fitting_141 : decode cX12_fitting 141 = .ok (.iload_n 3, 1) := by decide +kernel
theorem dX12_fitting_142 : decode cX12_fitting 142 = .ok (.ireturn, 1) := by decide +kernel
theorem dX12_aboard_0 : decode cX12_aboard 0 = .ok (.iconst 0, 1) := by decide +kernel
theorem dX12_aboard_1 : decode cX12_aboard 1 = .ok (.istore_n 1, 1) := by decide +kernel
theorem dX12_aboard_2 : decode cX12_aboard 2 = .ok (.iconst 0, 1) := by decide +kernel
theorem dX12_aboard_3 : decode cX12_aboard 3 = .ok (.istore_n 2, 1) := by decide +kernel
theorem dX12_aboard_4 : decode cX12_aboard 4 = .ok (.iload_n 2, 1) := by decide +kernel
theorem dX12_aboard_5 : decode cX12_aboard 5 = .ok (.aload_n 0, 1) := by decide +kernel
theorem dX12_aboard_6 : decode cX12_aboard 6 = .ok (.invokevirtual 183, 3) := by decide +kernel
theorem dX12_aboard_9 : decode cX12_aboard 9 = .ok (.if_icmp .ge 29, 3) := by decide +kernel
theorem dX12_aboard_12 : decode cX12_aboard 12 = .ok (.iload_n 1, 1) := by decide +kernel
theorem dX12_aboard_13 : decode cX12_aboard 13 = .ok (.aload_n 0, 1) := by decide +kernel
theorem dX12_aboard_14 : decode cX12_aboard 14 = .ok (.getfield 20, 3) := by decide +kernel
theorem dX12_aboard_17 : decode cX12_aboard 17 = .ok (.iload_n 2, 1) := by decide +kernel
theorem dX12_aboard_18 : decode cX12_aboard 18 = .ok (.iaload, 1) := by decide +kernel
theorem dX12_aboard_19 : decode cX12_aboard 19 = .ok (.iconst (-1), 1) := by decide +kernel
theorem dX12_aboard_20 : decode cX12_aboard 20 = .ok (.if_icmp .eq 9, 3) := by decide +kernel
theorem dX12_aboard_23 : decode cX12_aboard 23 = .ok (.iconst 1, 1) := by decide +kernel
theorem dX12_aboard_24 : decode cX12_aboard 24 = .ok (.iload_n 2, 1) := by decide +kernel
theorem dX12_aboard_25 : decode cX12_aboard 25 = .ok (.ishl, 1) := by decide +kernel
theorem dX12_aboard_26 : decode cX12_aboard 26 = .ok (.goto 4, 3) := by decide +kernel
theorem dX12_aboard_29 : decode cX12_aboard 29 = .ok (.iconst 0, 1) := by decide +kernel
theorem dX12_aboard_30 : decode cX12_aboard 30 = .ok (.ior, 1) := by decide +kernel
theorem dX12_aboard_31 : decode cX12_aboard 31 = .ok (.istore_n 1, 1) := by decide +kernel
theorem dX12_aboard_32 : decode cX12_aboard 32 = .ok (.iinc 2 1, 3) := by decide +kernel
theorem dX12_aboard_35 : decode cX12_aboard 35 = .ok (.goto (-31), 3) := by decide +kernel
theorem dX12_aboard_38 : decode cX12_aboard 38 = .ok (.iload_n 1, 1) := by decide +kernel
theorem dX12_aboard_39 : decode cX12_aboard 39 = .ok (.ireturn, 1) := by decide +kernel
theorem dX12_bits_0 : decode cX12_bits 0 = .ok (.iconst 0, 1) := by decide +kernel
theorem dX12_bits_1 : decode cX12_bits 1 = .ok (.istore_n 1, 1) := by decide +kernel
theorem dX12_bits_2 : decode cX12_bits 2 = .ok (.iconst 0, 1) := by decide +kernel
theorem dX12_bits_3 : decode cX12_bits 3 = .ok (.istore_n 2, 1) := by decide +kernel
theorem dX12_bits_4 : decode cX12_bits 4 = .ok (.iload_n 2, 1) := by decide +kernel
theorem dX12_bits_5 : decode cX12_bits 5 = .ok (.bipush 31, 2) := by decide +kernel
theorem dX12_bits_7 : decode cX12_bits 7 = .ok (.if_icmp .ge 17, 3) := by decide +kernel
theorem dX12_bits_10 : decode cX12_bits 10 = .ok (.iload_n 1, 1) := by decide +kernel
theorem dX12_bits_11 : decode cX12_bits 11 = .ok (.iload_n 0, 1) := by decide +kernel
theorem dX12_bits_12 : decode cX12_bits 12 = .ok (.iload_n 2, 1) := by decide +kernel
theorem dX12_bits_13 : decode cX12_bits 13 = .ok (.ishr, 1) := by decide +kernel
theorem dX12_bits_14 : decode cX12_bits 14 = .ok (.iconst 1, 1) := by decide +kernel
theorem dX12_bits_15 : decode cX12_bits 15 = .ok (.iand, 1) := by decide +kernel
theorem dX12_bits_16 : decode cX12_bits 16 = .ok (.iadd, 1) := by decide +kernel
theorem dX12_bits_17 : decode cX12_bits 17 = .ok (.istore_n 1, 1) := by decide +kernel
theorem dX12_bits_18 : decode cX12_bits 18 = .ok (.iinc 2 1, 3) := by decide +kernel
theorem dX12_bits_21 : decode cX12_bits 21 = .ok (.goto (-17), 3) := by decide +kernel
theorem dX12_bits_24 : decode cX12_bits 24 = .ok (.iload_n 1, 1) := by decide +kernel
theorem dX12_bits_25 : decode cX12_bits 25 = .ok (.ireturn, 1) := by decide +kernel
theorem dX12_stood_0 : decode cX12_stood 0 = .ok (.aload_n 0, 1) := by decide +kernel
theorem dX12_stood_1 : decode cX12_stood 1 = .ok (.iload_n 1, 1) := by decide +kernel
theorem dX12_stood_2 : decode cX12_stood 2 = .ok (.iload_n 2, 1) := by decide +kernel
theorem dX12_stood_3 : decode cX12_stood 3 = .ok (.invokevirtual 381, 3) := by decide +kernel
theorem dX12_stood_6 : decode cX12_stood 6 = .ok (.ifCond .eq 12, 3) := by decide +kernel
theorem dX12_stood_9 : decode cX12_stood 9 = .ok (.iload_n 3, 1) := by decide +kernel
theorem dX12_stood_10 : decode cX12_stood 10 = .ok (.iconst 0, 1) := by decide +kernel
theorem dX12_stood_11 : decode cX12_stood 11 = .ok (.iconst 3, 1) := by decide +kernel
theorem dX12_stood_12 : decode cX12_stood 12 = .ok (.invokestatic 109, 3) := by decide +kernel
theorem dX12_stood_15 : decode cX12_stood 15 = .ok (.ifCond .ne 6, 3) := by decide +kernel
theorem dX12_stood_18 : decode cX12_stood 18 = .ok (.bipush (-2), 2) := by decide +kernel
theorem dX12_stood_20 : decode cX12_stood 20 = .ok (.ireturn, 1) := by decide +kernel
theorem dX12_stood_21 : decode cX12_stood 21 = .ok (.iconst 0, 1) := by decide +kernel
theorem dX12_stood_22 : decode cX12_stood 22 = .ok (.istore 4, 2) := by decide +kernel
theorem dX12_stood_24 : decode cX12_stood 24 = .ok (.iconst 1, 1) := by decide +kernel
theorem dX12_stood_25 : decode cX12_stood 25 = .ok (.aload_n 0, 1) := by decide +kernel
theorem dX12_stood_26 : decode cX12_stood 26 = .ok (.invokevirtual 183, 3) := by decide +kernel
theorem dX12_stood_29 : decode cX12_stood 29 = .ok (.ishl, 1) := by decide +kernel
theorem dX12_stood_30 : decode cX12_stood 30 = .ok (.iconst 1, 1) := by decide +kernel
theorem dX12_stood_31 : decode cX12_stood 31 = .ok (.isub, 1) := by decide +kernel
theorem dX12_stood_32 : decode cX12_stood 32 = .ok (.istore 5, 2) := by decide +kernel
theorem dX12_stood_34 : decode cX12_stood 34 = .ok (.iconst (-1), 1) := by decide +kernel
theorem dX12_stood_35 : decode cX12_stood 35 = .ok (.istore 6, 2) := by decide +kernel
theorem dX12_stood_37 : decode cX12_stood 37 = .ok (.iconst 0, 1) := by decide +kernel
theorem dX12_stood_38 : decode cX12_stood 38 = .ok (.istore 7, 2) := by decide +kernel
theorem dX12_stood_40 : decode cX12_stood 40 = .ok (.iconst 0, 1) := by decide +kernel
theorem dX12_stood_41 : decode cX12_stood 41 = .ok (.istore 8, 2) := by decide +kernel
theorem dX12_stood_43 : decode cX12_stood 43 = .ok (.iload 8, 2) := by decide +kernel
theorem dX12_stood_45 : decode cX12_stood 45 = .ok (.aload_n 0, 1) := by decide +kernel
theorem dX12_stood_46 : decode cX12_stood 46 = .ok (.invokevirtual 384, 3) := by decide +kernel
theorem dX12_stood_49 : decode cX12_stood 49 = .ok (.if_icmp .ge 88, 3) := by decide +kernel
theorem dX12_stood_52 : decode cX12_stood 52 = .ok (.aload_n 0, 1) := by decide +kernel
theorem dX12_stood_53 : decode cX12_stood 53 = .ok (.iload 8, 2) := by decide +kernel
theorem dX12_stood_55 : decode cX12_stood 55 = .ok (.invokevirtual 387, 3) := by decide +kernel
theorem dX12_stood_58 : decode cX12_stood 58 = .ok (.istore 9, 2) := by decide +kernel
theorem dX12_stood_60 : decode cX12_stood 60 = .ok (.iload 9, 2) := by decide +kernel
theorem dX12_stood_62 : decode cX12_stood 62 = .ok (.iload 7, 2) := by decide +kernel
theorem dX12_stood_64 : decode cX12_stood 64 = .ok (.if_icmp .le 8, 3) := by decide +kernel
theorem dX12_stood_67 : decode cX12_stood 67 = .ok (.iload 9, 2) := by decide +kernel
theorem dX12_stood_69 : decode cX12_stood 69 = .ok (.goto 5, 3) := by decide +kernel
theorem dX12_stood_72 : decode cX12_stood 72 = .ok (.iload 7, 2) := by decide +kernel
theorem dX12_stood_74 : decode cX12_stood 74 = .ok (.istore 7, 2) := by decide +kernel
theorem dX12_stood_76 : decode cX12_stood 76 = .ok (.iload 9, 2) := by decide +kernel
theorem dX12_stood_78 : decode cX12_stood 78 = .ok (.aload_n 0, 1) := by decide +kernel
theorem dX12_stood_79 : decode cX12_stood 79 = .ok (.invokevirtual 369, 3) := by decide +kernel
theorem dX12_stood_82 : decode cX12_stood 82 = .ok (.if_icmp .ge 6, 3) := by decide +kernel
theorem dX12_stood_85 : decode cX12_stood 85 = .ok (.goto 46, 3) := by decide +kernel
theorem dX12_stood_88 : decode cX12_stood 88 = .ok (.iinc 4 1, 3) := by decide +kernel
theorem dX12_stood_91 : decode cX12_stood 91 = .ok (.iload 5, 2) := by decide +kernel
theorem dX12_stood_93 : decode cX12_stood 93 = .ok (.aload_n 0, 1) := by decide +kernel
theorem dX12_stood_94 : decode cX12_stood 94 = .ok (.invokevirtual 390, 3) := by decide +kernel
theorem dX12_stood_97 : decode cX12_stood 97 = .ok (.iand, 1) := by decide +kernel
theorem dX12_stood_98 : decode cX12_stood 98 = .ok (.istore 5, 2) := by decide +kernel
theorem dX12_stood_100 : decode cX12_stood 100 = .ok (.iload 6, 2) := by decide +kernel
theorem dX12_stood_102 : decode cX12_stood 102 = .ok (.ifCond .lt 15, 3) := by decide +kernel
theorem dX12_stood_105 : decode cX12_stood 105 = .ok (.aload_n 0, 1) := by decide +kernel
theorem dX12_stood_106 : decode cX12_stood 106 = .ok (.invokevirtual 390, 3) := by decide +kernel
theorem dX12_stood_109 : decode cX12_stood 109 = .ok (.invokestatic 393, 3) := by decide +kernel
theorem dX12_stood_112 : decode cX12_stood 112 = .ok (.iload 6, 2) := by decide +kernel
theorem dX12_stood_114 : decode cX12_stood 114 = .ok (.if_icmp .ge 13, 3) := by decide +kernel
theorem dX12_stood_117 : decode cX12_stood 117 = .ok (.aload_n 0, 1) := by decide +kernel
theorem dX12_stood_118 : decode cX12_stood 118 = .ok (.invokevirtual 390, 3) := by decide +kernel
theorem dX12_stood_121 : decode cX12_stood 121 = .ok (.invokestatic 393, 3) := by decide +kernel
theorem dX12_stood_124 : decode cX12_stood 124 = .ok (.goto 5, 3) := by decide +kernel
theorem dX12_stood_127 : decode cX12_stood 127 = .ok (.iload 6, 2) := by decide +kernel
theorem dX12_stood_129 : decode cX12_stood 129 = .ok (.istore 6, 2) := by decide +kernel
theorem dX12_stood_131 : decode cX12_stood 131 = .ok (.iinc 8 1, 3) := by decide +kernel
theorem dX12_stood_134 : decode cX12_stood 134 = .ok (.goto (-91), 3) := by decide +kernel
theorem dX12_stood_137 : decode cX12_stood 137 = .ok (.iload_n 3, 1) := by decide +kernel
theorem dX12_stood_138 : decode cX12_stood 138 = .ok (.ifCond .ne 8, 3) := by decide +kernel
theorem dX12_stood_141 : decode cX12_stood 141 = .ok (.iload 4, 2) := by decide +kernel
theorem dX12_stood_143 : decode cX12_stood 143 = .ok (.goto 34, 3) := by decide +kernel
theorem dX12_stood_146 : decode cX12_stood 146 = .ok (.iload_n 3, 1) := by decide +kernel
theorem dX12_stood_147 : decode cX12_stood 147 = .ok (.iconst 1, 1) := by decide +kernel
theorem dX12_stood_148 : decode cX12_stood 148 = .ok (.if_icmp .ne 17, 3) := by decide +kernel
theorem dX12_stood_151 : decode cX12_stood 151 = .ok (.iload 4, 2) := by decide +kernel
theorem dX12_stood_153 : decode cX12_stood 153 = .ok (.ifCond .ne 7, 3) := by decide +kernel
theorem dX12_stood_156 : decode cX12_stood 156 = .ok (.iconst 0, 1) := by decide +kernel
theorem dX12_stood_157 : decode cX12_stood 157 = .ok (.goto 20, 3) := by decide +kernel
theorem dX12_stood_160 : decode cX12_stood 160 = .ok (.iload 5, 2) := by decide +kernel
theorem dX12_stood_162 : decode cX12_stood 162 = .ok (.goto 15, 3) := by decide +kernel
theorem dX12_stood_165 : decode cX12_stood 165 = .ok (.iload_n 3, 1) := by decide +kernel
theorem dX12_stood_166 : decode cX12_stood 166 = .ok (.iconst 2, 1) := by decide +kernel
theorem dX12_stood_167 : decode cX12_stood 167 = .ok (.if_icmp .ne 8, 3) := by decide +kernel
theorem dX12_stood_170 : decode cX12_stood 170 = .ok (.iload 6, 2) := by decide +kernel
theorem dX12_stood_172 : decode cX12_stood 172 = .ok (.goto 5, 3) := by decide +kernel
theorem dX12_stood_175 : decode cX12_stood 175 = .ok (.iload 7, 2) := by decide +kernel
theorem dX12_stood_177 : decode cX12_stood 177 = .ok (.ireturn, 1) := by decide +kernel
theorem dX12_corner_0 : decode cX12_corner 0 = .ok (.aload_n 0, 1) := by decide +kernel
theorem dX12_corner_1 : decode cX12_corner 1 = .ok (.iload_n 1, 1) := by decide +kernel
theorem dX12_corner_2 : decode cX12_corner 2 = .ok (.iload_n 2, 1) := by decide +kernel
theorem dX12_corner_3 : decode cX12_corner 3 = .ok (.invokevirtual 381, 3) := by decide +kernel
theorem dX12_corner_6 : decode cX12_corner 6 = .ok (.ifCond .eq 11, 3) := by decide +kernel
theorem dX12_corner_9 : decode cX12_corner 9 = .ok (.aload_n 0, 1) := by decide +kernel
theorem dX12_corner_10 : decode cX12_corner 10 = .ok (.iload_n 3, 1) := by decide +kernel
theorem dX12_corner_11 : decode cX12_corner 11 = .ok (.invokevirtual 285, 3) := by decide +kernel
theorem dX12_corner_14 : decode cX12_corner 14 = .ok (.ifCond .ne 5, 3) := by decide +kernel
theorem dX12_corner_17 : decode cX12_corner 17 = .ok (.iconst (-1), 1) := by decide +kernel
theorem dX12_corner_18 : decode cX12_corner 18 = .ok (.ireturn, 1) := by decide +kernel
theorem dX12_corner_19 : decode cX12_corner 19 = .ok (.iload 4, 2) := by decide +kernel
theorem dX12_corner_21 : decode cX12_corner 21 = .ok (.iconst (-1), 1) := by decide +kernel
theorem dX12_corner_22 : decode cX12_corner 22 = .ok (.if_icmp .ne 7, 3) := by decide +kernel
theorem dX12_corner_25 : decode cX12_corner 25 = .ok (.iconst 1, 1) := by decide +kernel
theorem dX12_corner_26 : decode cX12_corner 26 = .ok (.goto 4, 3) := by decide +kernel
theorem dX12_corner_29 : decode cX12_corner 29 = .ok (.iconst 0, 1) := by decide +kernel
theorem dX12_corner_30 : decode cX12_corner 30 = .ok (.istore 5, 2) := by decide +kernel
theorem dX12_corner_32 : decode cX12_corner 32 = .ok (.iconst 0, 1) := by decide +kernel
theorem dX12_corner_33 : decode cX12_corner 33 = .ok (.istore 6, 2) := by decide +kernel
theorem dX12_corner_35 : decode cX12_corner 35 = .ok (.iload 6, 2) := by decide +kernel
theorem dX12_corner_37 : decode cX12_corner 37 = .ok (.aload_n 0, 1) := by decide +kernel
theorem dX12_corner_38 : decode cX12_corner 38 = .ok (.getfield 375, 3) := by decide +kernel
theorem dX12_corner_41 : decode cX12_corner 41 = .ok (.if_icmp .ge 33, 3) := by decide +kernel
theorem dX12_corner_44 : decode cX12_corner 44 = .ok (.iload 5, 2) := by decide +kernel
theorem dX12_corner_46 : decode cX12_corner 46 = .ok (.ifCond .ne 15, 3) := by decide +kernel
theorem dX12_corner_49 : decode cX12_corner 49 = .ok (.aload_n 0, 1) := by decide +kernel
theorem dX12_corner_50 : decode cX12_corner 50 = .ok (.getfield 44, 3) := by decide +kernel
theorem dX12_corner_53 : decode cX12_corner 53 = .ok (.iload 6, 2) := by decide +kernel
theorem dX12_corner_55 : decode cX12_corner 55 = .ok (.iaload, 1) := by decide +kernel
theorem dX12_corner_56 : decode cX12_corner 56 = .ok (.iload 4, 2) := by decide +kernel
theorem dX12_corner_58 : decode cX12_corner 58 = .ok (.if_icmp .ne 7, 3) := by decide +kernel
theorem dX12_corner_61 : decode cX12_corner 61 = .ok (.iconst 1, 1) := by decide +kernel
theorem dX12_corner_62 : decode cX12_corner 62 = .ok (.goto 4, 3) := by decide +kernel
theorem dX12_corner_65 : decode cX12_corner 65 = .ok (.iconst 0, 1) := by decide +kernel
theorem dX12_corner_66 : decode cX12_corner 66 = .ok (.istore 5, 2) := by decide +kernel
theorem dX12_corner_68 : decode cX12_corner 68 = .ok (.iinc 6 1, 3) := by decide +kernel
theorem dX12_corner_71 : decode cX12_corner 71 = .ok (.goto (-36), 3) := by decide +kernel
theorem dX12_corner_74 : decode cX12_corner 74 = .ok (.iload 5, 2) := by decide +kernel
theorem dX12_corner_76 : decode cX12_corner 76 = .ok (.ifCond .ne 5, 3) := by decide +kernel
theorem dX12_corner_79 : decode cX12_corner 79 = .ok (.iconst (-1), 1) := by decide +kernel
theorem dX12_corner_80 : decode cX12_corner 80 = .ok (.ireturn, 1) := by decide +kernel
theorem dX12_corner_81 : decode cX12_corner 81 = .ok (.iconst 0, 1) := by decide +kernel
theorem dX12_corner_82 : decode cX12_corner 82 = .ok (.istore 6, 2) := by decide +kernel
theorem dX12_corner_84 : decode cX12_corner 84 = .ok (.iconst 0, 1) := by decide +kernel
theorem dX12_corner_85 : decode cX12_corner 85 = .ok (.istore 7, 2) := by decide +kernel
theorem dX12_corner_87 : decode cX12_corner 87 = .ok (.iload 7, 2) := by decide +kernel
theorem dX12_corner_89 : decode cX12_corner 89 = .ok (.aload_n 0, 1) := by decide +kernel
theorem dX12_corner_90 : decode cX12_corner 90 = .ok (.invokevirtual 384, 3) := by decide +kernel
theorem dX12_corner_93 : decode cX12_corner 93 = .ok (.if_icmp .ge 43, 3) := by decide +kernel
theorem dX12_corner_96 : decode cX12_corner 96 = .ok (.iload 6, 2) := by decide +kernel
theorem dX12_corner_98 : decode cX12_corner 98 = .ok (.aload_n 0, 1) := by decide +kernel
theorem dX12_corner_99 : decode cX12_corner 99 = .ok (.iload 7, 2) := by decide +kernel
theorem dX12_corner_101 : decode cX12_corner 101 = .ok (.invokevirtual 387, 3) := by decide +kernel
theorem dX12_corner_104 : decode cX12_corner 104 = .ok (.aload_n 0, 1) := by decide +kernel
theorem dX12_corner_105 : decode cX12_corner 105 = .ok (.invokevirtual 369, 3) := by decide +kernel
theorem dX12_corner_108 : decode cX12_corner 108 = .ok (.if_icmp .ne 18, 3) := by decide +kernel
theorem dX12_corner_111 : decode cX12_corner 111 = .ok (.aload_n 0, 1) := by decide +kernel
theorem dX12_corner_112 : decode cX12_corner 112 = .ok (.getfield 20, 3) := by decide +kernel
theorem dX12_corner_115 : decode cX12_corner 115 = .ok (.iload_n 3, 1) := by decide +kernel
theorem dX12_corner_116 : decode cX12_corner 116 = .ok (.iaload, 1) := by decide +kernel
theorem dX12_corner_117 : decode cX12_corner 117 = .ok (.iload 4, 2) := by decide +kernel
theorem dX12_corner_119 : decode cX12_corner 119 = .ok (.if_icmp .ne 7, 3) := by decide +kernel
theorem dX12_corner_122 : decode cX12_corner 122 = .ok (.iconst 1, 1) := by decide +kernel
theorem dX12_corner_123 : decode cX12_corner 123 = .ok (.goto 4, 3) := by decide +kernel
theorem dX12_corner_126 : decode cX12_corner 126 = .ok (.iconst 0, 1) := by decide +kernel
theorem dX12_corner_127 : decode cX12_corner 127 = .ok (.iadd, 1) := by decide +kernel
theorem dX12_corner_128 : decode cX12_corner 128 = .ok (.istore 6, 2) := by decide +kernel
theorem dX12_corner_130 : decode cX12_corner 130 = .ok (.iinc 7 1, 3) := by decide +kernel
theorem dX12_corner_133 : decode cX12_corner 133 = .ok (.goto (-46), 3) := by decide +kernel
theorem dX12_corner_136 : decode cX12_corner 136 = .ok (.iload 6, 2) := by decide +kernel
theorem dX12_corner_138 : decode cX12_corner 138 = .ok (.ireturn, 1) := by decide +kernel
theorem dX12_dead_0 : decode cX12_dead 0 = .ok (.aload_n 0, 1) := by decide +kernel
theorem dX12_dead_1 : decode cX12_dead 1 = .ok (.iconst 3, 1) := by decide +kernel
theorem dX12_dead_2 : decode cX12_dead 2 = .ok (.iload_n 1, 1) := by decide +kernel
theorem dX12_dead_3 : decode cX12_dead 3 = .ok (.invokevirtual 144, 3) := by decide +kernel
theorem dX12_dead_6 : decode cX12_dead 6 = .ok (.ifCond .ne 6, 3) := by decide +kernel
theorem dX12_dead_9 : decode cX12_dead 9 = .ok (.bipush (-2), 2) := by decide +kernel
theorem dX12_dead_11 : decode cX12_dead 11 = .ok (.ireturn, 1) := by decide +kernel
theorem dX12_dead_12 : decode cX12_dead 12 = .ok (.aload_n 0, 1) := by decide +kernel
theorem dX12_dead_13 : decode cX12_dead 13 = .ok (.iconst 3, 1) := by decide +kernel
theorem dX12_dead_14 : decode cX12_dead 14 = .ok (.iload_n 1, 1) := by decide +kernel
theorem dX12_dead_15 : decode cX12_dead 15 = .ok (.invokestatic 174, 3) := by decide +kernel
theorem dX12_dead_18 : decode cX12_dead 18 = .ok (.putfield 396, 3) := by decide +kernel
theorem dX12_dead_21 : decode cX12_dead 21 = .ok (.iload_n 2, 1) := by decide +kernel
theorem dX12_dead_22 : decode cX12_dead 22 = .ok (.iconst (-1), 1) := by decide +kernel
theorem dX12_dead_23 : decode cX12_dead 23 = .ok (.if_icmp .ne 15, 3) := by decide +kernel
theorem dX12_dead_26 : decode cX12_dead 26 = .ok (.aload_n 0, 1) := by decide +kernel
theorem dX12_dead_27 : decode cX12_dead 27 = .ok (.getfield 7, 3) := by decide +kernel
theorem dX12_dead_30 : decode cX12_dead 30 = .ok (.aload_n 0, 1) := by decide +kernel
theorem dX12_dead_31 : decode cX12_dead 31 = .ok (.getfield 396, 3) := by decide +kernel
theorem dX12_dead_34 : decode cX12_dead 34 = .ok (.iaload, 1) := by decide +kernel
theorem dX12_dead_35 : decode cX12_dead 35 = .ok (.goto 40, 3) := by decide +kernel
theorem dX12_dead_38 : decode cX12_dead 38 = .ok (.iload_n 2, 1) := by decide +kernel
theorem dX12_dead_39 : decode cX12_dead 39 = .ok (.iconst 0, 1) := by decide +kernel
theorem dX12_dead_40 : decode cX12_dead 40 = .ok (.aload_n 0, 1) := by decide +kernel
theorem dX12_dead_41 : decode cX12_dead 41 = .ok (.getfield 7, 3) := by decide +kernel
theorem dX12_dead_44 : decode cX12_dead 44 = .ok (.aload_n 0, 1) := by decide +kernel
theorem dX12_dead_45 : decode cX12_dead 45 = .ok (.getfield 396, 3) := by decide +kernel
theorem dX12_dead_48 : decode cX12_dead 48 = .ok (.iaload, 1) := by decide +kernel
theorem dX12_dead_49 : decode cX12_dead 49 = .ok (.iconst 1, 1) := by decide +kernel
theorem dX12_dead_50 : decode cX12_dead 50 = .ok (.isub, 1) := by decide +kernel
theorem dX12_dead_51 : decode cX12_dead 51 = .ok (.invokestatic 109, 3) := by decide +kernel
theorem dX12_dead_54 : decode cX12_dead 54 = .ok (.ifCond .eq 19, 3) := by decide +kernel
theorem dX12_dead_57 : decode cX12_dead 57 = .ok (.aload_n 0, 1) := by decide +kernel
theorem dX12_dead_58 : decode cX12_dead 58 = .ok (.getfield 7, 3) := by decide +kernel
theorem dX12_dead_61 : decode cX12_dead 61 = .ok (.aload_n 0, 1) := by decide +kernel
theorem dX12_dead_62 : decode cX12_dead 62 = .ok (.getfield 396, 3) := by decide +kernel
theorem dX12_dead_65 : decode cX12_dead 65 = .ok (.iconst 1, 1) := by decide +kernel
theorem dX12_dead_66 : decode cX12_dead 66 = .ok (.iadd, 1) := by decide +kernel
theorem dX12_dead_67 : decode cX12_dead 67 = .ok (.iload_n 2, 1) := by decide +kernel
theorem dX12_dead_68 : decode cX12_dead 68 = .ok (.iadd, 1) := by decide +kernel
theorem dX12_dead_69 : decode cX12_dead 69 = .ok (.iaload, 1) := by decide +kernel
theorem dX12_dead_70 : decode cX12_dead 70 = .ok (.goto 5, 3) := by decide +kernel
theorem dX12_dead_73 : decode cX12_dead 73 = .ok (.bipush (-2), 2) := by decide +kernel
theorem dX12_dead_75 : decode cX12_dead 75 = .ok (.ireturn, 1) := by decide +kernel
theorem dX12_lowest_0 : decode cX12_lowest 0 = .ok (.iconst 0, 1) := by decide +kernel
theorem dX12_lowest_1 : decode cX12_lowest 1 = .ok (.istore_n 2, 1) := by decide +kernel
theorem dX12_lowest_2 : decode cX12_lowest 2 = .ok (.iload_n 1, 1) := by decide +kernel
theorem dX12_lowest_3 : decode cX12_lowest 3 = .ok (.iload_n 2, 1) := by decide +kernel
theorem dX12_lowest_4 : decode cX12_lowest 4 = .ok (.ishr, 1) := by decide +kernel
theorem dX12_lowest_5 : decode cX12_lowest 5 = .ok (.iconst 1, 1) := by decide +kernel
theorem dX12_lowest_6 : decode cX12_lowest 6 = .ok (.iand, 1) := by decide +kernel
theorem dX12_lowest_7 : decode cX12_lowest 7 = .ok (.ifCond .ne 9, 3) := by decide +kernel
theorem dX12_lowest_10 : decode cX12_lowest 10 = .ok (.iinc 2 1, 3) := by decide +kernel
theorem dX12_lowest_13 : decode cX12_lowest 13 = .ok (.goto (-11), 3) := by decide +kernel
theorem dX12_lowest_16 : decode cX12_lowest 16 = .ok (.iload_n 2, 1) := by decide +kernel
theorem dX12_lowest_17 : decode cX12_lowest 17 = .ok (.ireturn, 1) := by decide +kernel
theorem dX12_counts_0 : decode cX12_counts 0 = .ok (.aload_n 0, 1) := by decide +kernel
theorem dX12_counts_1 : decode cX12_counts 1 = .ok (.getfield 7, 3) := by decide +kernel
theorem dX12_counts_4 : decode cX12_counts 4 = .ok (.aload_n 0, 1) := by decide +kernel
theorem dX12_counts_5 : decode cX12_counts 5 = .ok (.getfield 396, 3) := by decide +kernel
theorem dX12_counts_8 : decode cX12_counts 8 = .ok (.iaload, 1) := by decide +kernel
theorem dX12_counts_9 : decode cX12_counts 9 = .ok (.istore_n 1, 1) := by decide +kernel
theorem dX12_counts_10 : decode cX12_counts 10 = .ok (.iconst 0, 1) := by decide +kernel
theorem dX12_counts_11 : decode cX12_counts 11 = .ok (.istore_n 2, 1) := by decide +kernel
theorem dX12_counts_12 : decode cX12_counts 12 = .ok (.iload_n 2, 1) := by decide +kernel
theorem dX12_counts_13 : decode cX12_counts 13 = .ok (.iconst 1, 1) := by decide +kernel
theorem dX12_counts_14 : decode cX12_counts 14 = .ok (.iload_n 1, 1) := by decide +kernel
theorem dX12_counts_15 : decode cX12_counts 15 = .ok (.ishl, 1) := by decide +kernel
theorem dX12_counts_16 : decode cX12_counts 16 = .ok (.if_icmp .ge 144, 3) := by decide +kernel
theorem dX12_counts_19 : decode cX12_counts 19 = .ok (.iconst 0, 1) := by decide +kernel
theorem dX12_counts_20 : decode cX12_counts 20 = .ok (.istore_n 3, 1) := by decide +kernel
theorem dX12_counts_21 : decode cX12_counts 21 = .ok (.iload_n 3, 1) := by decide +kernel
theorem dX12_counts_22 : decode cX12_counts 22 = .ok (.sipush 256, 3) := by decide +kernel
theorem dX12_counts_25 : decode cX12_counts 25 = .ok (.if_icmp .ge 129, 3) := by decide +kernel
theorem dX12_counts_28 : decode cX12_counts 28 = .ok (.iload_n 2, 1) := by decide +kernel
theorem dX12_counts_29 : decode cX12_counts 29 = .ok (.ifCond .ne 7, 3) := by decide +kernel
theorem dX12_counts_32 : decode cX12_counts 32 = .ok (.iconst 1, 1) := by decide +kernel
theorem dX12_counts_33 : decode cX12_counts 33 = .ok (.goto 4, 3) := by decide +kernel
theorem dX12_counts_36 : decode cX12_counts 36 = .ok (.iconst 0, 1) := by decide +kernel
theorem dX12_counts_37 : decode cX12_counts 37 = .ok (.istore 4, 2) := by decide +kernel
theorem dX12_counts_39 : decode cX12_counts 39 = .ok (.iload_n 2, 1) := by decide +kernel
theorem dX12_counts_40 : decode cX12_counts 40 = .ok (.ifCond .ne 7, 3) := by decide +kernel
theorem dX12_counts_43 : decode cX12_counts 43 = .ok (.iconst 0, 1) := by decide +kernel
theorem dX12_counts_44 : decode cX12_counts 44 = .ok (.goto 8, 3) := by decide +kernel
theorem dX12_counts_47 : decode cX12_counts 47 = .ok (.aload_n 0, 1) := by decide +kernel
theorem dX12_counts_48 : decode cX12_counts 48 = .ok (.iload_n 2, 1) := by decide +kernel
theorem dX12_counts_49 : decode cX12_counts 49 = .ok (.invokevirtual 399, 3) := by decide +kernel
theorem dX12_counts_52 : decode cX12_counts 52 = .ok (.istore 5, 2) := by decide +kernel
theorem dX12_counts_54 : decode cX12_counts 54 = .ok (.iconst 0, 1) := by decide +kernel
theorem dX12_counts_55 : decode cX12_counts 55 = .ok (.istore 6, 2) := by decide +kernel
theorem dX12_counts_57 : decode cX12_counts 57 = .ok (.iload 6, 2) := by decide +kernel
theorem dX12_counts_59 : decode cX12_counts 59 = .ok (.bipush 8, 2) := by decide +kernel
theorem dX12_counts_61 : decode cX12_counts 61 = .ok (.if_icmp .ge 73, 3) := by decide +kernel
theorem dX12_counts_64 : decode cX12_counts 64 = .ok (.iload_n 2, 1) := by decide +kernel
theorem dX12_counts_65 : decode cX12_counts 65 = .ok (.ifCond .eq 69, 3) := by decide +kernel
theorem dX12_counts_68 : decode cX12_counts 68 = .ok (.iload 4, 2) := by decide +kernel
theorem dX12_counts_70 : decode cX12_counts 70 = .ok (.iload_n 3, 1) := by decide +kernel
theorem dX12_counts_71 : decode cX12_counts 71 = .ok (.aload_n 0, 1) := by decide +kernel
theorem dX12_counts_72 : decode cX12_counts 72 = .ok (.getfield 7, 3) := by decide +kernel
theorem dX12_counts_75 : decode cX12_counts 75 = .ok (.aload_n 0, 1) := by decide +kernel
theorem dX12_counts_76 : decode cX12_counts 76 = .ok (.getfield 396, 3) := by decide +kernel
theorem dX12_counts_79 : decode cX12_counts 79 = .ok (.iconst 1, 1) := by decide +kernel
theorem dX12_counts_80 : decode cX12_counts 80 = .ok (.iadd, 1) := by decide +kernel
theorem dX12_counts_81 : decode cX12_counts 81 = .ok (.iload 5, 2) := by decide +kernel
theorem dX12_counts_83 : decode cX12_counts 83 = .ok (.iadd, 1) := by decide +kernel
theorem dX12_counts_84 : decode cX12_counts 84 = .ok (.iaload, 1) := by decide +kernel
theorem dX12_counts_85 : decode cX12_counts 85 = .ok (.iand, 1) := by decide +kernel
theorem dX12_counts_86 : decode cX12_counts 86 = .ok (.iload 6, 2) := by decide +kernel
theorem dX12_counts_88 : decode cX12_counts 88 = .ok (.ishr, 1) := by decide +kernel
theorem dX12_counts_89 : decode cX12_counts 89 = .ok (.iconst 1, 1) := by decide +kernel
theorem dX12_counts_90 : decode cX12_counts 90 = .ok (.iand, 1) := by decide +kernel
theorem dX12_counts_91 : decode cX12_counts 91 = .ok (.iconst 1, 1) := by decide +kernel
theorem dX12_counts_92 : decode cX12_counts 92 = .ok (.if_icmp .ne 32, 3) := by decide +kernel
theorem dX12_counts_95 : decode cX12_counts 95 = .ok (.aload_n 0, 1) := by decide +kernel
theorem dX12_counts_96 : decode cX12_counts 96 = .ok (.getfield 48, 3) := by decide +kernel
theorem dX12_counts_99 : decode cX12_counts 99 = .ok (.sipush 256, 3) := by decide +kernel
theorem dX12_counts_102 : decode cX12_counts 102 = .ok (.iload_n 2, 1) := by decide +kernel
theorem dX12_counts_103 : decode cX12_counts 103 = .ok (.iconst 1, 1) := by decide +kernel
theorem dX12_counts_104 : decode cX12_counts 104 = .ok (.iload 5, 2) := by decide +kernel
theorem dX12_counts_106 : decode cX12_counts 106 = .ok (.ishl, 1) := by decide +kernel
theorem dX12_counts_107 : decode cX12_counts 107 = .ok (.iconst (-1), 1) := by decide +kernel
theorem dX12_counts_108 : decode cX12_counts 108 = .ok (.ixor, 1) := by decide +kernel
theorem dX12_counts_109 : decode cX12_counts 109 = .ok (.iand, 1) := by decide +kernel
theorem dX12_counts_110 : decode cX12_counts 110 = .ok (.imul, 1) := by decide +kernel
theorem dX12_counts_111 : decode cX12_counts 111 = .ok (.iload_n 3, 1) := by decide +kernel
theorem dX12_counts_112 : decode cX12_counts 112 = .ok (.iconst 1, 1) := by decide +kernel
theorem dX12_counts_113 : decode cX12_counts 113 = .ok (.iload 6, 2) := by decide +kernel
theorem dX12_counts_115 : decode cX12_counts 115 = .ok (.ishl, 1) := by decide +kernel
theorem dX12_counts_116 : decode cX12_counts 116 = .ok (.iconst (-1), 1) := by decide +kernel
theorem dX12_counts_117 : decode cX12_counts 117 = .ok (.ixor, 1) := by decide +kernel
theorem dX12_counts_118 : decode cX12_counts 118 = .ok (.iand, 1) := by decide +kernel
theorem dX12_counts_119 : decode cX12_counts 119 = .ok (.iadd, 1) := by decide +kernel
theorem dX12_counts_120 : decode cX12_counts 120 = .ok (.iaload, 1) := by decide +kernel
theorem dX12_counts_121 : decode cX12_counts 121 = .ok (.goto 4, 3) := by decide +kernel
theorem dX12_counts_124 : decode cX12_counts 124 = .ok (.iconst 0, 1) := by decide +kernel
theorem dX12_counts_125 : decode cX12_counts 125 = .ok (.iadd, 1) := by decide +kernel
theorem dX12_counts_126 : decode cX12_counts 126 = .ok (.istore 4, 2) := by decide +kernel
theorem dX12_counts_128 : decode cX12_counts 128 = .ok (.iinc 6 1, 3) := by decide +kernel
theorem dX12_counts_131 : decode cX12_counts 131 = .ok (.goto (-74), 3) := by decide +kernel
theorem dX12_counts_134 : decode cX12_counts 134 = .ok (.aload_n 0, 1) := by decide +kernel
theorem dX12_counts_135 : decode cX12_counts 135 = .ok (.getfield 48, 3) := by decide +kernel
theorem dX12_counts_138 : decode cX12_counts 138 = .ok (.sipush 256, 3) := by decide +kernel
theorem dX12_counts_141 : decode cX12_counts 141 = .ok (.iload_n 2, 1) := by decide +kernel
theorem dX12_counts_142 : decode cX12_counts 142 = .ok (.imul, 1) := by decide +kernel
theorem dX12_counts_143 : decode cX12_counts 143 = .ok (.iload_n 3, 1) := by decide +kernel
theorem dX12_counts_144 : decode cX12_counts 144 = .ok (.iadd, 1) := by decide +kernel
theorem dX12_counts_145 : decode cX12_counts 145 = .ok (.iload 4, 2) := by decide +kernel
theorem dX12_counts_147 : decode cX12_counts 147 = .ok (.iastore, 1) := by decide +kernel
theorem dX12_counts_148 : decode cX12_counts 148 = .ok (.iinc 3 1, 3) := by decide +kernel
theorem dX12_counts_151 : decode cX12_counts 151 = .ok (.goto (-130), 3) := by decide +kernel
theorem dX12_counts_154 : decode cX12_counts 154 = .ok (.iinc 2 1, 3) := by decide +kernel
theorem dX12_counts_157 : decode cX12_counts 157 = .ok (.goto (-145), 3) := by decide +kernel
theorem dX12_counts_160 : decode cX12_counts 160 = .ok (.return_, 1) := by decide +kernel
theorem dX12_isKnown_0 : decode cX12_isKnown 0 = .ok (.iconst 1, 1) := by decide +kernel
theorem dX12_isKnown_1 : decode cX12_isKnown 1 = .ok (.aload_n 0, 1) := by decide +kernel
theorem dX12_isKnown_2 : decode cX12_isKnown 2 = .ok (.getfield 7, 3) := by decide +kernel
theorem dX12_isKnown_5 : decode cX12_isKnown 5 = .ok (.aload_n 0, 1) := by decide +kernel
theorem dX12_isKnown_6 : decode cX12_isKnown 6 = .ok (.getfield 396, 3) := by decide +kernel
theorem dX12_isKnown_9 : decode cX12_isKnown 9 = .ok (.iaload, 1) := by decide +kernel
theorem dX12_isKnown_10 : decode cX12_isKnown 10 = .ok (.ishl, 1) := by decide +kernel
theorem dX12_isKnown_11 : decode cX12_isKnown 11 = .ok (.iconst 1, 1) := by decide +kernel
theorem dX12_isKnown_12 : decode cX12_isKnown 12 = .ok (.isub, 1) := by decide +kernel
theorem dX12_isKnown_13 : decode cX12_isKnown 13 = .ok (.istore_n 2, 1) := by decide +kernel
theorem dX12_isKnown_14 : decode cX12_isKnown 14 = .ok (.iconst 1, 1) := by decide +kernel
theorem dX12_isKnown_15 : decode cX12_isKnown 15 = .ok (.istore_n 3, 1) := by decide +kernel
theorem dX12_isKnown_16 : decode cX12_isKnown 16 = .ok (.iconst 0, 1) := by decide +kernel
theorem dX12_isKnown_17 : decode cX12_isKnown 17 = .ok (.istore 4, 2) := by decide +kernel
theorem dX12_isKnown_19 : decode cX12_isKnown 19 = .ok (.iload 4, 2) := by decide +kernel
theorem dX12_isKnown_21 : decode cX12_isKnown 21 = .ok (.iload_n 2, 1) := by decide +kernel
theorem dX12_isKnown_22 : decode cX12_isKnown 22 = .ok (.if_icmp .gt 62, 3) := by decide +kernel
theorem dX12_isKnown_25 : decode cX12_isKnown 25 = .ok (.iload_n 3, 1) := by decide +kernel
theorem dX12_isKnown_26 : decode cX12_isKnown 26 = .ok (.ifCond .eq 58, 3) := by decide +kernel
theorem dX12_isKnown_29 : decode cX12_isKnown 29 = .ok (.aload_n 0, 1) := by decide +kernel
theorem dX12_isKnown_30 : decode cX12_isKnown 30 = .ok (.getfield 48, 3) := by decide +kernel
theorem dX12_isKnown_33 : decode cX12_isKnown 33 = .ok (.sipush 256, 3) := by decide +kernel
theorem dX12_isKnown_36 : decode cX12_isKnown 36 = .ok (.iload_n 2, 1) := by decide +kernel
theorem dX12_isKnown_37 : decode cX12_isKnown 37 = .ok (.iload 4, 2) := by decide +kernel
theorem dX12_isKnown_39 : decode cX12_isKnown 39 = .ok (.iconst (-1), 1) := by decide +kernel
theorem dX12_isKnown_40 : decode cX12_isKnown 40 = .ok (.ixor, 1) := by decide +kernel
theorem dX12_isKnown_41 : decode cX12_isKnown 41 = .ok (.iand, 1) := by decide +kernel
theorem dX12_isKnown_42 : decode cX12_isKnown 42 = .ok (.imul, 1) := by decide +kernel
theorem dX12_isKnown_43 : decode cX12_isKnown 43 = .ok (.iload_n 1, 1) := by decide +kernel
theorem dX12_isKnown_44 : decode cX12_isKnown 44 = .ok (.iadd, 1) := by decide +kernel
theorem dX12_isKnown_45 : decode cX12_isKnown 45 = .ok (.iaload, 1) := by decide +kernel
theorem dX12_isKnown_46 : decode cX12_isKnown 46 = .ok (.ifCond .eq 26, 3) := by decide +kernel
theorem dX12_isKnown_49 : decode cX12_isKnown 49 = .ok (.aload_n 0, 1) := by decide +kernel
theorem dX12_isKnown_50 : decode cX12_isKnown 50 = .ok (.getfield 48, 3) := by decide +kernel
theorem dX12_isKnown_53 : decode cX12_isKnown 53 = .ok (.sipush 256, 3) := by decide +kernel
theorem dX12_isKnown_56 : decode cX12_isKnown 56 = .ok (.iload 4, 2) := by decide +kernel
theorem dX12_isKnown_58 : decode cX12_isKnown 58 = .ok (.imul, 1) := by decide +kernel
theorem dX12_isKnown_59 : decode cX12_isKnown 59 = .ok (.sipush 255, 3) := by decide +kernel
theorem dX12_isKnown_62 : decode cX12_isKnown 62 = .ok (.iload_n 1, 1) := by decide +kernel
theorem dX12_isKnown_63 : decode cX12_isKnown 63 = .ok (.iconst (-1), 1) := by decide +kernel
theorem dX12_isKnown_64 : decode cX12_isKnown 64 = .ok (.ixor, 1) := by decide +kernel
theorem dX12_isKnown_65 : decode cX12_isKnown 65 = .ok (.iand, 1) := by decide +kernel
theorem dX12_isKnown_66 : decode cX12_isKnown 66 = .ok (.iadd, 1) := by decide +kernel
theorem dX12_isKnown_67 : decode cX12_isKnown 67 = .ok (.iaload, 1) := by decide +kernel
theorem dX12_isKnown_68 : decode cX12_isKnown 68 = .ok (.iconst 2, 1) := by decide +kernel
theorem dX12_isKnown_69 : decode cX12_isKnown 69 = .ok (.if_icmp .ge 7, 3) := by decide +kernel
theorem dX12_isKnown_72 : decode cX12_isKnown 72 = .ok (.iconst 1, 1) := by decide +kernel
theorem dX12_isKnown_73 : decode cX12_isKnown 73 = .ok (.goto 4, 3) := by decide +kernel
theorem dX12_isKnown_76 : decode cX12_isKnown 76 = .ok (.iconst 0, 1) := by decide +kernel
theorem dX12_isKnown_77 : decode cX12_isKnown 77 = .ok (.istore_n 3, 1) := by decide +kernel
theorem dX12_isKnown_78 : decode cX12_isKnown 78 = .ok (.iinc 4 1, 3) := by decide +kernel
theorem dX12_isKnown_81 : decode cX12_isKnown 81 = .ok (.goto (-62), 3) := by decide +kernel
theorem dX12_isKnown_84 : decode cX12_isKnown 84 = .ok (.iload_n 3, 1) := by decide +kernel
theorem dX12_isKnown_85 : decode cX12_isKnown 85 = .ok (.ireturn, 1) := by decide +kernel
theorem dX12_dig_0 : decode cX12_dig 0 = .ok (.iconst (-1), 1) := by decide +kernel
theorem dX12_dig_1 : decode cX12_dig 1 = .ok (.istore_n 1, 1) := by decide +kernel
theorem dX12_dig_2 : decode cX12_dig 2 = .ok (.iconst 0, 1) := by decide +kernel
theorem dX12_dig_3 : decode cX12_dig 3 = .ok (.istore_n 2, 1) := by decide +kernel
theorem dX12_dig_4 : decode cX12_dig 4 = .ok (.iload_n 2, 1) := by decide +kernel
theorem dX12_dig_5 : decode cX12_dig 5 = .ok (.sipush 256, 3) := by decide +kernel
theorem dX12_dig_8 : decode cX12_dig 8 = .ok (.if_icmp .ge 34, 3) := by decide +kernel
theorem dX12_dig_11 : decode cX12_dig 11 = .ok (.iload_n 1, 1) := by decide +kernel
theorem dX12_dig_12 : decode cX12_dig 12 = .ok (.ifCond .lt 14, 3) := by decide +kernel
theorem dX12_dig_15 : decode cX12_dig 15 = .ok (.iload_n 2, 1) := by decide +kernel
theorem dX12_dig_16 : decode cX12_dig 16 = .ok (.invokestatic 393, 3) := by decide +kernel
theorem dX12_dig_19 : decode cX12_dig 19 = .ok (.iload_n 1, 1) := by decide +kernel
theorem dX12_dig_20 : decode cX12_dig 20 = .ok (.invokestatic 393, 3) := by decide +kernel
theorem dX12_dig_23 : decode cX12_dig 23 = .ok (.if_icmp .ge 13, 3) := by decide +kernel
theorem dX12_dig_26 : decode cX12_dig 26 = .ok (.aload_n 0, 1) := by decide +kernel
theorem dX12_dig_27 : decode cX12_dig 27 = .ok (.iload_n 2, 1) := by decide +kernel
theorem dX12_dig_28 : decode cX12_dig 28 = .ok (.invokevirtual 402, 3) := by decide +kernel
theorem dX12_dig_31 : decode cX12_dig 31 = .ok (.ifCond .eq 5, 3) := by decide +kernel
theorem dX12_dig_34 : decode cX12_dig 34 = .ok (.iload_n 2, 1) := by decide +kernel
theorem dX12_dig_35 : decode cX12_dig 35 = .ok (.istore_n 1, 1) := by decide +kernel
theorem dX12_dig_36 : decode cX12_dig 36 = .ok (.iinc 2 1, 3) := by decide +kernel
theorem dX12_dig_39 : decode cX12_dig 39 = .ok (.goto (-35), 3) := by decide +kernel
theorem dX12_dig_42 : decode cX12_dig 42 = .ok (.iload_n 1, 1) := by decide +kernel
theorem dX12_dig_43 : decode cX12_dig 43 = .ok (.ireturn, 1) := by decide +kernel
theorem dX12_lies_0 : decode cX12_lies 0 = .ok (.aload_n 0, 1) := by decide +kernel
theorem dX12_lies_1 : decode cX12_lies 1 = .ok (.iconst 3, 1) := by decide +kernel
theorem dX12_lies_2 : decode cX12_lies 2 = .ok (.iload_n 1, 1) := by decide +kernel
theorem dX12_lies_3 : decode cX12_lies 3 = .ok (.invokevirtual 144, 3) := by decide +kernel
theorem dX12_lies_6 : decode cX12_lies 6 = .ok (.ifCond .ne 6, 3) := by decide +kernel
theorem dX12_lies_9 : decode cX12_lies 9 = .ok (.bipush (-2), 2) := by decide +kernel
theorem dX12_lies_11 : decode cX12_lies 11 = .ok (.ireturn, 1) := by decide +kernel
theorem dX12_lies_12 : decode cX12_lies 12 = .ok (.aload_n 0, 1) := by decide +kernel
theorem dX12_lies_13 : decode cX12_lies 13 = .ok (.iconst 3, 1) := by decide +kernel
theorem dX12_lies_14 : decode cX12_lies 14 = .ok (.iload_n 1, 1) := by decide +kernel
theorem dX12_lies_15 : decode cX12_lies 15 = .ok (.invokestatic 174, 3) := by decide +kernel
theorem dX12_lies_18 : decode cX12_lies 18 = .ok (.putfield 396, 3) := by decide +kernel
theorem dX12_lies_21 : decode cX12_lies 21 = .ok (.aload_n 0, 1) := by decide +kernel
theorem dX12_lies_22 : decode cX12_lies 22 = .ok (.invokevirtual 405, 3) := by decide +kernel
theorem dX12_lies_25 : decode cX12_lies 25 = .ok (.iconst 1, 1) := by decide +kernel
theorem dX12_lies_26 : decode cX12_lies 26 = .ok (.aload_n 0, 1) := by decide +kernel
theorem dX12_lies_27 : decode cX12_lies 27 = .ok (.getfield 7, 3) := by decide +kernel
theorem dX12_lies_30 : decode cX12_lies 30 = .ok (.aload_n 0, 1) := by decide +kernel
theorem dX12_lies_31 : decode cX12_lies 31 = .ok (.getfield 396, 3) := by decide +kernel
theorem dX12_lies_34 : decode cX12_lies 34 = .ok (.iaload, 1) := by decide +kernel
theorem dX12_lies_35 : decode cX12_lies 35 = .ok (.ishl, 1) := by decide +kernel
theorem dX12_lies_36 : decode cX12_lies 36 = .ok (.iconst 1, 1) := by decide +kernel
theorem dX12_lies_37 : decode cX12_lies 37 = .ok (.isub, 1) := by decide +kernel
theorem dX12_lies_38 : decode cX12_lies 38 = .ok (.istore_n 3, 1) := by decide +kernel
theorem dX12_lies_39 : decode cX12_lies 39 = .ok (.aload_n 0, 1) := by decide +kernel
theorem dX12_lies_40 : decode cX12_lies 40 = .ok (.getfield 48, 3) := by decide +kernel
theorem dX12_lies_43 : decode cX12_lies 43 = .ok (.sipush 256, 3) := by decide +kernel
theorem dX12_lies_46 : decode cX12_lies 46 = .ok (.iload_n 3, 1) := by decide +kernel
theorem dX12_lies_47 : decode cX12_lies 47 = .ok (.imul, 1) := by decide +kernel
theorem dX12_lies_48 : decode cX12_lies 48 = .ok (.sipush 255, 3) := by decide +kernel
theorem dX12_lies_51 : decode cX12_lies 51 = .ok (.iadd, 1) := by decide +kernel
theorem dX12_lies_52 : decode cX12_lies 52 = .ok (.iaload, 1) := by decide +kernel
theorem dX12_lies_53 : decode cX12_lies 53 = .ok (.istore 4, 2) := by decide +kernel
theorem dX12_lies_55 : decode cX12_lies 55 = .ok (.iload_n 2, 1) := by decide +kernel
theorem dX12_lies_56 : decode cX12_lies 56 = .ok (.ifCond .ne 6, 3) := by decide +kernel
theorem dX12_lies_59 : decode cX12_lies 59 = .ok (.iload 4, 2) := by decide +kernel
theorem dX12_lies_61 : decode cX12_lies 61 = .ok (.ireturn, 1) := by decide +kernel
theorem dX12_lies_62 : decode cX12_lies 62 = .ok (.iload_n 2, 1) := by decide +kernel
theorem dX12_lies_63 : decode cX12_lies 63 = .ok (.iconst 1, 1) := by decide +kernel
theorem dX12_lies_64 : decode cX12_lies 64 = .ok (.if_icmp .ne 17, 3) := by decide +kernel
theorem dX12_lies_67 : decode cX12_lies 67 = .ok (.iload 4, 2) := by decide +kernel
theorem dX12_lies_69 : decode cX12_lies 69 = .ok (.ifCond .ne 7, 3) := by decide +kernel
theorem dX12_lies_72 : decode cX12_lies 72 = .ok (.iconst (-1), 1) := by decide +kernel
theorem dX12_lies_73 : decode cX12_lies 73 = .ok (.goto 7, 3) := by decide +kernel
theorem dX12_lies_76 : decode cX12_lies 76 = .ok (.aload_n 0, 1) := by decide +kernel
theorem dX12_lies_77 : decode cX12_lies 77 = .ok (.invokevirtual 408, 3) := by decide +kernel
theorem dX12_lies_80 : decode cX12_lies 80 = .ok (.ireturn, 1) := by decide +kernel
theorem dX12_lies_81 : decode cX12_lies 81 = .ok (.iload_n 2, 1) := by decide +kernel
theorem dX12_lies_82 : decode cX12_lies 82 = .ok (.bipush 10, 2) := by decide +kernel
theorem dX12_lies_84 : decode cX12_lies 84 = .ok (.irem, 1) := by decide +kernel
theorem dX12_lies_85 : decode cX12_lies 85 = .ok (.istore 5, 2) := by decide +kernel
theorem dX12_lies_87 : decode cX12_lies 87 = .ok (.iload_n 2, 1) := by decide +kernel
theorem dX12_lies_88 : decode cX12_lies 88 = .ok (.bipush 10, 2) := by decide +kernel
theorem dX12_lies_90 : decode cX12_lies 90 = .ok (.bipush 29, 2) := by decide +kernel
theorem dX12_lies_92 : decode cX12_lies 92 = .ok (.invokestatic 109, 3) := by decide +kernel
theorem dX12_lies_95 : decode cX12_lies 95 = .ok (.ifCond .eq 17, 3) := by decide +kernel
theorem dX12_lies_98 : decode cX12_lies 98 = .ok (.iload 5, 2) := by decide +kernel
theorem dX12_lies_100 : decode cX12_lies 100 = .ok (.aload_n 0, 1) := by decide +kernel
theorem dX12_lies_101 : decode cX12_lies 101 = .ok (.getfield 7, 3) := by decide +kernel
theorem dX12_lies_104 : decode cX12_lies 104 = .ok (.aload_n 0, 1) := by decide +kernel
theorem dX12_lies_105 : decode cX12_lies 105 = .ok (.getfield 396, 3) := by decide +kernel
theorem dX12_lies_108 : decode cX12_lies 108 = .ok (.iaload, 1) := by decide +kernel
theorem dX12_lies_109 : decode cX12_lies 109 = .ok (.if_icmp .lt 6, 3) := by decide +kernel
theorem dX12_lies_112 : decode cX12_lies 112 = .ok (.bipush (-2), 2) := by decide +kernel
theorem dX12_lies_114 : decode cX12_lies 114 = .ok (.ireturn, 1) := by decide +kernel
theorem dX12_lies_115 : decode cX12_lies 115 = .ok (.iconst 0, 1) := by decide +kernel
theorem dX12_lies_116 : decode cX12_lies 116 = .ok (.istore 6, 2) := by decide +kernel
theorem dX12_lies_118 : decode cX12_lies 118 = .ok (.iconst 0, 1) := by decide +kernel
theorem dX12_lies_119 : decode cX12_lies 119 = .ok (.istore 7, 2) := by decide +kernel
theorem dX12_lies_121 : decode cX12_lies 121 = .ok (.iload 7, 2) := by decide +kernel
theorem dX12_lies_123 : decode cX12_lies 123 = .ok (.bipush 8, 2) := by decide +kernel
theorem dX12_lies_125 : decode cX12_lies 125 = .ok (.if_icmp .ge 76, 3) := by decide +kernel
theorem dX12_lies_128 : decode cX12_lies 128 = .ok (.iload 6, 2) := by decide +kernel
theorem dX12_lies_130 : decode cX12_lies 130 = .ok (.aload_n 0, 1) := by decide +kernel
theorem dX12_lies_131 : decode cX12_lies 131 = .ok (.getfield 7, 3) := by decide +kernel
theorem dX12_lies_134 : decode cX12_lies 134 = .ok (.aload_n 0, 1) := by decide +kernel
theorem dX12_lies_135 : decode cX12_lies 135 = .ok (.getfield 396, 3) := by decide +kernel
theorem dX12_lies_138 : decode cX12_lies 138 = .ok (.iconst 1, 1) := by decide +kernel
theorem dX12_lies_139 : decode cX12_lies 139 = .ok (.iadd, 1) := by decide +kernel
theorem dX12_lies_140 : decode cX12_lies 140 = .ok (.iload 5, 2) := by decide +kernel
theorem dX12_lies_142 : decode cX12_lies 142 = .ok (.iadd, 1) := by decide +kernel
theorem dX12_lies_143 : decode cX12_lies 143 = .ok (.iaload, 1) := by decide +kernel
theorem dX12_lies_144 : decode cX12_lies 144 = .ok (.iload 7, 2) := by decide +kernel
theorem dX12_lies_146 : decode cX12_lies 146 = .ok (.ishr, 1) := by decide +kernel
theorem dX12_lies_147 : decode cX12_lies 147 = .ok (.iconst 1, 1) := by decide +kernel
theorem dX12_lies_148 : decode cX12_lies 148 = .ok (.iand, 1) := by decide +kernel
theorem dX12_lies_149 : decode cX12_lies 149 = .ok (.iconst 1, 1) := by decide +kernel
theorem dX12_lies_150 : decode cX12_lies 150 = .ok (.if_icmp .ne 41, 3) := by decide +kernel
theorem dX12_lies_153 : decode cX12_lies 153 = .ok (.aload_n 0, 1) := by decide +kernel
theorem dX12_lies_154 : decode cX12_lies 154 = .ok (.getfield 48, 3) := by decide +kernel
theorem dX12_lies_157 : decode cX12_lies 157 = .ok (.sipush 256, 3) := by decide +kernel
theorem dX12_lies_160 : decode cX12_lies 160 = .ok (.iload_n 3, 1) := by decide +kernel
theorem dX12_lies_161 : decode cX12_lies 161 = .ok (.iconst 1, 1) := by decide +kernel
theorem dX12_lies_162 : decode cX12_lies 162 = .ok (.iload 5, 2) := by decide +kernel
theorem dX12_lies_164 : decode cX12_lies 164 = .ok (.ishl, 1) := by decide +kernel
theorem dX12_lies_165 : decode cX12_lies 165 = .ok (.iconst (-1), 1) := by decide +kernel
theorem dX12_lies_166 : decode cX12_lies 166 = .ok (.ixor, 1) := by decide +kernel
theorem dX12_lies_167 : decode cX12_lies 167 = .ok (.iand, 1) := by decide +kernel
theorem dX12_lies_168 : decode cX12_lies 168 = .ok (.imul, 1) := by decide +kernel
theorem dX12_lies_169 : decode cX12_lies 169 = .ok (.sipush 255, 3) := by decide +kernel
theorem dX12_lies_172 : decode cX12_lies 172 = .ok (.iconst 1, 1) := by decide +kernel
theorem dX12_lies_173 : decode cX12_lies 173 = .ok (.iload 7, 2) := by decide +kernel
theorem dX12_lies_175 : decode cX12_lies 175 = .ok (.ishl, 1) := by decide +kernel
theorem dX12_lies_176 : decode cX12_lies 176 = .ok (.iconst (-1), 1) := by decide +kernel
theorem dX12_lies_177 : decode cX12_lies 177 = .ok (.ixor, 1) := by decide +kernel
theorem dX12_lies_178 : decode cX12_lies 178 = .ok (.iand, 1) := by decide +kernel
theorem dX12_lies_179 : decode cX12_lies 179 = .ok (.iadd, 1) := by decide +kernel
theorem dX12_lies_180 : decode cX12_lies 180 = .ok (.iaload, 1) := by decide +kernel
theorem dX12_lies_181 : decode cX12_lies 181 = .ok (.ifCond .le 10, 3) := by decide +kernel
theorem dX12_lies_184 : decode cX12_lies 184 = .ok (.iconst 1, 1) := by decide +kernel
theorem dX12_lies_185 : decode cX12_lies 185 = .ok (.iload 7, 2) := by decide +kernel
theorem dX12_lies_187 : decode cX12_lies 187 = .ok (.ishl, 1) := by decide +kernel
theorem dX12_lies_188 : decode cX12_lies 188 = .ok (.goto 4, 3) := by decide +kernel
theorem dX12_lies_191 : decode cX12_lies 191 = .ok (.iconst 0, 1) := by decide +kernel
theorem dX12_lies_192 : decode cX12_lies 192 = .ok (.ior, 1) := by decide +kernel
theorem dX12_lies_193 : decode cX12_lies 193 = .ok (.istore 6, 2) := by decide +kernel
theorem dX12_lies_195 : decode cX12_lies 195 = .ok (.iinc 7 1, 3) := by decide +kernel
theorem dX12_lies_198 : decode cX12_lies 198 = .ok (.goto (-77), 3) := by decide +kernel
theorem dX12_lies_201 : decode cX12_lies 201 = .ok (.iload_n 2, 1) := by decide +kernel
theorem dX12_lies_202 : decode cX12_lies 202 = .ok (.bipush 20, 2) := by decide +kernel
theorem dX12_lies_204 : decode cX12_lies 204 = .ok (.if_icmp .lt 8, 3) := by decide +kernel
theorem dX12_lies_207 : decode cX12_lies 207 = .ok (.iload 6, 2) := by decide +kernel
theorem dX12_lies_209 : decode cX12_lies 209 = .ok (.goto 22, 3) := by decide +kernel
theorem dX12_lies_212 : decode cX12_lies 212 = .ok (.iload 6, 2) := by decide +kernel
theorem dX12_lies_214 : decode cX12_lies 214 = .ok (.invokestatic 393, 3) := by decide +kernel
theorem dX12_lies_217 : decode cX12_lies 217 = .ok (.iconst 1, 1) := by decide +kernel
theorem dX12_lies_218 : decode cX12_lies 218 = .ok (.if_icmp .ne 12, 3) := by decide +kernel
theorem dX12_lies_221 : decode cX12_lies 221 = .ok (.aload_n 0, 1) := by decide +kernel
theorem dX12_lies_222 : decode cX12_lies 222 = .ok (.iload 6, 2) := by decide +kernel
theorem dX12_lies_224 : decode cX12_lies 224 = .ok (.invokevirtual 399, 3) := by decide +kernel
theorem dX12_lies_227 : decode cX12_lies 227 = .ok (.goto 4, 3) := by decide +kernel
theorem dX12_lies_230 : decode cX12_lies 230 = .ok (.iconst (-1), 1) := by decide +kernel
theorem dX12_lies_231 : decode cX12_lies 231 = .ok (.ireturn, 1) := by decide +kernel
theorem dX12_worst_0 : decode cX12_worst 0 = .ok (.iconst 1, 1) := by decide +kernel
theorem dX12_worst_1 : decode cX12_worst 1 = .ok (.istore_n 3, 1) := by decide +kernel
theorem dX12_worst_2 : decode cX12_worst 2 = .ok (.iconst 1, 1) := by decide +kernel
theorem dX12_worst_3 : decode cX12_worst 3 = .ok (.istore 4, 2) := by decide +kernel
theorem dX12_worst_5 : decode cX12_worst 5 = .ok (.iload 4, 2) := by decide +kernel
theorem dX12_worst_7 : decode cX12_worst 7 = .ok (.iload_n 1, 1) := by decide +kernel
theorem dX12_worst_8 : decode cX12_worst 8 = .ok (.if_icmp .ge 18, 3) := by decide +kernel
theorem dX12_worst_11 : decode cX12_worst 11 = .ok (.iload_n 3, 1) := by decide +kernel
theorem dX12_worst_12 : decode cX12_worst 12 = .ok (.aload_n 0, 1) := by decide +kernel
theorem dX12_worst_13 : decode cX12_worst 13 = .ok (.bipush 15, 2) := by decide +kernel
theorem dX12_worst_15 : decode cX12_worst 15 = .ok (.invokevirtual 180, 3) := by decide +kernel
theorem dX12_worst_18 : decode cX12_worst 18 = .ok (.imul, 1) := by decide +kernel
theorem dX12_worst_19 : decode cX12_worst 19 = .ok (.istore_n 3, 1) := by decide +kernel
theorem dX12_worst_20 : decode cX12_worst 20 = .ok (.iinc 4 1, 3) := by decide +kernel
theorem dX12_worst_23 : decode cX12_worst 23 = .ok (.goto (-18), 3) := by decide +kernel
theorem dX12_worst_26 : decode cX12_worst 26 = .ok (.iconst 0, 1) := by decide +kernel
theorem dX12_worst_27 : decode cX12_worst 27 = .ok (.istore 4, 2) := by decide +kernel
theorem dX12_worst_29 : decode cX12_worst 29 = .ok (.iload 4, 2) := by decide +kernel
theorem dX12_worst_31 : decode cX12_worst 31 = .ok (.bipush 16, 2) := by decide +kernel
theorem dX12_worst_33 : decode cX12_worst 33 = .ok (.if_icmp .ge 17, 3) := by decide +kernel
theorem dX12_worst_36 : decode cX12_worst 36 = .ok (.aload_n 0, 1) := by decide +kernel
theorem dX12_worst_37 : decode cX12_worst 37 = .ok (.getfield 23, 3) := by decide +kernel
theorem dX12_worst_40 : decode cX12_worst 40 = .ok (.iload 4, 2) := by decide +kernel
theorem dX12_worst_42 : decode cX12_worst 42 = .ok (.iconst 0, 1) := by decide +kernel
theorem dX12_worst_43 : decode cX12_worst 43 = .ok (.iastore, 1) := by decide +kernel
theorem dX12_worst_44 : decode cX12_worst 44 = .ok (.iinc 4 1, 3) := by decide +kernel
theorem dX12_worst_47 : decode cX12_worst 47 = .ok (.goto (-18), 3) := by decide +kernel
theorem dX12_worst_50 : decode cX12_worst 50 = .ok (.iconst 0, 1) := by decide +kernel
theorem dX12_worst_51 : decode cX12_worst 51 = .ok (.istore 4, 2) := by decide +kernel
theorem dX12_worst_53 : decode cX12_worst 53 = .ok (.iconst 0, 1) := by decide +kernel
theorem dX12_worst_54 : decode cX12_worst 54 = .ok (.istore 5, 2) := by decide +kernel
theorem dX12_worst_56 : decode cX12_worst 56 = .ok (.iload 5, 2) := by decide +kernel
theorem dX12_worst_58 : decode cX12_worst 58 = .ok (.iload_n 1, 1) := by decide +kernel
theorem dX12_worst_59 : decode cX12_worst 59 = .ok (.if_icmp .ge 108, 3) := by decide +kernel
theorem dX12_worst_62 : decode cX12_worst 62 = .ok (.iconst 0, 1) := by decide +kernel
theorem dX12_worst_63 : decode cX12_worst 63 = .ok (.istore 6, 2) := by decide +kernel
theorem dX12_worst_65 : decode cX12_worst 65 = .ok (.iconst 0, 1) := by decide +kernel
theorem dX12_worst_66 : decode cX12_worst 66 = .ok (.istore 7, 2) := by decide +kernel
theorem dX12_worst_68 : decode cX12_worst 68 = .ok (.iload 7, 2) := by decide +kernel
theorem dX12_worst_70 : decode cX12_worst 70 = .ok (.aload_n 0, 1) := by decide +kernel
theorem dX12_worst_71 : decode cX12_worst 71 = .ok (.bipush 15, 2) := by decide +kernel
theorem dX12_worst_73 : decode cX12_worst 73 = .ok (.invokevirtual 180, 3) := by decide +kernel
theorem dX12_worst_76 : decode cX12_worst 76 = .ok (.if_icmp .ge 44, 3) := by decide +kernel
theorem dX12_worst_79 : decode cX12_worst 79 = .ok (.aload_n 0, 1) := by decide +kernel
theorem dX12_worst_80 : decode cX12_worst 80 = .ok (.getfield 23, 3) := by decide +kernel
theorem dX12_worst_83 : decode cX12_worst 83 = .ok (.iload 7, 2) := by decide +kernel
theorem dX12_worst_85 : decode cX12_worst 85 = .ok (.dup2, 1) := by decide +kernel
theorem dX12_worst_86 : decode cX12_worst 86 = .ok (.iaload, 1) := by decide +kernel
theorem dX12_worst_87 : decode cX12_worst 87 = .ok (.aload_n 0, 1) := by decide +kernel
theorem dX12_worst_88 : decode cX12_worst 88 = .ok (.bipush 101, 2) := by decide +kernel
theorem dX12_worst_90 : decode cX12_worst 90 = .ok (.iconst 2, 1) := by decide +kernel
theorem dX12_worst_91 : decode cX12_worst 91 = .ok (.iload 7, 2) := by decide +kernel
theorem dX12_worst_93 : decode cX12_worst 93 = .ok (.imul, 1) := by decide +kernel
theorem dX12_worst_94 : decode cX12_worst 94 = .ok (.iadd, 1) := by decide +kernel
theorem dX12_worst_95 : decode cX12_worst 95 = .ok (.iconst 1, 1) := by decide +kernel
theorem dX12_worst_96 : decode cX12_worst 96 = .ok (.iadd, 1) := by decide +kernel
theorem dX12_worst_97 : decode cX12_worst 97 = .ok (.invokevirtual 180, 3) := by decide +kernel
theorem dX12_worst_100 : decode cX12_worst 100 = .ok (.iadd, 1) := by decide +kernel
theorem dX12_worst_101 : decode cX12_worst 101 = .ok (.iastore, 1) := by decide +kernel
theorem dX12_worst_102 : decode cX12_worst 102 = .ok (.iload 6, 2) := by decide +kernel
theorem dX12_worst_104 : decode cX12_worst 104 = .ok (.aload_n 0, 1) := by decide +kernel
theorem dX12_worst_105 : decode cX12_worst 105 = .ok (.getfield 23, 3) := by decide +kernel
theorem dX12_worst_108 : decode cX12_worst 108 = .ok (.iload 7, 2) := by decide +kernel
theorem dX12_worst_110 : decode cX12_worst 110 = .ok (.iaload, 1) := by decide +kernel
theorem dX12_worst_111 : decode cX12_worst 111 = .ok (.iadd, 1) := by decide +kernel
theorem dX12_worst_112 : decode cX12_worst 112 = .ok (.istore 6, 2) := by decide +kernel
theorem dX12_worst_114 : decode cX12_worst 114 = .ok (.iinc 7 1, 3) := by decide +kernel
theorem dX12_worst_117 : decode cX12_worst 117 = .ok (.goto (-49), 3) := by decide +kernel
theorem dX12_worst_120 : decode cX12_worst 120 = .ok (.iload 6, 2) := by decide +kernel
theorem dX12_worst_122 : decode cX12_worst 122 = .ok (.iload 4, 2) := by decide +kernel
theorem dX12_worst_124 : decode cX12_worst 124 = .ok (.if_icmp .le 8, 3) := by decide +kernel
theorem dX12_worst_127 : decode cX12_worst 127 = .ok (.iload 6, 2) := by decide +kernel
theorem dX12_worst_129 : decode cX12_worst 129 = .ok (.goto 5, 3) := by decide +kernel
theorem dX12_worst_132 : decode cX12_worst 132 = .ok (.iload 4, 2) := by decide +kernel
theorem dX12_worst_134 : decode cX12_worst 134 = .ok (.istore 4, 2) := by decide +kernel
theorem dX12_worst_136 : decode cX12_worst 136 = .ok (.aload_n 0, 1) := by decide +kernel
theorem dX12_worst_137 : decode cX12_worst 137 = .ok (.getfield 23, 3) := by decide +kernel
theorem dX12_worst_140 : decode cX12_worst 140 = .ok (.iload_n 2, 1) := by decide +kernel
theorem dX12_worst_141 : decode cX12_worst 141 = .ok (.iload_n 3, 1) := by decide +kernel
theorem dX12_worst_142 : decode cX12_worst 142 = .ok (.idiv, 1) := by decide +kernel
theorem dX12_worst_143 : decode cX12_worst 143 = .ok (.aload_n 0, 1) := by decide +kernel
theorem dX12_worst_144 : decode cX12_worst 144 = .ok (.bipush 15, 2) := by decide +kernel
theorem dX12_worst_146 : decode cX12_worst 146 = .ok (.invokevirtual 180, 3) := by decide +kernel
theorem dX12_worst_149 : decode cX12_worst 149 = .ok (.irem, 1) := by decide +kernel
theorem dX12_worst_150 : decode cX12_worst 150 = .ok (.iconst 0, 1) := by decide +kernel
theorem dX12_worst_151 : decode cX12_worst 151 = .ok (.iastore, 1) := by decide +kernel
theorem dX12_worst_152 : decode cX12_worst 152 = .ok (.iload_n 3, 1) := by decide +kernel
theorem dX12_worst_153 : decode cX12_worst 153 = .ok (.aload_n 0, 1) := by decide +kernel
theorem dX12_worst_154 : decode cX12_worst 154 = .ok (.bipush 15, 2) := by decide +kernel
theorem dX12_worst_156 : decode cX12_worst 156 = .ok (.invokevirtual 180, 3) := by decide +kernel
theorem dX12_worst_159 : decode cX12_worst 159 = .ok (.idiv, 1) := by decide +kernel
theorem dX12_worst_160 : decode cX12_worst 160 = .ok (.istore_n 3, 1) := by decide +kernel
theorem dX12_worst_161 : decode cX12_worst 161 = .ok (.iinc 5 1, 3) := by decide +kernel
theorem dX12_worst_164 : decode cX12_worst 164 = .ok (.goto (-108), 3) := by decide +kernel
theorem dX12_worst_167 : decode cX12_worst 167 = .ok (.iload 4, 2) := by decide +kernel
theorem dX12_worst_169 : decode cX12_worst 169 = .ok (.ireturn, 1) := by decide +kernel
theorem dX12_bail_0 : decode cX12_bail 0 = .ok (.aload_n 0, 1) := by decide +kernel
theorem dX12_bail_1 : decode cX12_bail 1 = .ok (.iload_n 1, 1) := by decide +kernel
theorem dX12_bail_2 : decode cX12_bail 2 = .ok (.invokevirtual 186, 3) := by decide +kernel
theorem dX12_bail_5 : decode cX12_bail 5 = .ok (.ifCond .eq 33, 3) := by decide +kernel
theorem dX12_bail_8 : decode cX12_bail 8 = .ok (.aload_n 0, 1) := by decide +kernel
theorem dX12_bail_9 : decode cX12_bail 9 = .ok (.bipush 15, 2) := by decide +kernel
theorem dX12_bail_11 : decode cX12_bail 11 = .ok (.invokevirtual 180, 3) := by decide +kernel
theorem dX12_bail_14 : decode cX12_bail 14 = .ok (.ifCond .eq 24, 3) := by decide +kernel
theorem dX12_bail_17 : decode cX12_bail 17 = .ok (.iload_n 2, 1) := by decide +kernel
theorem dX12_bail_18 : decode cX12_bail 18 = .ok (.iconst 1, 1) := by decide +kernel
theorem dX12_bail_19 : decode cX12_bail 19 = .ok (.bipush 8, 2) := by decide +kernel
theorem dX12_bail_21 : decode cX12_bail 21 = .ok (.invokestatic 109, 3) := by decide +kernel
theorem dX12_bail_24 : decode cX12_bail 24 = .ok (.ifCond .eq 14, 3) := by decide +kernel
theorem dX12_bail_27 : decode cX12_bail 27 = .ok (.iload_n 3, 1) := by decide +kernel
theorem dX12_bail_28 : decode cX12_bail 28 = .ok (.iconst (-1), 1) := by decide +kernel
theorem dX12_bail_29 : decode cX12_bail 29 = .ok (.iload_n 2, 1) := by decide +kernel
theorem dX12_bail_30 : decode cX12_bail 30 = .ok (.iconst 1, 1) := by decide +kernel
theorem dX12_bail_31 : decode cX12_bail 31 = .ok (.isub, 1) := by decide +kernel
theorem dX12_bail_32 : decode cX12_bail 32 = .ok (.invokestatic 109, 3) := by decide +kernel
theorem dX12_bail_35 : decode cX12_bail 35 = .ok (.ifCond .ne 5, 3) := by decide +kernel
theorem dX12_bail_38 : decode cX12_bail 38 = .ok (.iconst (-1), 1) := by decide +kernel
theorem dX12_bail_39 : decode cX12_bail 39 = .ok (.ireturn, 1) := by decide +kernel
theorem dX12_bail_40 : decode cX12_bail 40 = .ok (.iconst 1, 1) := by decide +kernel
theorem dX12_bail_41 : decode cX12_bail 41 = .ok (.istore 4, 2) := by decide +kernel
theorem dX12_bail_43 : decode cX12_bail 43 = .ok (.iconst 0, 1) := by decide +kernel
theorem dX12_bail_44 : decode cX12_bail 44 = .ok (.istore 5, 2) := by decide +kernel
theorem dX12_bail_46 : decode cX12_bail 46 = .ok (.iload 5, 2) := by decide +kernel
theorem dX12_bail_48 : decode cX12_bail 48 = .ok (.iload_n 2, 1) := by decide +kernel
theorem dX12_bail_49 : decode cX12_bail 49 = .ok (.if_icmp .ge 20, 3) := by decide +kernel
theorem dX12_bail_52 : decode cX12_bail 52 = .ok (.iload 4, 2) := by decide +kernel
theorem dX12_bail_54 : decode cX12_bail 54 = .ok (.aload_n 0, 1) := by decide +kernel
theorem dX12_bail_55 : decode cX12_bail 55 = .ok (.bipush 15, 2) := by decide +kernel
theorem dX12_bail_57 : decode cX12_bail 57 = .ok (.invokevirtual 180, 3) := by decide +kernel
theorem dX12_bail_60 : decode cX12_bail 60 = .ok (.imul, 1) := by decide +kernel
theorem dX12_bail_61 : decode cX12_bail 61 = .ok (.istore 4, 2) := by decide +kernel
theorem dX12_bail_63 : decode cX12_bail 63 = .ok (.iinc 5 1, 3) := by decide +kernel
theorem dX12_bail_66 : decode cX12_bail 66 = .ok (.goto (-20), 3) := by decide +kernel
theorem dX12_bail_69 : decode cX12_bail 69 = .ok (.iconst 0, 1) := by decide +kernel
theorem dX12_bail_70 : decode cX12_bail 70 = .ok (.istore 5, 2) := by decide +kernel
theorem dX12_bail_72 : decode cX12_bail 72 = .ok (.aload_n 0, 1) := by decide +kernel
theorem dX12_bail_73 : decode cX12_bail 73 = .ok (.iload_n 2, 1) := by decide +kernel
theorem dX12_bail_74 : decode cX12_bail 74 = .ok (.iconst 0, 1) := by decide +kernel
theorem dX12_bail_75 : decode cX12_bail 75 = .ok (.invokevirtual 411, 3) := by decide +kernel
theorem dX12_bail_78 : decode cX12_bail 78 = .ok (.istore 6, 2) := by decide +kernel
theorem dX12_bail_80 : decode cX12_bail 80 = .ok (.iconst 1, 1) := by decide +kernel
theorem dX12_bail_81 : decode cX12_bail 81 = .ok (.istore 7, 2) := by decide +kernel
theorem dX12_bail_83 : decode cX12_bail 83 = .ok (.iload 7, 2) := by decide +kernel
theorem dX12_bail_85 : decode cX12_bail 85 = .ok (.iload 4, 2) := by decide +kernel
theorem dX12_bail_87 : decode cX12_bail 87 = .ok (.if_icmp .ge 50, 3) := by decide +kernel
theorem dX12_bail_90 : decode cX12_bail 90 = .ok (.aload_n 0, 1) := by decide +kernel
theorem dX12_bail_91 : decode cX12_bail 91 = .ok (.iload_n 2, 1) := by decide +kernel
theorem dX12_bail_92 : decode cX12_bail 92 = .ok (.iload 7, 2) := by decide +kernel
theorem dX12_bail_94 : decode cX12_bail 94 = .ok (.invokevirtual 411, 3) := by decide +kernel
theorem dX12_bail_97 : decode cX12_bail 97 = .ok (.istore 8, 2) := by decide +kernel
theorem dX12_bail_99 : decode cX12_bail 99 = .ok (.iload 8, 2) := by decide +kernel
theorem dX12_bail_101 : decode cX12_bail 101 = .ok (.iload 6, 2) := by decide +kernel
theorem dX12_bail_103 : decode cX12_bail 103 = .ok (.if_icmp .ge 8, 3) := by decide +kernel
theorem dX12_bail_106 : decode cX12_bail 106 = .ok (.iload 7, 2) := by decide +kernel
theorem dX12_bail_108 : decode cX12_bail 108 = .ok (.goto 5, 3) := by decide +kernel
theorem dX12_bail_111 : decode cX12_bail 111 = .ok (.iload 5, 2) := by decide +kernel
theorem dX12_bail_113 : decode cX12_bail 113 = .ok (.istore 5, 2) := by decide +kernel
theorem dX12_bail_115 : decode cX12_bail 115 = .ok (.iload 8, 2) := by decide +kernel
theorem dX12_bail_117 : decode cX12_bail 117 = .ok (.iload 6, 2) := by decide +kernel
theorem dX12_bail_119 : decode cX12_bail 119 = .ok (.if_icmp .ge 8, 3) := by decide +kernel
theorem dX12_bail_122 : decode cX12_bail 122 = .ok (.iload 8, 2) := by decide +kernel
theorem dX12_bail_124 : decode cX12_bail 124 = .ok (.goto 5, 3) := by decide +kernel
theorem dX12_bail_127 : decode cX12_bail 127 = .ok (.iload 6, 2) := by decide +kernel
theorem dX12_bail_129 : decode cX12_bail 129 = .ok (.istore 6, 2) := by decide +kernel
theorem dX12_bail_131 : decode cX12_bail 131 = .ok (.iinc 7 1, 3) := by decide +kernel
theorem dX12_bail_134 : decode cX12_bail 134 = .ok (.goto (-51), 3) := by decide +kernel
theorem dX12_bail_137 : decode cX12_bail 137 = .ok (.iload_n 3, 1) := by decide +kernel
theorem dX12_bail_138 : decode cX12_bail 138 = .ok (.iconst (-1), 1) := by decide +kernel
theorem dX12_bail_139 : decode cX12_bail 139 = .ok (.if_icmp .ne 6, 3) := by decide +kernel
theorem dX12_bail_142 : decode cX12_bail 142 = .ok (.iload 6, 2) := by decide +kernel
theorem dX12_bail_144 : decode cX12_bail 144 = .ok (.ireturn, 1) := by decide +kernel
theorem dX12_bail_145 : decode cX12_bail 145 = .ok (.iload_n 2, 1) := by decide +kernel
theorem dX12_bail_146 : decode cX12_bail 146 = .ok (.iconst 1, 1) := by decide +kernel
theorem dX12_bail_147 : decode cX12_bail 147 = .ok (.isub, 1) := by decide +kernel
theorem dX12_bail_148 : decode cX12_bail 148 = .ok (.istore 7, 2) := by decide +kernel
theorem dX12_bail_150 : decode cX12_bail 150 = .ok (.iload 7, 2) := by decide +kernel
theorem dX12_bail_152 : decode cX12_bail 152 = .ok (.iload_n 3, 1) := by decide +kernel
theorem dX12_bail_153 : decode cX12_bail 153 = .ok (.if_icmp .le 20, 3) := by decide +kernel
theorem dX12_bail_156 : decode cX12_bail 156 = .ok (.iload 5, 2) := by decide +kernel
theorem dX12_bail_158 : decode cX12_bail 158 = .ok (.aload_n 0, 1) := by decide +kernel
theorem dX12_bail_159 : decode cX12_bail 159 = .ok (.bipush 15, 2) := by decide +kernel
theorem dX12_bail_161 : decode cX12_bail 161 = .ok (.invokevirtual 180, 3) := by decide +kernel
theorem dX12_bail_164 : decode cX12_bail 164 = .ok (.idiv, 1) := by decide +kernel
theorem dX12_bail_165 : decode cX12_bail 165 = .ok (.istore 5, 2) := by decide +kernel
theorem dX12_bail_167 : decode cX12_bail 167 = .ok (.iinc 7 (-1), 3) := by decide +kernel
theorem dX12_bail_170 : decode cX12_bail 170 = .ok (.goto (-20), 3) := by decide +kernel
theorem dX12_bail_173 : decode cX12_bail 173 = .ok (.iload 5, 2) := by decide +kernel
theorem dX12_bail_175 : decode cX12_bail 175 = .ok (.aload_n 0, 1) := by decide +kernel
theorem dX12_bail_176 : decode cX12_bail 176 = .ok (.bipush 15, 2) := by decide +kernel
theorem dX12_bail_178 : decode cX12_bail 178 = .ok (.invokevirtual 180, 3) := by decide +kernel
theorem dX12_bail_181 : decode cX12_bail 181 = .ok (.irem, 1) := by decide +kernel
theorem dX12_bail_182 : decode cX12_bail 182 = .ok (.ireturn, 1) := by decide +kernel
theorem dX12_isNear_0 : decode cX12_isNear 0 = .ok (.iload_n 1, 1) := by decide +kernel
theorem dX12_isNear_1 : decode cX12_isNear 1 = .ok (.aload_n 0, 1) := by decide +kernel
theorem dX12_isNear_2 : decode cX12_isNear 2 = .ok (.iconst 2, 1) := by decide +kernel
theorem dX12_isNear_3 : decode cX12_isNear 3 = .ok (.invokevirtual 180, 3) := by decide +kernel
theorem dX12_isNear_6 : decode cX12_isNear 6 = .ok (.iadd, 1) := by decide +kernel
theorem dX12_isNear_7 : decode cX12_isNear 7 = .ok (.iload 5, 2) := by decide +kernel
theorem dX12_isNear_9 : decode cX12_isNear 9 = .ok (.if_icmp .gt 18, 3) := by decide +kernel
theorem dX12_isNear_12 : decode cX12_isNear 12 = .ok (.iload 5, 2) := by decide +kernel
theorem dX12_isNear_14 : decode cX12_isNear 14 = .ok (.iload_n 1, 1) := by decide +kernel
theorem dX12_isNear_15 : decode cX12_isNear 15 = .ok (.isub, 1) := by decide +kernel
theorem dX12_isNear_16 : decode cX12_isNear 16 = .ok (.aload_n 0, 1) := by decide +kernel
theorem dX12_isNear_17 : decode cX12_isNear 17 = .ok (.iconst 2, 1) := by decide +kernel
theorem dX12_isNear_18 : decode cX12_isNear 18 = .ok (.invokevirtual 180, 3) := by decide +kernel
theorem dX12_isNear_21 : decode cX12_isNear 21 = .ok (.isub, 1) := by decide +kernel
theorem dX12_isNear_22 : decode cX12_isNear 22 = .ok (.iconst 1, 1) := by decide +kernel
theorem dX12_isNear_23 : decode cX12_isNear 23 = .ok (.iadd, 1) := by decide +kernel
theorem dX12_isNear_24 : decode cX12_isNear 24 = .ok (.goto 23, 3) := by decide +kernel
theorem dX12_isNear_27 : decode cX12_isNear 27 = .ok (.iload 5, 2) := by decide +kernel
theorem dX12_isNear_29 : decode cX12_isNear 29 = .ok (.iload_n 3, 1) := by decide +kernel
theorem dX12_isNear_30 : decode cX12_isNear 30 = .ok (.iadd, 1) := by decide +kernel
theorem dX12_isNear_31 : decode cX12_isNear 31 = .ok (.iload_n 1, 1) := by decide +kernel
theorem dX12_isNear_32 : decode cX12_isNear 32 = .ok (.if_icmp .gt 14, 3) := by decide +kernel
theorem dX12_isNear_35 : decode cX12_isNear 35 = .ok (.iload_n 1, 1) := by decide +kernel
theorem dX12_isNear_36 : decode cX12_isNear 36 = .ok (.iload 5, 2) := by decide +kernel
theorem dX12_isNear_38 : decode cX12_isNear 38 = .ok (.isub, 1) := by decide +kernel
theorem dX12_isNear_39 : decode cX12_isNear 39 = .ok (.iload_n 3, 1) := by decide +kernel
theorem dX12_isNear_40 : decode cX12_isNear 40 = .ok (.isub, 1) := by decide +kernel
theorem dX12_isNear_41 : decode cX12_isNear 41 = .ok (.iconst 1, 1) := by decide +kernel
theorem dX12_isNear_42 : decode cX12_isNear 42 = .ok (.iadd, 1) := by decide +kernel
theorem dX12_isNear_43 : decode cX12_isNear 43 = .ok (.goto 4, 3) := by decide +kernel
theorem dX12_isNear_46 : decode cX12_isNear 46 = .ok (.iconst 0, 1) := by decide +kernel
theorem dX12_isNear_47 : decode cX12_isNear 47 = .ok (.istore 8, 2) := by decide +kernel
theorem dX12_isNear_49 : decode cX12_isNear 49 = .ok (.iload_n 2, 1) := by decide +kernel
theorem dX12_isNear_50 : decode cX12_isNear 50 = .ok (.aload_n 0, 1) := by decide +kernel
theorem dX12_isNear_51 : decode cX12_isNear 51 = .ok (.iconst 3, 1) := by decide +kernel
theorem dX12_isNear_52 : decode cX12_isNear 52 = .ok (.invokevirtual 180, 3) := by decide +kernel
theorem dX12_isNear_55 : decode cX12_isNear 55 = .ok (.iadd, 1) := by decide +kernel
theorem dX12_isNear_56 : decode cX12_isNear 56 = .ok (.iload 6, 2) := by decide +kernel
theorem dX12_isNear_58 : decode cX12_isNear 58 = .ok (.if_icmp .gt 18, 3) := by decide +kernel
theorem dX12_isNear_61 : decode cX12_isNear 61 = .ok (.iload 6, 2) := by decide +kernel
theorem dX12_isNear_63 : decode cX12_isNear 63 = .ok (.iload_n 2, 1) := by decide +kernel
theorem dX12_isNear_64 : decode cX12_isNear 64 = .ok (.isub, 1) := by decide +kernel
theorem dX12_isNear_65 : decode cX12_isNear 65 = .ok (.aload_n 0, 1) := by decide +kernel
theorem dX12_isNear_66 : decode cX12_isNear 66 = .ok (.iconst 3, 1) := by decide +kernel
theorem dX12_isNear_67 : decode cX12_isNear 67 = .ok (.invokevirtual 180, 3) := by decide +kernel
theorem dX12_isNear_70 : decode cX12_isNear 70 = .ok (.isub, 1) := by decide +kernel
theorem dX12_isNear_71 : decode cX12_isNear 71 = .ok (.iconst 1, 1) := by decide +kernel
theorem dX12_isNear_72 : decode cX12_isNear 72 = .ok (.iadd, 1) := by decide +kernel
theorem dX12_isNear_73 : decode cX12_isNear 73 = .ok (.goto 25, 3) := by decide +kernel
theorem dX12_isNear_76 : decode cX12_isNear 76 = .ok (.iload 6, 2) := by decide +kernel
theorem dX12_isNear_78 : decode cX12_isNear 78 = .ok (.iload 4, 2) := by decide +kernel
theorem dX12_isNear_80 : decode cX12_isNear 80 = .ok (.iadd, 1) := by decide +kernel
theorem dX12_isNear_81 : decode cX12_isNear 81 = .ok (.iload_n 2, 1) := by decide +kernel
theorem dX12_isNear_82 : decode cX12_isNear 82 = .ok (.if_icmp .gt 15, 3) := by decide +kernel
theorem dX12_isNear_85 : decode cX12_isNear 85 = .ok (.iload_n 2, 1) := by decide +kernel
theorem dX12_isNear_86 : decode cX12_isNear 86 = .ok (.iload 6, 2) := by decide +kernel
theorem dX12_isNear_88 : decode cX12_isNear 88 = .ok (.isub, 1) := by decide +kernel
theorem dX12_isNear_89 : decode cX12_isNear 89 = .ok (.iload 4, 2) := by decide +kernel
theorem dX12_isNear_91 : decode cX12_isNear 91 = .ok (.isub, 1) := by decide +kernel
theorem dX12_isNear_92 : decode cX12_isNear 92 = .ok (.iconst 1, 1) := by decide +kernel
theorem dX12_isNear_93 : decode cX12_isNear 93 = .ok (.iadd, 1) := by decide +kernel
theorem dX12_isNear_94 : decode cX12_isNear 94 = .ok (.goto 4, 3) := by decide +kernel
theorem dX12_isNear_97 : decode cX12_isNear 97 = .ok (.iconst 0, 1) := by decide +kernel
theorem dX12_isNear_98 : decode cX12_isNear 98 = .ok (.istore 9, 2) := by decide +kernel
theorem dX12_isNear_100 : decode cX12_isNear 100 = .ok (.iload 8, 2) := by decide +kernel
theorem dX12_isNear_102 : decode cX12_isNear 102 = .ok (.iload 9, 2) := by decide +kernel
theorem dX12_isNear_104 : decode cX12_isNear 104 = .ok (.iadd, 1) := by decide +kernel
theorem dX12_isNear_105 : decode cX12_isNear 105 = .ok (.iload 7, 2) := by decide +kernel
theorem dX12_isNear_107 : decode cX12_isNear 107 = .ok (.ifCond .eq 7, 3) := by decide +kernel
theorem dX12_isNear_110 : decode cX12_isNear 110 = .ok (.iconst 1, 1) := by decide +kernel
theorem dX12_isNear_111 : decode cX12_isNear 111 = .ok (.goto 4, 3) := by decide +kernel
theorem dX12_isNear_114 : decode cX12_isNear 114 = .ok (.iconst 0, 1) := by decide +kernel
theorem dX12_isNear_115 : decode cX12_isNear 115 = .ok (.if_icmp .gt 7, 3) := by decide +kernel
theorem dX12_isNear_118 : decode cX12_isNear 118 = .ok (.iconst 1, 1) := by decide +kernel
theorem dX12_isNear_119 : decode cX12_isNear 119 = .ok (.goto 4, 3) := by decide +kernel
theorem dX12_isNear_122 : decode cX12_isNear 122 = .ok (.iconst 0, 1) := by decide +kernel
theorem dX12_isNear_123 : decode cX12_isNear 123 = .ok (.ireturn, 1) := by decide +kernel
theorem dX12_canLieOther_0 : decode cX12_canLieOther 0 = .ok (.iload_n 1, 1) := by decide +kernel
theorem dX12_canLieOther_1 : decode cX12_canLieOther 1 = .ok (.ifCond .lt 34, 3) := by decide +kernel
theorem dX12_canLieOther_4 : decode cX12_canLieOther 4 = .ok (.iload_n 2, 1) := by decide +kernel
theorem dX12_canLieOther_5 : decode cX12_canLieOther 5 = .ok (.ifCond .lt 30, 3) := by decide +kernel
theorem dX12_canLieOther_8 : decode cX12_canLieOther 8 = .ok (.iload_n 1, 1) := by decide +kernel
theorem dX12_canLieOther_9 : decode cX12_canLieOther 9 = .ok (.iload_n 3, 1) := by decide +kernel
theorem dX12_canLieOther_10 : decode cX12_canLieOther 10 = .ok (.iadd, 1) := by decide +kernel
theorem dX12_canLieOther_11 : decode cX12_canLieOther 11 = .ok (.aload_n 0, 1) := by decide +kernel
theorem dX12_canLieOther_12 : decode cX12_canLieOther 12 = .ok (.iconst 0, 1) := by decide +kernel
theorem dX12_canLieOther_13 : decode cX12_canLieOther 13 = .ok (.invokevirtual 180, 3) := by decide +kernel
theorem dX12_canLieOther_16 : decode cX12_canLieOther 16 = .ok (.if_icmp .gt 19, 3) := by decide +kernel
theorem dX12_canLieOther_19 : decode cX12_canLieOther 19 = .ok (.iload_n 2, 1) := by decide +kernel
theorem dX12_canLieOther_20 : decode cX12_canLieOther 20 = .ok (.iload 4, 2) := by decide +kernel
theorem dX12_canLieOther_22 : decode cX12_canLieOther 22 = .ok (.iadd, 1) := by decide +kernel
theorem dX12_canLieOther_23 : decode cX12_canLieOther 23 = .ok (.aload_n 0, 1) := by decide +kernel
theorem dX12_canLieOther_24 : decode cX12_canLieOther 24 = .ok (.iconst 1, 1) := by decide +kernel
theorem dX12_canLieOther_25 : decode cX12_canLieOther 25 = .ok (.invokevirtual 180, 3) := by decide +kernel
theorem dX12_canLieOther_28 : decode cX12_canLieOther 28 = .ok (.if_icmp .gt 7, 3) := by decide +kernel
theorem dX12_canLieOther_31 : decode cX12_canLieOther 31 = .ok (.iconst 1, 1) := by decide +kernel
theorem dX12_canLieOther_32 : decode cX12_canLieOther 32 = .ok (.goto 4, 3) := by decide +kernel
theorem dX12_canLieOther_35 : decode cX12_canLieOther 35 = .ok (.iconst 0, 1) := by decide +kernel
theorem dX12_canLieOther_36 : decode cX12_canLieOther 36 = .ok (.istore 5, 2) := by decide +kernel
theorem dX12_canLieOther_38 : decode cX12_canLieOther 38 = .ok (.iconst 0, 1) := by decide +kernel
theorem dX12_canLieOther_39 : decode cX12_canLieOther 39 = .ok (.istore 6, 2) := by decide +kernel
theorem dX12_canLieOther_41 : decode cX12_canLieOther 41 = .ok (.iload 6, 2) := by decide +kernel
theorem dX12_canLieOther_43 : decode cX12_canLieOther 43 = .ok (.aload_n 0, 1) := by decide +kernel
theorem dX12_canLieOther_44 : decode cX12_canLieOther 44 = .ok (.bipush 11, 2) := by decide +kernel
theorem dX12_canLieOther_46 : decode cX12_canLieOther 46 = .ok (.invokevirtual 180, 3) := by decide +kernel
theorem dX12_canLieOther_49 : decode cX12_canLieOther 49 = .ok (.if_icmp .ge 70, 3) := by decide +kernel
theorem dX12_canLieOther_52 : decode cX12_canLieOther 52 = .ok (.iload 5, 2) := by decide +kernel
theorem dX12_canLieOther_54 : decode cX12_canLieOther 54 = .ok (.ifCond .eq 56, 3) := by decide +kernel
theorem dX12_canLieOther_57 : decode cX12_canLieOther 57 = .ok (.aload_n 0, 1) := by decide +kernel
theorem dX12_canLieOther_58 : decode cX12_canLieOther 58 = .ok (.bipush 16, 2) := by decide +kernel
theorem dX12_canLieOther_60 : decode cX12_canLieOther 60 = .ok (.iconst 2, 1) := by decide +kernel
theorem dX12_canLieOther_61 : decode cX12_canLieOther 61 = .ok (.iload 6, 2) := by decide +kernel
theorem dX12_canLieOther_63 : decode cX12_canLieOther 63 = .ok (.imul, 1) := by decide +kernel
theorem dX12_canLieOther_64 : decode cX12_canLieOther 64 = .ok (.iadd, 1) := by decide +kernel
theorem dX12_canLieOther_65 : decode cX12_canLieOther 65 = .ok (.invokevirtual 180, 3) := by decide +kernel
theorem dX12_canLieOther_68 : decode cX12_canLieOther 68 = .ok (.iload_n 1, 1) := by decide +kernel
theorem dX12_canLieOther_69 : decode cX12_canLieOther 69 = .ok (.iload_n 1, 1) := by decide +kernel
theorem dX12_canLieOther_70 : decode cX12_canLieOther 70 = .ok (.iload_n 3, 1) := by decide +kernel
theorem dX12_canLieOther_71 : decode cX12_canLieOther 71 = .ok (.iadd, 1) := by decide +kernel
theorem dX12_canLieOther_72 : decode cX12_canLieOther 72 = .ok (.iconst 1, 1) := by decide +kernel
theorem dX12_canLieOther_73 : decode cX12_canLieOther 73 = .ok (.isub, 1) := by decide +kernel
theorem dX12_canLieOther_74 : decode cX12_canLieOther 74 = .ok (.invokestatic 109, 3) := by decide +kernel
theorem dX12_canLieOther_77 : decode cX12_canLieOther 77 = .ok (.ifCond .eq 29, 3) := by decide +kernel
theorem dX12_canLieOther_80 : decode cX12_canLieOther 80 = .ok (.aload_n 0, 1) := by decide +kernel
theorem dX12_canLieOther_81 : decode cX12_canLieOther 81 = .ok (.bipush 16, 2) := by decide +kernel
theorem dX12_canLieOther_83 : decode cX12_canLieOther 83 = .ok (.iconst 2, 1) := by decide +kernel
theorem dX12_canLieOther_84 : decode cX12_canLieOther 84 = .ok (.iload 6, 2) := by decide +kernel
theorem dX12_canLieOther_86 : decode cX12_canLieOther 86 = .ok (.imul, 1) := by decide +kernel
theorem dX12_canLieOther_87 : decode cX12_canLieOther 87 = .ok (.iadd, 1) := by decide +kernel
theorem dX12_canLieOther_88 : decode cX12_canLieOther 88 = .ok (.iconst 1, 1) := by decide +kernel
theorem dX12_canLieOther_89 : decode cX12_canLieOther 89 = .ok (.iadd, 1) := by decide +kernel
theorem dX12_canLieOther_90 : decode cX12_canLieOther 90 = .ok (.invokevirtual 180, 3) := by decide +kernel
theorem dX12_canLieOther_93 : decode cX12_canLieOther 93 = .ok (.iload_n 2, 1) := by decide +kernel
theorem dX12_canLieOther_94 : decode cX12_canLieOther 94 = .ok (.iload_n 2, 1) := by decide +kernel
theorem dX12_canLieOther_95 : decode cX12_canLieOther 95 = .ok (.iload 4, 2) := by decide +kernel
theorem dX12_canLieOther_97 : decode cX12_canLieOther 97 = .ok (.iadd, 1) := by decide +kernel
theorem dX12_canLieOther_98 : decode cX12_canLieOther 98 = .ok (.iconst 1, 1) := by decide +kernel
theorem dX12_canLieOther_99 : decode cX12_canLieOther 99 = .ok (.isub, 1) := by decide +kernel
theorem dX12_canLieOther_100 : decode cX12_canLieOther 100 = .ok (.invokestatic 109, 3) := by decide +kernel
theorem dX12_canLieOther_103 : decode cX12_canLieOther 103 = .ok (.ifCond .ne 7, 3) := by decide +kernel
theorem dX12_canLieOther_106 : decode cX12_canLieOther 106 = .ok (.iconst 1, 1) := by decide +kernel
theorem dX12_canLieOther_107 : decode cX12_canLieOther 107 = .ok (.goto 4, 3) := by decide +kernel
theorem dX12_canLieOther_110 : decode cX12_canLieOther 110 = .ok (.iconst 0, 1) := by decide +kernel
theorem dX12_canLieOther_111 : decode cX12_canLieOther 111 = .ok (.istore 5, 2) := by decide +kernel
theorem dX12_canLieOther_113 : decode cX12_canLieOther 113 = .ok (.iinc 6 1, 3) := by decide +kernel
theorem dX12_canLieOther_116 : decode cX12_canLieOther 116 = .ok (.goto (-75), 3) := by decide +kernel
theorem dX12_canLieOther_119 : decode cX12_canLieOther 119 = .ok (.iload 5, 2) := by decide +kernel
theorem dX12_canLieOther_121 : decode cX12_canLieOther 121 = .ok (.ireturn, 1) := by decide +kernel
theorem dX12_meet_0 : decode cX12_meet 0 = .ok (.aload_n 0, 1) := by decide +kernel
theorem dX12_meet_1 : decode cX12_meet 1 = .ok (.iload_n 1, 1) := by decide +kernel
theorem dX12_meet_2 : decode cX12_meet 2 = .ok (.invokevirtual 186, 3) := by decide +kernel
theorem dX12_meet_5 : decode cX12_meet 5 = .ok (.ifCond .eq 12, 3) := by decide +kernel
theorem dX12_meet_8 : decode cX12_meet 8 = .ok (.aload_n 0, 1) := by decide +kernel
theorem dX12_meet_9 : decode cX12_meet 9 = .ok (.iconst 0, 1) := by decide +kernel
theorem dX12_meet_10 : decode cX12_meet 10 = .ok (.iload_n 2, 1) := by decide +kernel
theorem dX12_meet_11 : decode cX12_meet 11 = .ok (.invokevirtual 144, 3) := by decide +kernel
theorem dX12_meet_14 : decode cX12_meet 14 = .ok (.ifCond .ne 5, 3) := by decide +kernel
theorem dX12_meet_17 : decode cX12_meet 17 = .ok (.iconst (-1), 1) := by decide +kernel
theorem dX12_meet_18 : decode cX12_meet 18 = .ok (.ireturn, 1) := by decide +kernel
theorem dX12_meet_19 : decode cX12_meet 19 = .ok (.aload_n 0, 1) := by decide +kernel
theorem dX12_meet_20 : decode cX12_meet 20 = .ok (.getfield 177, 3) := by decide +kernel
theorem dX12_meet_23 : decode cX12_meet 23 = .ok (.istore 4, 2) := by decide +kernel
theorem dX12_meet_25 : decode cX12_meet 25 = .ok (.aload_n 0, 1) := by decide +kernel
theorem dX12_meet_26 : decode cX12_meet 26 = .ok (.iload_n 2, 1) := by decide +kernel
theorem dX12_meet_27 : decode cX12_meet 27 = .ok (.invokevirtual 186, 3) := by decide +kernel
theorem dX12_meet_30 : decode cX12_meet 30 = .ok (.pop, 1) := by decide +kernel
theorem dX12_meet_31 : decode cX12_meet 31 = .ok (.aload_n 0, 1) := by decide +kernel
theorem dX12_meet_32 : decode cX12_meet 32 = .ok (.iconst 2, 1) := by decide +kernel
theorem dX12_meet_33 : decode cX12_meet 33 = .ok (.invokevirtual 180, 3) := by decide +kernel
theorem dX12_meet_36 : decode cX12_meet 36 = .ok (.istore 5, 2) := by decide +kernel
theorem dX12_meet_38 : decode cX12_meet 38 = .ok (.aload_n 0, 1) := by decide +kernel
theorem dX12_meet_39 : decode cX12_meet 39 = .ok (.iconst 3, 1) := by decide +kernel
theorem dX12_meet_40 : decode cX12_meet 40 = .ok (.invokevirtual 180, 3) := by decide +kernel
theorem dX12_meet_43 : decode cX12_meet 43 = .ok (.istore 6, 2) := by decide +kernel
theorem dX12_meet_45 : decode cX12_meet 45 = .ok (.aload_n 0, 1) := by decide +kernel
theorem dX12_meet_46 : decode cX12_meet 46 = .ok (.iconst 4, 1) := by decide +kernel
theorem dX12_meet_47 : decode cX12_meet 47 = .ok (.invokevirtual 180, 3) := by decide +kernel
theorem dX12_meet_50 : decode cX12_meet 50 = .ok (.istore 7, 2) := by decide +kernel
theorem dX12_meet_52 : decode cX12_meet 52 = .ok (.aload_n 0, 1) := by decide +kernel
theorem dX12_meet_53 : decode cX12_meet 53 = .ok (.iconst 5, 1) := by decide +kernel
theorem dX12_meet_54 : decode cX12_meet 54 = .ok (.invokevirtual 180, 3) := by decide +kernel
theorem dX12_meet_57 : decode cX12_meet 57 = .ok (.istore 8, 2) := by decide +kernel
theorem dX12_meet_59 : decode cX12_meet 59 = .ok (.aload_n 0, 1) := by decide +kernel
theorem dX12_meet_60 : decode cX12_meet 60 = .ok (.aload_n 0, 1) := by decide +kernel
theorem dX12_meet_61 : decode cX12_meet 61 = .ok (.iconst 0, 1) := by decide +kernel
theorem dX12_meet_62 : decode cX12_meet 62 = .ok (.iconst (-1), 1) := by decide +kernel
theorem dX12_meet_63 : decode cX12_meet 63 = .ok (.invokevirtual 254, 3) := by decide +kernel
theorem dX12_meet_66 : decode cX12_meet 66 = .ok (.invokevirtual 263, 3) := by decide +kernel
theorem dX12_meet_69 : decode cX12_meet 69 = .ok (.istore 9, 2) := by decide +kernel
theorem dX12_meet_71 : decode cX12_meet 71 = .ok (.aload_n 0, 1) := by decide +kernel
theorem dX12_meet_72 : decode cX12_meet 72 = .ok (.aload_n 0, 1) := by decide +kernel
theorem dX12_meet_73 : decode cX12_meet 73 = .ok (.iconst 1, 1) := by decide +kernel
theorem dX12_meet_74 : decode cX12_meet 74 = .ok (.iconst (-1), 1) := by decide +kernel
theorem dX12_meet_75 : decode cX12_meet 75 = .ok (.invokevirtual 254, 3) := by decide +kernel
theorem dX12_meet_78 : decode cX12_meet 78 = .ok (.invokevirtual 263, 3) := by decide +kernel
theorem dX12_meet_81 : decode cX12_meet 81 = .ok (.istore 10, 2) := by decide +kernel
theorem dX12_meet_83 : decode cX12_meet 83 = .ok (.aload_n 0, 1) := by decide +kernel
theorem dX12_meet_84 : decode cX12_meet 84 = .ok (.iload 4, 2) := by decide +kernel
theorem dX12_meet_86 : decode cX12_meet 86 = .ok (.putfield 177, 3) := by decide +kernel
theorem dX12_meet_89 : decode cX12_meet 89 = .ok (.iload 7, 2) := by decide +kernel
theorem dX12_meet_91 : decode cX12_meet 91 = .ok (.iload 5, 2) := by decide +kernel
theorem dX12_meet_93 : decode cX12_meet 93 = .ok (.iadd, 1) := by decide +kernel
theorem dX12_meet_94 : decode cX12_meet 94 = .ok (.aload_n 0, 1) := by decide +kernel
theorem dX12_meet_95 : decode cX12_meet 95 = .ok (.iconst 0, 1) := by decide +kernel
theorem dX12_meet_96 : decode cX12_meet 96 = .ok (.invokevirtual 180, 3) := by decide +kernel
theorem dX12_meet_99 : decode cX12_meet 99 = .ok (.if_icmp .gt 16, 3) := by decide +kernel
theorem dX12_meet_102 : decode cX12_meet 102 = .ok (.iload 8, 2) := by decide +kernel
theorem dX12_meet_104 : decode cX12_meet 104 = .ok (.iload 6, 2) := by decide +kernel
theorem dX12_meet_106 : decode cX12_meet 106 = .ok (.iadd, 1) := by decide +kernel
theorem dX12_meet_107 : decode cX12_meet 107 = .ok (.aload_n 0, 1) := by decide +kernel
theorem dX12_meet_108 : decode cX12_meet 108 = .ok (.iconst 1, 1) := by decide +kernel
theorem dX12_meet_109 : decode cX12_meet 109 = .ok (.invokevirtual 180, 3) := by decide +kernel
theorem dX12_meet_112 : decode cX12_meet 112 = .ok (.if_icmp .le 5, 3) := by decide +kernel
theorem dX12_meet_115 : decode cX12_meet 115 = .ok (.iconst (-1), 1) := by decide +kernel
theorem dX12_meet_116 : decode cX12_meet 116 = .ok (.ireturn, 1) := by decide +kernel
theorem dX12_meet_117 : decode cX12_meet 117 = .ok (.aload_n 0, 1) := by decide +kernel
theorem dX12_meet_118 : decode cX12_meet 118 = .ok (.invokevirtual 295, 3) := by decide +kernel
theorem dX12_meet_121 : decode cX12_meet 121 = .ok (.iconst 0, 1) := by decide +kernel
theorem dX12_meet_122 : decode cX12_meet 122 = .ok (.istore 11, 2) := by decide +kernel
theorem dX12_meet_124 : decode cX12_meet 124 = .ok (.iload 11, 2) := by decide +kernel
theorem dX12_meet_126 : decode cX12_meet 126 = .ok (.bipush 40, 2) := by decide +kernel
theorem dX12_meet_128 : decode cX12_meet 128 = .ok (.if_icmp .gt 99, 3) := by decide +kernel
theorem dX12_meet_131 : decode cX12_meet 131 = .ok (.aload_n 0, 1) := by decide +kernel
theorem dX12_meet_132 : decode cX12_meet 132 = .ok (.aload_n 0, 1) := by decide +kernel
theorem dX12_meet_133 : decode cX12_meet 133 = .ok (.getfield 218, 3) := by decide +kernel
theorem dX12_meet_136 : decode cX12_meet 136 = .ok (.aload_n 0, 1) := by decide +kernel
theorem dX12_meet_137 : decode cX12_meet 137 = .ok (.getfield 221, 3) := by decide +kernel
theorem dX12_meet_140 : decode cX12_meet 140 = .ok (.iload 5, 2) := by decide +kernel
theorem dX12_meet_142 : decode cX12_meet 142 = .ok (.iload 6, 2) := by decide +kernel
theorem dX12_meet_144 : decode cX12_meet 144 = .ok (.iload 7, 2) := by decide +kernel
theorem dX12_meet_146 : decode cX12_meet 146 = .ok (.iload 8, 2) := by decide +kernel
theorem dX12_meet_148 : decode cX12_meet 148 = .ok (.iload_n 3, 1) := by decide +kernel
theorem dX12_meet_149 : decode cX12_meet 149 = .ok (.invokevirtual 414, 3) := by decide +kernel
theorem dX12_meet_152 : decode cX12_meet 152 = .ok (.ifCond .eq 6, 3) := by decide +kernel
theorem dX12_meet_155 : decode cX12_meet 155 = .ok (.iload 11, 2) := by decide +kernel
theorem dX12_meet_157 : decode cX12_meet 157 = .ok (.ireturn, 1) := by decide +kernel
theorem dX12_meet_158 : decode cX12_meet 158 = .ok (.aload_n 0, 1) := by decide +kernel
theorem dX12_meet_159 : decode cX12_meet 159 = .ok (.iconst 0, 1) := by decide +kernel
theorem dX12_meet_160 : decode cX12_meet 160 = .ok (.invokevirtual 291, 3) := by decide +kernel
theorem dX12_meet_163 : decode cX12_meet 163 = .ok (.iload 7, 2) := by decide +kernel
theorem dX12_meet_165 : decode cX12_meet 165 = .ok (.aload_n 0, 1) := by decide +kernel
theorem dX12_meet_166 : decode cX12_meet 166 = .ok (.iload 7, 2) := by decide +kernel
theorem dX12_meet_168 : decode cX12_meet 168 = .ok (.iload 9, 2) := by decide +kernel
theorem dX12_meet_170 : decode cX12_meet 170 = .ok (.iadd, 1) := by decide +kernel
theorem dX12_meet_171 : decode cX12_meet 171 = .ok (.iload 8, 2) := by decide +kernel
theorem dX12_meet_173 : decode cX12_meet 173 = .ok (.iload 5, 2) := by decide +kernel
theorem dX12_meet_175 : decode cX12_meet 175 = .ok (.iload 6, 2) := by decide +kernel
theorem dX12_meet_177 : decode cX12_meet 177 = .ok (.invokevirtual 418, 3) := by decide +kernel
theorem dX12_meet_180 : decode cX12_meet 180 = .ok (.ifCond .eq 8, 3) := by decide +kernel
theorem dX12_meet_183 : decode cX12_meet 183 = .ok (.iload 9, 2) := by decide +kernel
theorem dX12_meet_185 : decode cX12_meet 185 = .ok (.goto 4, 3) := by decide +kernel
theorem dX12_meet_188 : decode cX12_meet 188 = .ok (.iconst 0, 1) := by decide +kernel
theorem dX12_meet_189 : decode cX12_meet 189 = .ok (.iadd, 1) := by decide +kernel
theorem dX12_meet_190 : decode cX12_meet 190 = .ok (.istore 7, 2) := by decide +kernel
theorem dX12_meet_192 : decode cX12_meet 192 = .ok (.iload 8, 2) := by decide +kernel
theorem dX12_meet_194 : decode cX12_meet 194 = .ok (.aload_n 0, 1) := by decide +kernel
theorem dX12_meet_195 : decode cX12_meet 195 = .ok (.iload 7, 2) := by decide +kernel
theorem dX12_meet_197 : decode cX12_meet 197 = .ok (.iload 8, 2) := by decide +kernel
theorem dX12_meet_199 : decode cX12_meet 199 = .ok (.iload 10, 2) := by decide +kernel
theorem dX12_meet_201 : decode cX12_meet 201 = .ok (.iadd, 1) := by decide +kernel
theorem dX12_meet_202 : decode cX12_meet 202 = .ok (.iload 5, 2) := by decide +kernel
theorem dX12_meet_204 : decode cX12_meet 204 = .ok (.iload 6, 2) := by decide +kernel
theorem dX12_meet_206 : decode cX12_meet 206 = .ok (.invokevirtual 418, 3) := by decide +kernel
theorem dX12_meet_209 : decode cX12_meet 209 = .ok (.ifCond .eq 8, 3) := by decide +kernel
theorem dX12_meet_212 : decode cX12_meet 212 = .ok (.iload 10, 2) := by decide +kernel
theorem dX12_meet_214 : decode cX12_meet 214 = .ok (.goto 4, 3) := by decide +kernel
theorem dX12_meet_217 : decode cX12_meet 217 = .ok (.iconst 0, 1) := by decide +kernel
theorem dX12_meet_218 : decode cX12_meet 218 = .ok (.iadd, 1) := by decide +kernel
theorem dX12_meet_219 : decode cX12_meet 219 = .ok (.istore 8, 2) := by decide +kernel
theorem dX12_meet_221 : decode cX12_meet 221 = .ok (.iinc 11 1, 3) := by decide +kernel
theorem dX12_meet_224 : decode cX12_meet 224 = .ok (.goto (-100), 3) := by decide +kernel
theorem dX12_meet_227 : decode cX12_meet 227 = .ok (.iconst (-1), 1) := by decide +kernel
theorem dX12_meet_228 : decode cX12_meet 228 = .ok (.ireturn, 1) := by decide +kernel
theorem dX12_below_0 : decode cX12_below 0 = .ok (.aload_n 0, 1) := by decide +kernel
theorem dX12_below_1 : decode cX12_below 1 = .ok (.aload_n 0, 1) := by decide +kernel
theorem dX12_below_2 : decode cX12_below 2 = .ok (.getfield 422, 3) := by decide +kernel
theorem dX12_below_5 : decode cX12_below 5 = .ok (.ldc_w 425, 3) := by decide +kernel
theorem dX12_below_8 : decode cX12_below 8 = .ok (.imul, 1) := by decide +kernel
theorem dX12_below_9 : decode cX12_below 9 = .ok (.sipush 12345, 3) := by decide +kernel
theorem dX12_below_12 : decode cX12_below 12 = .ok (.iadd, 1) := by decide +kernel
theorem dX12_below_13 : decode cX12_below 13 = .ok (.putfield 422, 3) := by decide +kernel
theorem dX12_below_16 : decode cX12_below 16 = .ok (.aload_n 0, 1) := by decide +kernel
theorem dX12_below_17 : decode cX12_below 17 = .ok (.getfield 422, 3) := by decide +kernel
theorem dX12_below_20 : decode cX12_below 20 = .ok (.bipush 16, 2) := by decide +kernel
theorem dX12_below_22 : decode cX12_below 22 = .ok (.iushr, 1) := by decide +kernel
theorem dX12_below_23 : decode cX12_below 23 = .ok (.iload_n 1, 1) := by decide +kernel
theorem dX12_below_24 : decode cX12_below 24 = .ok (.irem, 1) := by decide +kernel
theorem dX12_below_25 : decode cX12_below 25 = .ok (.ireturn, 1) := by decide +kernel
theorem dX12_drawn_0 : decode cX12_drawn 0 = .ok (.aload_n 0, 1) := by decide +kernel
theorem dX12_drawn_1 : decode cX12_drawn 1 = .ok (.iload_n 1, 1) := by decide +kernel
theorem dX12_drawn_2 : decode cX12_drawn 2 = .ok (.invokevirtual 186, 3) := by decide +kernel
theorem dX12_drawn_5 : decode cX12_drawn 5 = .ok (.ifCond .eq 23, 3) := by decide +kernel
theorem dX12_drawn_8 : decode cX12_drawn 8 = .ok (.iload_n 3, 1) := by decide +kernel
theorem dX12_drawn_9 : decode cX12_drawn 9 = .ok (.iconst 1, 1) := by decide +kernel
theorem dX12_drawn_10 : decode cX12_drawn 10 = .ok (.bipush 40, 2) := by decide +kernel
theorem dX12_drawn_12 : decode cX12_drawn 12 = .ok (.invokestatic 109, 3) := by decide +kernel
theorem dX12_drawn_15 : decode cX12_drawn 15 = .ok (.ifCond .eq 13, 3) := by decide +kernel
theorem dX12_drawn_18 : decode cX12_drawn 18 = .ok (.iload 4, 2) := by decide +kernel
theorem dX12_drawn_20 : decode cX12_drawn 20 = .ok (.iconst 0, 1) := by decide +kernel
theorem dX12_drawn_21 : decode cX12_drawn 21 = .ok (.iconst 4, 1) := by decide +kernel
theorem dX12_drawn_22 : decode cX12_drawn 22 = .ok (.invokestatic 109, 3) := by decide +kernel
theorem dX12_drawn_25 : decode cX12_drawn 25 = .ok (.ifCond .ne 6, 3) := by decide +kernel
theorem dX12_drawn_28 : decode cX12_drawn 28 = .ok (.bipush (-2), 2) := by decide +kernel
theorem dX12_drawn_30 : decode cX12_drawn 30 = .ok (.ireturn, 1) := by decide +kernel
theorem dX12_drawn_31 : decode cX12_drawn 31 = .ok (.aload_n 0, 1) := by decide +kernel
theorem dX12_drawn_32 : decode cX12_drawn 32 = .ok (.invokevirtual 295, 3) := by decide +kernel
theorem dX12_drawn_35 : decode cX12_drawn 35 = .ok (.aload_n 0, 1) := by decide +kernel
theorem dX12_drawn_36 : decode cX12_drawn 36 = .ok (.iload_n 2, 1) := by decide +kernel
theorem dX12_drawn_37 : decode cX12_drawn 37 = .ok (.putfield 422, 3) := by decide +kernel
theorem dX12_drawn_40 : decode cX12_drawn 40 = .ok (.iconst 0, 1) := by decide +kernel
theorem dX12_drawn_41 : decode cX12_drawn 41 = .ok (.istore 5, 2) := by decide +kernel
theorem dX12_drawn_43 : decode cX12_drawn 43 = .ok (.iload 5, 2) := by decide +kernel
theorem dX12_drawn_45 : decode cX12_drawn 45 = .ok (.iload_n 3, 1) := by decide +kernel
theorem dX12_drawn_46 : decode cX12_drawn 46 = .ok (.if_icmp .ge 67, 3) := by decide +kernel
theorem dX12_drawn_49 : decode cX12_drawn 49 = .ok (.aload_n 0, 1) := by decide +kernel
theorem dX12_drawn_50 : decode cX12_drawn 50 = .ok (.aload_n 0, 1) := by decide +kernel
theorem dX12_drawn_51 : decode cX12_drawn 51 = .ok (.iconst 5, 1) := by decide +kernel
theorem dX12_drawn_52 : decode cX12_drawn 52 = .ok (.invokevirtual 426, 3) := by decide +kernel
theorem dX12_drawn_55 : decode cX12_drawn 55 = .ok (.putfield 245, 3) := by decide +kernel
theorem dX12_drawn_58 : decode cX12_drawn 58 = .ok (.aload_n 0, 1) := by decide +kernel
theorem dX12_drawn_59 : decode cX12_drawn 59 = .ok (.aload_n 0, 1) := by decide +kernel
theorem dX12_drawn_60 : decode cX12_drawn 60 = .ok (.getfield 245, 3) := by decide +kernel
theorem dX12_drawn_63 : decode cX12_drawn 63 = .ok (.iconst 4, 1) := by decide +kernel
theorem dX12_drawn_64 : decode cX12_drawn 64 = .ok (.if_icmp .ne 7, 3) := by decide +kernel
theorem dX12_drawn_67 : decode cX12_drawn 67 = .ok (.iconst 0, 1) := by decide +kernel
theorem dX12_drawn_68 : decode cX12_drawn 68 = .ok (.goto 11, 3) := by decide +kernel
theorem dX12_drawn_71 : decode cX12_drawn 71 = .ok (.aload_n 0, 1) := by decide +kernel
theorem dX12_drawn_72 : decode cX12_drawn 72 = .ok (.bipush 9, 2) := by decide +kernel
theorem dX12_drawn_74 : decode cX12_drawn 74 = .ok (.invokevirtual 426, 3) := by decide +kernel
theorem dX12_drawn_77 : decode cX12_drawn 77 = .ok (.iconst 1, 1) := by decide +kernel
theorem dX12_drawn_78 : decode cX12_drawn 78 = .ok (.iadd, 1) := by decide +kernel
theorem dX12_drawn_79 : decode cX12_drawn 79 = .ok (.putfield 248, 3) := by decide +kernel
theorem dX12_drawn_82 : decode cX12_drawn 82 = .ok (.aload_n 0, 1) := by decide +kernel
theorem dX12_drawn_83 : decode cX12_drawn 83 = .ok (.aload_n 0, 1) := by decide +kernel
theorem dX12_drawn_84 : decode cX12_drawn 84 = .ok (.getfield 245, 3) := by decide +kernel
theorem dX12_drawn_87 : decode cX12_drawn 87 = .ok (.iconst 4, 1) := by decide +kernel
theorem dX12_drawn_88 : decode cX12_drawn 88 = .ok (.if_icmp .ne 7, 3) := by decide +kernel
theorem dX12_drawn_91 : decode cX12_drawn 91 = .ok (.iconst (-1), 1) := by decide +kernel
theorem dX12_drawn_92 : decode cX12_drawn 92 = .ok (.goto 7, 3) := by decide +kernel
theorem dX12_drawn_95 : decode cX12_drawn 95 = .ok (.aload_n 0, 1) := by decide +kernel
theorem dX12_drawn_96 : decode cX12_drawn 96 = .ok (.getfield 245, 3) := by decide +kernel
theorem dX12_drawn_99 : decode cX12_drawn 99 = .ok (.putfield 245, 3) := by decide +kernel
theorem dX12_drawn_102 : decode cX12_drawn 102 = .ok (.aload_n 0, 1) := by decide +kernel
theorem dX12_drawn_103 : decode cX12_drawn 103 = .ok (.iconst 1, 1) := by decide +kernel
theorem dX12_drawn_104 : decode cX12_drawn 104 = .ok (.invokevirtual 291, 3) := by decide +kernel
theorem dX12_drawn_107 : decode cX12_drawn 107 = .ok (.iinc 5 1, 3) := by decide +kernel
theorem dX12_drawn_110 : decode cX12_drawn 110 = .ok (.goto (-67), 3) := by decide +kernel
theorem dX12_drawn_113 : decode cX12_drawn 113 = .ok (.iload 4, 2) := by decide +kernel
theorem dX12_drawn_115 : decode cX12_drawn 115 = .ok (.ifCond .ne 10, 3) := by decide +kernel
theorem dX12_drawn_118 : decode cX12_drawn 118 = .ok (.aload_n 0, 1) := by decide +kernel
theorem dX12_drawn_119 : decode cX12_drawn 119 = .ok (.getfield 218, 3) := by decide +kernel
theorem dX12_drawn_122 : decode cX12_drawn 122 = .ok (.goto 54, 3) := by decide +kernel
theorem dX12_drawn_125 : decode cX12_drawn 125 = .ok (.iload 4, 2) := by decide +kernel
theorem dX12_drawn_127 : decode cX12_drawn 127 = .ok (.iconst 1, 1) := by decide +kernel
theorem dX12_drawn_128 : decode cX12_drawn 128 = .ok (.if_icmp .ne 10, 3) := by decide +kernel
theorem dX12_drawn_131 : decode cX12_drawn 131 = .ok (.aload_n 0, 1) := by decide +kernel
theorem dX12_drawn_132 : decode cX12_drawn 132 = .ok (.getfield 221, 3) := by decide +kernel
theorem dX12_drawn_135 : decode cX12_drawn 135 = .ok (.goto 41, 3) := by decide +kernel
theorem dX12_drawn_138 : decode cX12_drawn 138 = .ok (.iload 4, 2) := by decide +kernel
theorem dX12_drawn_140 : decode cX12_drawn 140 = .ok (.iconst 2, 1) := by decide +kernel
theorem dX12_drawn_141 : decode cX12_drawn 141 = .ok (.if_icmp .ne 10, 3) := by decide +kernel
theorem dX12_drawn_144 : decode cX12_drawn 144 = .ok (.aload_n 0, 1) := by decide +kernel
theorem dX12_drawn_145 : decode cX12_drawn 145 = .ok (.getfield 233, 3) := by decide +kernel
theorem dX12_drawn_148 : decode cX12_drawn 148 = .ok (.goto 28, 3) := by decide +kernel
theorem dX12_drawn_151 : decode cX12_drawn 151 = .ok (.iload 4, 2) := by decide +kernel
theorem dX12_drawn_153 : decode cX12_drawn 153 = .ok (.iconst 3, 1) := by decide +kernel
theorem dX12_drawn_154 : decode cX12_drawn 154 = .ok (.if_icmp .ne 10, 3) := by decide +kernel
theorem dX12_drawn_157 : decode cX12_drawn 157 = .ok (.aload_n 0, 1) := by decide +kernel
theorem dX12_drawn_158 : decode cX12_drawn 158 = .ok (.getfield 227, 3) := by decide +kernel
theorem dX12_drawn_161 : decode cX12_drawn 161 = .ok (.goto 15, 3) := by decide +kernel
theorem dX12_drawn_164 : decode cX12_drawn 164 = .ok (.aload_n 0, 1) := by decide +kernel
theorem dX12_drawn_165 : decode cX12_drawn 165 = .ok (.getfield 236, 3) := by decide +kernel
theorem dX12_drawn_168 : decode cX12_drawn 168 = .ok (.ifCond .eq 7, 3) := by decide +kernel
theorem dX12_drawn_171 : decode cX12_drawn 171 = .ok (.iconst 1, 1) := by decide +kernel
theorem dX12_drawn_172 : decode cX12_drawn 172 = .ok (.goto 4, 3) := by decide +kernel
theorem dX12_drawn_175 : decode cX12_drawn 175 = .ok (.iconst 0, 1) := by decide +kernel
theorem dX12_drawn_176 : decode cX12_drawn 176 = .ok (.ireturn, 1) := by decide +kernel
theorem dX12_heaviest_0 : decode cX12_heaviest 0 = .ok (.iconst 0, 1) := by decide +kernel
theorem dX12_heaviest_1 : decode cX12_heaviest 1 = .ok (.istore_n 2, 1) := by decide +kernel
theorem dX12_heaviest_2 : decode cX12_heaviest 2 = .ok (.iconst (-1), 1) := by decide +kernel
theorem dX12_heaviest_3 : decode cX12_heaviest 3 = .ok (.istore_n 3, 1) := by decide +kernel
theorem dX12_heaviest_4 : decode cX12_heaviest 4 = .ok (.iconst 0, 1) := by decide +kernel
theorem dX12_heaviest_5 : decode cX12_heaviest 5 = .ok (.istore 4, 2) := by decide +kernel
theorem dX12_heaviest_7 : decode cX12_heaviest 7 = .ok (.iload 4, 2) := by decide +kernel
theorem dX12_heaviest_9 : decode cX12_heaviest 9 = .ok (.iload_n 1, 1) := by decide +kernel
theorem dX12_heaviest_10 : decode cX12_heaviest 10 = .ok (.ifCond .eq 11, 3) := by decide +kernel
theorem dX12_heaviest_13 : decode cX12_heaviest 13 = .ok (.aload_n 0, 1) := by decide +kernel
theorem dX12_heaviest_14 : decode cX12_heaviest 14 = .ok (.iconst 2, 1) := by decide +kernel
theorem dX12_heaviest_15 : decode cX12_heaviest 15 = .ok (.invokevirtual 180, 3) := by decide +kernel
theorem dX12_heaviest_18 : decode cX12_heaviest 18 = .ok (.goto 8, 3) := by decide +kernel
theorem dX12_heaviest_21 : decode cX12_heaviest 21 = .ok (.aload_n 0, 1) := by decide +kernel
theorem dX12_heaviest_22 : decode cX12_heaviest 22 = .ok (.iconst 3, 1) := by decide +kernel
theorem dX12_heaviest_23 : decode cX12_heaviest 23 = .ok (.invokevirtual 180, 3) := by decide +kernel
theorem dX12_heaviest_26 : decode cX12_heaviest 26 = .ok (.if_icmp .ge 121, 3) := by decide +kernel
theorem dX12_heaviest_29 : decode cX12_heaviest 29 = .ok (.iconst 0, 1) := by decide +kernel
theorem dX12_heaviest_30 : decode cX12_heaviest 30 = .ok (.istore 5, 2) := by decide +kernel
theorem dX12_heaviest_32 : decode cX12_heaviest 32 = .ok (.iconst 0, 1) := by decide +kernel
theorem dX12_heaviest_33 : decode cX12_heaviest 33 = .ok (.istore 6, 2) := by decide +kernel
theorem dX12_heaviest_35 : decode cX12_heaviest 35 = .ok (.iload 6, 2) := by decide +kernel
theorem dX12_heaviest_37 : decode cX12_heaviest 37 = .ok (.aload_n 0, 1) := by decide +kernel
theorem dX12_heaviest_38 : decode cX12_heaviest 38 = .ok (.bipush 12, 2) := by decide +kernel
theorem dX12_heaviest_40 : decode cX12_heaviest 40 = .ok (.invokevirtual 180, 3) := by decide +kernel
theorem dX12_heaviest_43 : decode cX12_heaviest 43 = .ok (.if_icmp .ge 72, 3) := by decide +kernel
theorem dX12_heaviest_46 : decode cX12_heaviest 46 = .ok (.aload_n 0, 1) := by decide +kernel
theorem dX12_heaviest_47 : decode cX12_heaviest 47 = .ok (.bipush 56, 2) := by decide +kernel
theorem dX12_heaviest_49 : decode cX12_heaviest 49 = .ok (.iconst 2, 1) := by decide +kernel
theorem dX12_heaviest_50 : decode cX12_heaviest 50 = .ok (.iload 6, 2) := by decide +kernel
theorem dX12_heaviest_52 : decode cX12_heaviest 52 = .ok (.imul, 1) := by decide +kernel
theorem dX12_heaviest_53 : decode cX12_heaviest 53 = .ok (.iadd, 1) := by decide +kernel
theorem dX12_heaviest_54 : decode cX12_heaviest 54 = .ok (.invokevirtual 180, 3) := by decide +kernel
theorem dX12_heaviest_57 : decode cX12_heaviest 57 = .ok (.istore 7, 2) := by decide +kernel
theorem dX12_heaviest_59 : decode cX12_heaviest 59 = .ok (.iload 5, 2) := by decide +kernel
theorem dX12_heaviest_61 : decode cX12_heaviest 61 = .ok (.iload_n 1, 1) := by decide +kernel
theorem dX12_heaviest_62 : decode cX12_heaviest 62 = .ok (.ifCond .eq 14, 3) := by decide +kernel
theorem dX12_heaviest_65 : decode cX12_heaviest 65 = .ok (.iload 7, 2) := by decide +kernel
theorem dX12_heaviest_67 : decode cX12_heaviest 67 = .ok (.aload_n 0, 1) := by decide +kernel
theorem dX12_heaviest_68 : decode cX12_heaviest 68 = .ok (.iconst 2, 1) := by decide +kernel
theorem dX12_heaviest_69 : decode cX12_heaviest 69 = .ok (.invokevirtual 180, 3) := by decide +kernel
theorem dX12_heaviest_72 : decode cX12_heaviest 72 = .ok (.irem, 1) := by decide +kernel
theorem dX12_heaviest_73 : decode cX12_heaviest 73 = .ok (.goto 11, 3) := by decide +kernel
theorem dX12_heaviest_76 : decode cX12_heaviest 76 = .ok (.iload 7, 2) := by decide +kernel
theorem dX12_heaviest_78 : decode cX12_heaviest 78 = .ok (.aload_n 0, 1) := by decide +kernel
theorem dX12_heaviest_79 : decode cX12_heaviest 79 = .ok (.iconst 2, 1) := by decide +kernel
theorem dX12_heaviest_80 : decode cX12_heaviest 80 = .ok (.invokevirtual 180, 3) := by decide +kernel
theorem dX12_heaviest_83 : decode cX12_heaviest 83 = .ok (.idiv, 1) := by decide +kernel
theorem dX12_heaviest_84 : decode cX12_heaviest 84 = .ok (.iload 4, 2) := by decide +kernel
theorem dX12_heaviest_86 : decode cX12_heaviest 86 = .ok (.if_icmp .ne 19, 3) := by decide +kernel
theorem dX12_heaviest_89 : decode cX12_heaviest 89 = .ok (.aload_n 0, 1) := by decide +kernel
theorem dX12_heaviest_90 : decode cX12_heaviest 90 = .ok (.bipush 56, 2) := by decide +kernel
theorem dX12_heaviest_92 : decode cX12_heaviest 92 = .ok (.iconst 2, 1) := by decide +kernel
theorem dX12_heaviest_93 : decode cX12_heaviest 93 = .ok (.iload 6, 2) := by decide +kernel
theorem dX12_heaviest_95 : decode cX12_heaviest 95 = .ok (.imul, 1) := by decide +kernel
theorem dX12_heaviest_96 : decode cX12_heaviest 96 = .ok (.iadd, 1) := by decide +kernel
theorem dX12_heaviest_97 : decode cX12_heaviest 97 = .ok (.iconst 1, 1) := by decide +kernel
theorem dX12_heaviest_98 : decode cX12_heaviest 98 = .ok (.iadd, 1) := by decide +kernel
theorem dX12_heaviest_99 : decode cX12_heaviest 99 = .ok (.invokevirtual 180, 3) := by decide +kernel
theorem dX12_heaviest_102 : decode cX12_heaviest 102 = .ok (.goto 4, 3) := by decide +kernel
theorem dX12_heaviest_105 : decode cX12_heaviest 105 = .ok (.iconst 0, 1) := by decide +kernel
theorem dX12_heaviest_106 : decode cX12_heaviest 106 = .ok (.iadd, 1) := by decide +kernel
theorem dX12_heaviest_107 : decode cX12_heaviest 107 = .ok (.istore 5, 2) := by decide +kernel
theorem dX12_heaviest_109 : decode cX12_heaviest 109 = .ok (.iinc 6 1, 3) := by decide +kernel
theorem dX12_heaviest_112 : decode cX12_heaviest 112 = .ok (.goto (-77), 3) := by decide +kernel
theorem dX12_heaviest_115 : decode cX12_heaviest 115 = .ok (.iload 5, 2) := by decide +kernel
theorem dX12_heaviest_117 : decode cX12_heaviest 117 = .ok (.iload_n 3, 1) := by decide +kernel
theorem dX12_heaviest_118 : decode cX12_heaviest 118 = .ok (.if_icmp .le 8, 3) := by decide +kernel
theorem dX12_heaviest_121 : decode cX12_heaviest 121 = .ok (.iload 4, 2) := by decide +kernel
theorem dX12_heaviest_123 : decode cX12_heaviest 123 = .ok (.goto 4, 3) := by decide +kernel
theorem dX12_heaviest_126 : decode cX12_heaviest 126 = .ok (.iload_n 2, 1) := by decide +kernel
theorem dX12_heaviest_127 : decode cX12_heaviest 127 = .ok (.istore_n 2, 1) := by decide +kernel
theorem dX12_heaviest_128 : decode cX12_heaviest 128 = .ok (.iload 5, 2) := by decide +kernel
theorem dX12_heaviest_130 : decode cX12_heaviest 130 = .ok (.iload_n 3, 1) := by decide +kernel
theorem dX12_heaviest_131 : decode cX12_heaviest 131 = .ok (.if_icmp .le 8, 3) := by decide +kernel
theorem dX12_heaviest_134 : decode cX12_heaviest 134 = .ok (.iload 5, 2) := by decide +kernel
theorem dX12_heaviest_136 : decode cX12_heaviest 136 = .ok (.goto 4, 3) := by decide +kernel
theorem dX12_heaviest_139 : decode cX12_heaviest 139 = .ok (.iload_n 3, 1) := by decide +kernel
theorem dX12_heaviest_140 : decode cX12_heaviest 140 = .ok (.istore_n 3, 1) := by decide +kernel
theorem dX12_heaviest_141 : decode cX12_heaviest 141 = .ok (.iinc 4 1, 3) := by decide +kernel
theorem dX12_heaviest_144 : decode cX12_heaviest 144 = .ok (.goto (-137), 3) := by decide +kernel
theorem dX12_heaviest_147 : decode cX12_heaviest 147 = .ok (.iload_n 2, 1) := by decide +kernel
theorem dX12_heaviest_148 : decode cX12_heaviest 148 = .ok (.ireturn, 1) := by decide +kernel
theorem dX12_keel_0 : decode cX12_keel 0 = .ok (.iconst (-1), 1) := by decide +kernel
theorem dX12_keel_1 : decode cX12_keel 1 = .ok (.istore_n 1, 1) := by decide +kernel
theorem dX12_keel_2 : decode cX12_keel 2 = .ok (.iconst 0, 1) := by decide +kernel
theorem dX12_keel_3 : decode cX12_keel 3 = .ok (.istore_n 2, 1) := by decide +kernel
theorem dX12_keel_4 : decode cX12_keel 4 = .ok (.iconst 0, 1) := by decide +kernel
theorem dX12_keel_5 : decode cX12_keel 5 = .ok (.istore_n 3, 1) := by decide +kernel
theorem dX12_keel_6 : decode cX12_keel 6 = .ok (.iload_n 3, 1) := by decide +kernel
theorem dX12_keel_7 : decode cX12_keel 7 = .ok (.aload_n 0, 1) := by decide +kernel
theorem dX12_keel_8 : decode cX12_keel 8 = .ok (.bipush 12, 2) := by decide +kernel
theorem dX12_keel_10 : decode cX12_keel 10 = .ok (.invokevirtual 180, 3) := by decide +kernel
theorem dX12_keel_13 : decode cX12_keel 13 = .ok (.if_icmp .ge 48, 3) := by decide +kernel
theorem dX12_keel_16 : decode cX12_keel 16 = .ok (.aload_n 0, 1) := by decide +kernel
theorem dX12_keel_17 : decode cX12_keel 17 = .ok (.iconst 0, 1) := by decide +kernel
theorem dX12_keel_18 : decode cX12_keel 18 = .ok (.iload_n 3, 1) := by decide +kernel
theorem dX12_keel_19 : decode cX12_keel 19 = .ok (.invokevirtual 254, 3) := by decide +kernel
theorem dX12_keel_22 : decode cX12_keel 22 = .ok (.invokestatic 195, 3) := by decide +kernel
theorem dX12_keel_25 : decode cX12_keel 25 = .ok (.aload_n 0, 1) := by decide +kernel
theorem dX12_keel_26 : decode cX12_keel 26 = .ok (.iconst 1, 1) := by decide +kernel
theorem dX12_keel_27 : decode cX12_keel 27 = .ok (.iload_n 3, 1) := by decide +kernel
theorem dX12_keel_28 : decode cX12_keel 28 = .ok (.invokevirtual 254, 3) := by decide +kernel
theorem dX12_keel_31 : decode cX12_keel 31 = .ok (.invokestatic 195, 3) := by decide +kernel
theorem dX12_keel_34 : decode cX12_keel 34 = .ok (.iadd, 1) := by decide +kernel
theorem dX12_keel_35 : decode cX12_keel 35 = .ok (.istore 4, 2) := by decide +kernel
theorem dX12_keel_37 : decode cX12_keel 37 = .ok (.iload_n 1, 1) := by decide +kernel
theorem dX12_keel_38 : decode cX12_keel 38 = .ok (.ifCond .lt 12, 3) := by decide +kernel
theorem dX12_keel_41 : decode cX12_keel 41 = .ok (.iload 4, 2) := by decide +kernel
theorem dX12_keel_43 : decode cX12_keel 43 = .ok (.iload_n 2, 1) := by decide +kernel
theorem dX12_keel_44 : decode cX12_keel 44 = .ok (.if_icmp .lt 6, 3) := by decide +kernel
theorem dX12_keel_47 : decode cX12_keel 47 = .ok (.goto 8, 3) := by decide +kernel
theorem dX12_keel_50 : decode cX12_keel 50 = .ok (.iload_n 3, 1) := by decide +kernel
theorem dX12_keel_51 : decode cX12_keel 51 = .ok (.istore_n 1, 1) := by decide +kernel
theorem dX12_keel_52 : decode cX12_keel 52 = .ok (.iload 4, 2) := by decide +kernel
theorem dX12_keel_54 : decode cX12_keel 54 = .ok (.istore_n 2, 1) := by decide +kernel
theorem dX12_keel_55 : decode cX12_keel 55 = .ok (.iinc 3 1, 3) := by decide +kernel
theorem dX12_keel_58 : decode cX12_keel 58 = .ok (.goto (-52), 3) := by decide +kernel
theorem dX12_keel_61 : decode cX12_keel 61 = .ok (.iload_n 1, 1) := by decide +kernel
theorem dX12_keel_62 : decode cX12_keel 62 = .ok (.ireturn, 1) := by decide +kernel
theorem dX12_trim_0 : decode cX12_trim 0 = .ok (.aload_n 0, 1) := by decide +kernel
theorem dX12_trim_1 : decode cX12_trim 1 = .ok (.iload_n 1, 1) := by decide +kernel
theorem dX12_trim_2 : decode cX12_trim 2 = .ok (.invokevirtual 186, 3) := by decide +kernel
theorem dX12_trim_5 : decode cX12_trim 5 = .ok (.ifCond .ne 5, 3) := by decide +kernel
theorem dX12_trim_8 : decode cX12_trim 8 = .ok (.iconst (-1), 1) := by decide +kernel
theorem dX12_trim_9 : decode cX12_trim 9 = .ok (.ireturn, 1) := by decide +kernel
theorem dX12_trim_10 : decode cX12_trim 10 = .ok (.iload_n 2, 1) := by decide +kernel
theorem dX12_trim_11 : decode cX12_trim 11 = .ok (.ifCond .eq 8, 3) := by decide +kernel
theorem dX12_trim_14 : decode cX12_trim 14 = .ok (.iload_n 2, 1) := by decide +kernel
theorem dX12_trim_15 : decode cX12_trim 15 = .ok (.iconst 1, 1) := by decide +kernel
theorem dX12_trim_16 : decode cX12_trim 16 = .ok (.if_icmp .ne 18, 3) := by decide +kernel
theorem dX12_trim_19 : decode cX12_trim 19 = .ok (.aload_n 0, 1) := by decide +kernel
theorem dX12_trim_20 : decode cX12_trim 20 = .ok (.iload_n 2, 1) := by decide +kernel
theorem dX12_trim_21 : decode cX12_trim 21 = .ok (.iconst 1, 1) := by decide +kernel
theorem dX12_trim_22 : decode cX12_trim 22 = .ok (.if_icmp .ne 7, 3) := by decide +kernel
theorem dX12_trim_25 : decode cX12_trim 25 = .ok (.iconst 1, 1) := by decide +kernel
theorem dX12_trim_26 : decode cX12_trim 26 = .ok (.goto 4, 3) := by decide +kernel
theorem dX12_trim_29 : decode cX12_trim 29 = .ok (.iconst 0, 1) := by decide +kernel
theorem dX12_trim_30 : decode cX12_trim 30 = .ok (.invokevirtual 429, 3) := by decide +kernel
theorem dX12_trim_33 : decode cX12_trim 33 = .ok (.ireturn, 1) := by decide +kernel
theorem dX12_trim_34 : decode cX12_trim 34 = .ok (.iload_n 2, 1) := by decide +kernel
theorem dX12_trim_35 : decode cX12_trim 35 = .ok (.iconst 2, 1) := by decide +kernel
theorem dX12_trim_36 : decode cX12_trim 36 = .ok (.if_icmp .ne 8, 3) := by decide +kernel
theorem dX12_trim_39 : decode cX12_trim 39 = .ok (.aload_n 0, 1) := by decide +kernel
theorem dX12_trim_40 : decode cX12_trim 40 = .ok (.invokevirtual 433, 3) := by decide +kernel
theorem dX12_trim_43 : decode cX12_trim 43 = .ok (.ireturn, 1) := by decide +kernel
theorem dX12_trim_44 : decode cX12_trim 44 = .ok (.aload_n 0, 1) := by decide +kernel
theorem dX12_trim_45 : decode cX12_trim 45 = .ok (.iload_n 2, 1) := by decide +kernel
theorem dX12_trim_46 : decode cX12_trim 46 = .ok (.bipush 10, 2) := by decide +kernel
theorem dX12_trim_48 : decode cX12_trim 48 = .ok (.isub, 1) := by decide +kernel
theorem dX12_trim_49 : decode cX12_trim 49 = .ok (.invokevirtual 285, 3) := by decide +kernel
theorem dX12_trim_52 : decode cX12_trim 52 = .ok (.ifCond .ne 5, 3) := by decide +kernel
theorem dX12_trim_55 : decode cX12_trim 55 = .ok (.iconst (-1), 1) := by decide +kernel
theorem dX12_trim_56 : decode cX12_trim 56 = .ok (.ireturn, 1) := by decide +kernel
theorem dX12_trim_57 : decode cX12_trim 57 = .ok (.iconst (-1), 1) := by decide +kernel
theorem dX12_trim_58 : decode cX12_trim 58 = .ok (.istore_n 3, 1) := by decide +kernel
theorem dX12_trim_59 : decode cX12_trim 59 = .ok (.iconst 0, 1) := by decide +kernel
theorem dX12_trim_60 : decode cX12_trim 60 = .ok (.istore 4, 2) := by decide +kernel
theorem dX12_trim_62 : decode cX12_trim 62 = .ok (.iconst 0, 1) := by decide +kernel
theorem dX12_trim_63 : decode cX12_trim 63 = .ok (.istore 5, 2) := by decide +kernel
theorem dX12_trim_65 : decode cX12_trim 65 = .ok (.iload 5, 2) := by decide +kernel
theorem dX12_trim_67 : decode cX12_trim 67 = .ok (.aload_n 0, 1) := by decide +kernel
theorem dX12_trim_68 : decode cX12_trim 68 = .ok (.invokevirtual 257, 3) := by decide +kernel
theorem dX12_trim_71 : decode cX12_trim 71 = .ok (.if_icmp .ge 84, 3) := by decide +kernel
theorem dX12_trim_74 : decode cX12_trim 74 = .ok (.aload_n 0, 1) := by decide +kernel
theorem dX12_trim_75 : decode cX12_trim 75 = .ok (.iload_n 2, 1) := by decide +kernel
theorem dX12_trim_76 : decode cX12_trim 76 = .ok (.bipush 10, 2) := by decide +kernel
theorem dX12_trim_78 : decode cX12_trim 78 = .ok (.isub, 1) := by decide +kernel
theorem dX12_trim_79 : decode cX12_trim 79 = .ok (.iconst 0, 1) := by decide +kernel
theorem dX12_trim_80 : decode cX12_trim 80 = .ok (.invokevirtual 189, 3) := by decide +kernel
theorem dX12_trim_83 : decode cX12_trim 83 = .ok (.istore 6, 2) := by decide +kernel
theorem dX12_trim_85 : decode cX12_trim 85 = .ok (.aload_n 0, 1) := by decide +kernel
theorem dX12_trim_86 : decode cX12_trim 86 = .ok (.iconst 0, 1) := by decide +kernel
theorem dX12_trim_87 : decode cX12_trim 87 = .ok (.iconst (-1), 1) := by decide +kernel
theorem dX12_trim_88 : decode cX12_trim 88 = .ok (.invokevirtual 254, 3) := by decide +kernel
theorem dX12_trim_91 : decode cX12_trim 91 = .ok (.iload 6, 2) := by decide +kernel
theorem dX12_trim_93 : decode cX12_trim 93 = .ok (.aload_n 0, 1) := by decide +kernel
theorem dX12_trim_94 : decode cX12_trim 94 = .ok (.iload 5, 2) := by decide +kernel
theorem dX12_trim_96 : decode cX12_trim 96 = .ok (.iconst 0, 1) := by decide +kernel
theorem dX12_trim_97 : decode cX12_trim 97 = .ok (.invokevirtual 192, 3) := by decide +kernel
theorem dX12_trim_100 : decode cX12_trim 100 = .ok (.imul, 1) := by decide +kernel
theorem dX12_trim_101 : decode cX12_trim 101 = .ok (.iadd, 1) := by decide +kernel
theorem dX12_trim_102 : decode cX12_trim 102 = .ok (.invokestatic 195, 3) := by decide +kernel
theorem dX12_trim_105 : decode cX12_trim 105 = .ok (.aload_n 0, 1) := by decide +kernel
theorem dX12_trim_106 : decode cX12_trim 106 = .ok (.iconst 1, 1) := by decide +kernel
theorem dX12_trim_107 : decode cX12_trim 107 = .ok (.iconst (-1), 1) := by decide +kernel
theorem dX12_trim_108 : decode cX12_trim 108 = .ok (.invokevirtual 254, 3) := by decide +kernel
theorem dX12_trim_111 : decode cX12_trim 111 = .ok (.iload 6, 2) := by decide +kernel
theorem dX12_trim_113 : decode cX12_trim 113 = .ok (.aload_n 0, 1) := by decide +kernel
theorem dX12_trim_114 : decode cX12_trim 114 = .ok (.iload 5, 2) := by decide +kernel
theorem dX12_trim_116 : decode cX12_trim 116 = .ok (.iconst 1, 1) := by decide +kernel
theorem dX12_trim_117 : decode cX12_trim 117 = .ok (.invokevirtual 192, 3) := by decide +kernel
theorem dX12_trim_120 : decode cX12_trim 120 = .ok (.imul, 1) := by decide +kernel
theorem dX12_trim_121 : decode cX12_trim 121 = .ok (.iadd, 1) := by decide +kernel
theorem dX12_trim_122 : decode cX12_trim 122 = .ok (.invokestatic 195, 3) := by decide +kernel
theorem dX12_trim_125 : decode cX12_trim 125 = .ok (.iadd, 1) := by decide +kernel
theorem dX12_trim_126 : decode cX12_trim 126 = .ok (.istore 7, 2) := by decide +kernel
theorem dX12_trim_128 : decode cX12_trim 128 = .ok (.iload_n 3, 1) := by decide +kernel
theorem dX12_trim_129 : decode cX12_trim 129 = .ok (.ifCond .lt 13, 3) := by decide +kernel
theorem dX12_trim_132 : decode cX12_trim 132 = .ok (.iload 7, 2) := by decide +kernel
theorem dX12_trim_134 : decode cX12_trim 134 = .ok (.iload 4, 2) := by decide +kernel
theorem dX12_trim_136 : decode cX12_trim 136 = .ok (.if_icmp .lt 6, 3) := by decide +kernel
theorem dX12_trim_139 : decode cX12_trim 139 = .ok (.goto 10, 3) := by decide +kernel
theorem dX12_trim_142 : decode cX12_trim 142 = .ok (.iload 5, 2) := by decide +kernel
theorem dX12_trim_144 : decode cX12_trim 144 = .ok (.istore_n 3, 1) := by decide +kernel
theorem dX12_trim_145 : decode cX12_trim 145 = .ok (.iload 7, 2) := by decide +kernel
theorem dX12_trim_147 : decode cX12_trim 147 = .ok (.istore 4, 2) := by decide +kernel
theorem dX12_trim_149 : decode cX12_trim 149 = .ok (.iinc 5 1, 3) := by decide +kernel
theorem dX12_trim_152 : decode cX12_trim 152 = .ok (.goto (-87), 3) := by decide +kernel
theorem dX12_trim_155 : decode cX12_trim 155 = .ok (.iload_n 3, 1) := by decide +kernel
theorem dX12_trim_156 : decode cX12_trim 156 = .ok (.ireturn, 1) := by decide +kernel
theorem dX12_count_0 : decode cX12_count 0 = .ok (.iload_n 1, 1) := by decide +kernel
theorem dX12_count_1 : decode cX12_count 1 = .ok (.iconst 0, 1) := by decide +kernel
theorem dX12_count_2 : decode cX12_count 2 = .ok (.iconst 4, 1) := by decide +kernel
theorem dX12_count_3 : decode cX12_count 3 = .ok (.invokestatic 109, 3) := by decide +kernel
theorem dX12_count_6 : decode cX12_count 6 = .ok (.ifCond .eq 12, 3) := by decide +kernel
theorem dX12_count_9 : decode cX12_count 9 = .ok (.aload_n 0, 1) := by decide +kernel
theorem dX12_count_10 : decode cX12_count 10 = .ok (.getfield 7, 3) := by decide +kernel
theorem dX12_count_13 : decode cX12_count 13 = .ok (.iload_n 1, 1) := by decide +kernel
theorem dX12_count_14 : decode cX12_count 14 = .ok (.iaload, 1) := by decide +kernel
theorem dX12_count_15 : decode cX12_count 15 = .ok (.goto 5, 3) := by decide +kernel
theorem dX12_count_18 : decode cX12_count 18 = .ok (.bipush (-2), 2) := by decide +kernel
theorem dX12_count_20 : decode cX12_count 20 = .ok (.ireturn, 1) := by decide +kernel
theorem dX12_image_0 : decode cX12_image 0 = .ok (.iload_n 1, 1) := by decide +kernel
theorem dX12_image_1 : decode cX12_image 1 = .ok (.iconst 0, 1) := by decide +kernel
theorem dX12_image_2 : decode cX12_image 2 = .ok (.iconst 2, 1) := by decide +kernel
theorem dX12_image_3 : decode cX12_image 3 = .ok (.invokestatic 109, 3) := by decide +kernel
theorem dX12_image_6 : decode cX12_image 6 = .ok (.ifCond .ne 5, 3) := by decide +kernel
theorem dX12_image_9 : decode cX12_image 9 = .ok (.iconst 0, 1) := by decide +kernel
theorem dX12_image_10 : decode cX12_image 10 = .ok (.ireturn, 1) := by decide +kernel
theorem dX12_image_11 : decode cX12_image 11 = .ok (.aload_n 0, 1) := by decide +kernel
theorem dX12_image_12 : decode cX12_image 12 = .ok (.getfield 13, 3) := by decide +kernel
theorem dX12_image_15 : decode cX12_image 15 = .ok (.iload_n 1, 1) := by decide +kernel
theorem dX12_image_16 : decode cX12_image 16 = .ok (.iconst 1, 1) := by decide +kernel
theorem dX12_image_17 : decode cX12_image 17 = .ok (.bastore, 1) := by decide +kernel
theorem dX12_image_18 : decode cX12_image 18 = .ok (.iconst 0, 1) := by decide +kernel
theorem dX12_image_19 : decode cX12_image 19 = .ok (.istore_n 2, 1) := by decide +kernel
theorem dX12_image_20 : decode cX12_image 20 = .ok (.iload_n 2, 1) := by decide +kernel
theorem dX12_image_21 : decode cX12_image 21 = .ok (.sipush 1172, 3) := by decide +kernel
theorem dX12_image_24 : decode cX12_image 24 = .ok (.if_icmp .ge 29, 3) := by decide +kernel
theorem dX12_image_27 : decode cX12_image 27 = .ok (.aload_n 0, 1) := by decide +kernel
theorem dX12_image_28 : decode cX12_image 28 = .ok (.getfield 7, 3) := by decide +kernel
theorem dX12_image_31 : decode cX12_image 31 = .ok (.sipush 1172, 3) := by decide +kernel
theorem dX12_image_34 : decode cX12_image 34 = .ok (.iload_n 1, 1) := by decide +kernel
theorem dX12_image_35 : decode cX12_image 35 = .ok (.iconst 1, 1) := by decide +kernel
theorem dX12_image_36 : decode cX12_image 36 = .ok (.iadd, 1) := by decide +kernel
theorem dX12_image_37 : decode cX12_image 37 = .ok (.imul, 1) := by decide +kernel
theorem dX12_image_38 : decode cX12_image 38 = .ok (.iload_n 2, 1) := by decide +kernel
theorem dX12_image_39 : decode cX12_image 39 = .ok (.iadd, 1) := by decide +kernel
theorem dX12_image_40 : decode cX12_image 40 = .ok (.aload_n 0, 1) := by decide +kernel
theorem dX12_image_41 : decode cX12_image 41 = .ok (.getfield 7, 3) := by decide +kernel
theorem dX12_image_44 : decode cX12_image 44 = .ok (.iload_n 2, 1) := by decide +kernel
theorem dX12_image_45 : decode cX12_image 45 = .ok (.iaload, 1) := by decide +kernel
theorem dX12_image_46 : decode cX12_image 46 = .ok (.iastore, 1) := by decide +kernel
theorem dX12_image_47 : decode cX12_image 47 = .ok (.iinc 2 1, 3) := by decide +kernel
theorem dX12_image_50 : decode cX12_image 50 = .ok (.goto (-30), 3) := by decide +kernel
theorem dX12_image_53 : decode cX12_image 53 = .ok (.iconst 1, 1) := by decide +kernel
theorem dX12_image_54 : decode cX12_image 54 = .ok (.ireturn, 1) := by decide +kernel
theorem dX12_again_0 : decode cX12_again 0 = .ok (.iload_n 1, 1) := by decide +kernel
theorem dX12_again_1 : decode cX12_again 1 = .ok (.iconst 0, 1) := by decide +kernel
theorem dX12_again_2 : decode cX12_again 2 = .ok (.iconst 2, 1) := by decide +kernel
theorem dX12_again_3 : decode cX12_again 3 = .ok (.invokestatic 109, 3) := by decide +kernel
theorem dX12_again_6 : decode cX12_again 6 = .ok (.ifCond .eq 12, 3) := by decide +kernel
theorem dX12_again_9 : decode cX12_again 9 = .ok (.aload_n 0, 1) := by decide +kernel
theorem dX12_again_10 : decode cX12_again 10 = .ok (.getfield 13, 3) := by decide +kernel
theorem dX12_again_13 : decode cX12_again 13 = .ok (.iload_n 1, 1) := by decide +kernel
theorem dX12_again_14 : decode cX12_again 14 = .ok (.baload, 1) := by decide +kernel
theorem dX12_again_15 : decode cX12_again 15 = .ok (.ifCond .ne 5, 3) := by decide +kernel
theorem dX12_again_18 : decode cX12_again 18 = .ok (.iconst 0, 1) := by decide +kernel
theorem dX12_again_19 : decode cX12_again 19 = .ok (.ireturn, 1) := by decide +kernel
theorem dX12_again_20 : decode cX12_again 20 = .ok (.iconst 0, 1) := by decide +kernel
theorem dX12_again_21 : decode cX12_again 21 = .ok (.istore_n 2, 1) := by decide +kernel
theorem dX12_again_22 : decode cX12_again 22 = .ok (.iload_n 2, 1) := by decide +kernel
theorem dX12_again_23 : decode cX12_again 23 = .ok (.sipush 1172, 3) := by decide +kernel
theorem dX12_again_26 : decode cX12_again 26 = .ok (.if_icmp .ge 29, 3) := by decide +kernel
theorem dX12_again_29 : decode cX12_again 29 = .ok (.aload_n 0, 1) := by decide +kernel
theorem dX12_again_30 : decode cX12_again 30 = .ok (.getfield 7, 3) := by decide +kernel
theorem dX12_again_33 : decode cX12_again 33 = .ok (.iload_n 2, 1) := by decide +kernel
theorem dX12_again_34 : decode cX12_again 34 = .ok (.aload_n 0, 1) := by decide +kernel
theorem dX12_again_35 : decode cX12_again 35 = .ok (.getfield 7, 3) := by decide +kernel
theorem dX12_again_38 : decode cX12_again 38 = .ok (.sipush 1172, 3) := by decide +kernel
theorem dX12_again_41 : decode cX12_again 41 = .ok (.iload_n 1, 1) := by decide +kernel
theorem dX12_again_42 : decode cX12_again 42 = .ok (.iconst 1, 1) := by decide +kernel
theorem dX12_again_43 : decode cX12_again 43 = .ok (.iadd, 1) := by decide +kernel
theorem dX12_again_44 : decode cX12_again 44 = .ok (.imul, 1) := by decide +kernel
theorem dX12_again_45 : decode cX12_again 45 = .ok (.iload_n 2, 1) := by decide +kernel
theorem dX12_again_46 : decode cX12_again 46 = .ok (.iadd, 1) := by decide +kernel
theorem dX12_again_47 : decode cX12_again 47 = .ok (.iaload, 1) := by decide +kernel
theorem dX12_again_48 : decode cX12_again 48 = .ok (.iastore, 1) := by decide +kernel
theorem dX12_again_49 : decode cX12_again 49 = .ok (.iinc 2 1, 3) := by decide +kernel
theorem dX12_again_52 : decode cX12_again 52 = .ok (.goto (-30), 3) := by decide +kernel
theorem dX12_again_55 : decode cX12_again 55 = .ok (.iconst 1, 1) := by decide +kernel
theorem dX12_again_56 : decode cX12_again 56 = .ok (.ireturn, 1) := by decide +kernel
