theorem dX7_number_8 : decode cX7_number 8 = .ok (.iconst 2, 1) := by decide +kernel
theorem dX7_number_9 : decode cX7_number 9 = .ok (.if_icmp .ne 22, 3) := by decide +kernel
theorem dX7_number_12 : decode cX7_number 12 = .ok (.aload_n 0, 1) := by decide +kernel
theorem dX7_number_13 : decode cX7_number 13 = .ok (.getfield 67, 3) := by decide +kernel
theorem dX7_number_16 : decode cX7_number 16 = .ok (.i2l, 1) := by decide +kernel
theorem dX7_number_17 : decode cX7_number 17 = .ok (.iload_n 1, 1) := by decide +kernel
theorem dX7_number_18 : decode cX7_number 18 = .ok (.i2l, 1) := by decide +kernel
theorem dX7_number_19 : decode cX7_number 19 = .ok (.iload_n 2, 1) := by decide +kernel
theorem dX7_number_20 : decode cX7_number 20 = .ok (.i2l, 1) := by decide +kernel
theorem dX7_number_21 : decode cX7_number 21 = .ok (.invokestatic 48, 3) := by decide +kernel
theorem dX7_number_24 : decode cX7_number 24 = .ok (.ifCond .eq 7, 3) := by decide +kernel
theorem dX7_number_27 : decode cX7_number 27 = .ok (.iconst 1, 1) := by decide +kernel
theorem dX7_number_28 : decode cX7_number 28 = .ok (.goto 4, 3) := by decide +kernel
theorem dX7_number_31 : decode cX7_number 31 = .ok (.iconst 0, 1) := by decide +kernel
theorem dX7_number_32 : decode cX7_number 32 = .ok (.ireturn, 1) := by decide +kernel
set_option maxRecDepth 20000 in
theorem ggX7_ends_X7_reads : GoodIn wsX7_ends wsX7_reads := goodIn_r _ [6, 7, 8, 1, 9, 10, 11, 12, 5, 13, 14, 15, 16, 17, 18, 19, 20, 21, 22, 23, 24, 25, 26, 27, 28, 29, 30, 31, 32, 33, 34, 35, 36, 37, 38, 39, 40, 41, 42, 43, 44, 45, 46, 47, 48, 49, 50, 51, 52, 53, 54, 55] (by decide +kernel) (by decide +kernel)
set_option maxRecDepth 20000 in
theorem gX7_ends_X7_reads : GoodIn wsX7_ends (wsV RX7 92 RX7 yX7_reads wsX7_reads) := goodIn_app (goodIn_of _ (by decide +kernel)) ggX7_ends_X7_reads
theorem dX7_ends_0 : decode cX7_ends 0 = .ok (.aload_n 0, 1) := by decide +kernel
theorem dX7_ends_1 : decode cX7_ends 1 = .ok (.invokevirtual 92, 3) := by decide +kernel
theorem dX7_ends_4 : decode cX7_ends 4 = .ok (.aload_n 0, 1) := by decide +kernel
theorem dX7_ends_5 : decode cX7_ends 5 = .ok (.getfield 77, 3) := by decide +kernel
theorem dX7_ends_8 : decode cX7_ends 8 = .ok (.iconst 3, 1) := by decide +kernel
theorem dX7_ends_9 : decode cX7_ends 9 = .ok (.if_icmp .ne 7, 3) := by decide +kernel
theorem dX7_ends_12 : decode cX7_ends 12 = .ok (.iconst 1, 1) := by decide +kernel
theorem dX7_ends_13 : decode cX7_ends 13 = .ok (.goto 4, 3) := by decide +kernel
theorem dX7_ends_16 : decode cX7_ends 16 = .ok (.iconst 0, 1) := by decide +kernel
theorem dX7_ends_17 : decode cX7_ends 17 = .ok (.ireturn, 1) := by decide +kernel
theorem dX7_plain_0 : decode cX7_plain 0 = .ok (.iconst 0, 1) := by decide +kernel
theorem dX7_plain_1 : decode cX7_plain 1 = .ok (.istore_n 1, 1) := by decide +kernel
theorem dX7_plain_2 : decode cX7_plain 2 = .ok (.iload_n 1, 1) := by decide +kernel
theorem dX7_plain_3 : decode cX7_plain 3 = .ok (.bipush 46, 2) := by decide +kernel
theorem dX7_plain_5 : decode cX7_plain 5 = .ok (.if_icmp .ge 16, 3) := by decide +kernel
theorem dX7_plain_8 : decode cX7_plain 8 = .ok (.aload_n 0, 1) := by decide +kernel
theorem dX7_plain_9 : decode cX7_plain 9 = .ok (.getfield 13, 3) := by decide +kernel
theorem dX7_plain_12 : decode cX7_plain 12 = .ok (.iload_n 1, 1) := by decide +kernel
theorem dX7_plain_13 : decode cX7_plain 13 = .ok (.iconst 0, 1) := by decide +kernel
theorem dX7_plain_14 : decode cX7_plain 14 = .ok (.iastore, 1) := by decide +kernel
theorem dX7_plain_15 : decode cX7_plain 15 = .ok (.iinc 1 1, 3) := by decide +kernel
theorem dX7_plain_18 : decode cX7_plain 18 = .ok (.goto (-16), 3) := by decide +kernel
theorem dX7_plain_21 : decode cX7_plain 21 = .ok (.aload_n 0, 1) := by decide +kernel
theorem dX7_plain_22 : decode cX7_plain 22 = .ok (.getfield 13, 3) := by decide +kernel
theorem dX7_plain_25 : decode cX7_plain 25 = .ok (.iconst 3, 1) := by decide +kernel
theorem dX7_plain_26 : decode cX7_plain 26 = .ok (.iconst 5, 1) := by decide +kernel
theorem dX7_plain_27 : decode cX7_plain 27 = .ok (.iastore, 1) := by decide +kernel
theorem dX7_plain_28 : decode cX7_plain 28 = .ok (.aload_n 0, 1) := by decide +kernel
theorem dX7_plain_29 : decode cX7_plain 29 = .ok (.getfield 13, 3) := by decide +kernel
theorem dX7_plain_32 : decode cX7_plain 32 = .ok (.iconst 4, 1) := by decide +kernel
theorem dX7_plain_33 : decode cX7_plain 33 = .ok (.iconst 3, 1) := by decide +kernel
theorem dX7_plain_34 : decode cX7_plain 34 = .ok (.iastore, 1) := by decide +kernel
theorem dX7_plain_35 : decode cX7_plain 35 = .ok (.return_, 1) := by decide +kernel
set_option maxRecDepth 20000 in
theorem ggX7_readSeam_X7_number : GoodIn wsX7_readSeam wsX7_number := goodIn_r _ [10, 11, 2, 12, 13, 14, 9, 15, 3, 4, 5, 16, 17, 18, 19, 20, 21, 22, 23, 24, 25, 26, 27, 28, 29, 30, 31, 32, 33, 34, 35, 36, 37, 38, 39, 40, 41, 46, 47, 48, 49, 50, 51, 52, 53, 54, 55, 56, 57, 58, 59, 60, 61, 62, 63, 64] (by decide +kernel) (by decide +kernel)
set_option maxRecDepth 20000 in
theorem gX7_readSeam_X7_number : GoodIn wsX7_readSeam (wsV RX7 95 RX7 yX7_number wsX7_number) := goodIn_app (goodIn_of _ (by decide +kernel)) ggX7_readSeam_X7_number
set_option maxRecDepth 20000 in
theorem ggX7_readSeam_X7_blanks : GoodIn wsX7_readSeam wsX7_blanks := goodIn_r _ [19, 3, 4, 5, 20, 46, 47, 48, 49, 50, 51, 52, 53, 54, 55, 56, 57, 58, 59, 60, 61, 62, 63, 64] (by decide +kernel) (by decide +kernel)
set_option maxRecDepth 20000 in
theorem gX7_readSeam_X7_blanks : GoodIn wsX7_readSeam (wsV RX7 83 RX7 yX7_blanks wsX7_blanks) := goodIn_app (goodIn_of _ (by decide +kernel)) ggX7_readSeam_X7_blanks
set_option maxRecDepth 20000 in
theorem ggX7_readSeam_X7_isFigure : GoodIn wsX7_readSeam wsX7_isFigure := goodIn_r _ [35, 36, 37, 26, 27, 9, 28] (by decide +kernel) (by decide +kernel)
set_option maxRecDepth 20000 in
theorem gX7_readSeam_X7_isFigure : GoodIn wsX7_readSeam (va_wsS RX7 80 yX7_isFigure wsX7_isFigure) := goodIn_app (goodIn_of _ (by decide +kernel)) ggX7_readSeam_X7_isFigure
set_option maxRecDepth 20000 in
theorem ggX7_readSeam_X7_ends : GoodIn wsX7_readSeam wsX7_ends := goodIn_r _ [45, 11, 12, 13, 14, 9, 15, 3, 4, 5, 16, 17, 18, 19, 20, 21, 22, 23, 24, 25, 26, 27, 28, 29, 30, 31, 32, 2, 33, 34, 35, 36, 37, 38, 39, 40, 41, 46, 47, 48, 49, 50, 51, 52, 53, 54, 55, 56, 57, 58, 59, 60, 61, 62, 63, 64] (by decide +kernel) (by decide +kernel)
set_option maxRecDepth 20000 in
theorem gX7_readSeam_X7_ends : GoodIn wsX7_readSeam (wsV RX7 99 RX7 yX7_ends wsX7_ends) := goodIn_app (goodIn_of _ (by decide +kernel)) ggX7_readSeam_X7_ends
theorem dX7_readSeam_0 : decode cX7_readSeam 0 = .ok (.aload_n 0, 1) := by decide +kernel
theorem dX7_readSeam_1 : decode cX7_readSeam 1 = .ok (.getfield 13, 3) := by decide +kernel
theorem dX7_readSeam_4 : decode cX7_readSeam 4 = .ok (.iconst 0, 1) := by decide +kernel
theorem dX7_readSeam_5 : decode cX7_readSeam 5 = .ok (.iaload, 1) := by decide +kernel
theorem dX7_readSeam_6 : decode cX7_readSeam 6 = .ok (.ifCond .gt 12, 3) := by decide +kernel
theorem dX7_readSeam_9 : decode cX7_readSeam 9 = .ok (.aload_n 0, 1) := by decide +kernel
theorem dX7_readSeam_10 : decode cX7_readSeam 10 = .ok (.iconst 1, 1) := by decide +kernel
theorem dX7_readSeam_11 : decode cX7_readSeam 11 = .ok (.iconst 4, 1) := by decide +kernel
theorem dX7_readSeam_12 : decode cX7_readSeam 12 = .ok (.invokevirtual 95, 3) := by decide +kernel
theorem dX7_readSeam_15 : decode cX7_readSeam 15 = .ok (.ifCond .ne 5, 3) := by decide +kernel
theorem dX7_readSeam_18 : decode cX7_readSeam 18 = .ok (.iconst 0, 1) := by decide +kernel
theorem dX7_readSeam_19 : decode cX7_readSeam 19 = .ok (.ireturn, 1) := by decide +kernel
theorem dX7_readSeam_20 : decode cX7_readSeam 20 = .ok (.aload_n 0, 1) := by decide +kernel
theorem dX7_readSeam_21 : decode cX7_readSeam 21 = .ok (.getfield 13, 3) := by decide +kernel
theorem dX7_readSeam_24 : decode cX7_readSeam 24 = .ok (.iconst 0, 1) := by decide +kernel
theorem dX7_readSeam_25 : decode cX7_readSeam 25 = .ok (.aload_n 0, 1) := by decide +kernel
theorem dX7_readSeam_26 : decode cX7_readSeam 26 = .ok (.getfield 67, 3) := by decide +kernel
theorem dX7_readSeam_29 : decode cX7_readSeam 29 = .ok (.iastore, 1) := by decide +kernel
theorem dX7_readSeam_30 : decode cX7_readSeam 30 = .ok (.aload_n 0, 1) := by decide +kernel
theorem dX7_readSeam_31 : decode cX7_readSeam 31 = .ok (.iconst 1, 1) := by decide +kernel
theorem dX7_readSeam_32 : decode cX7_readSeam 32 = .ok (.iconst 4, 1) := by decide +kernel
theorem dX7_readSeam_33 : decode cX7_readSeam 33 = .ok (.invokevirtual 95, 3) := by decide +kernel
theorem dX7_readSeam_36 : decode cX7_readSeam 36 = .ok (.ifCond .ne 5, 3) := by decide +kernel
theorem dX7_readSeam_39 : decode cX7_readSeam 39 = .ok (.iconst 0, 1) := by decide +kernel
theorem dX7_readSeam_40 : decode cX7_readSeam 40 = .ok (.ireturn, 1) := by decide +kernel
theorem dX7_readSeam_41 : decode cX7_readSeam 41 = .ok (.aload_n 0, 1) := by decide +kernel
theorem dX7_readSeam_42 : decode cX7_readSeam 42 = .ok (.getfield 13, 3) := by decide +kernel
theorem dX7_readSeam_45 : decode cX7_readSeam 45 = .ok (.iconst 1, 1) := by decide +kernel
theorem dX7_readSeam_46 : decode cX7_readSeam 46 = .ok (.aload_n 0, 1) := by decide +kernel
theorem dX7_readSeam_47 : decode cX7_readSeam 47 = .ok (.getfield 67, 3) := by decide +kernel
theorem dX7_readSeam_50 : decode cX7_readSeam 50 = .ok (.iastore, 1) := by decide +kernel
theorem dX7_readSeam_51 : decode cX7_readSeam 51 = .ok (.iconst 0, 1) := by decide +kernel
theorem dX7_readSeam_52 : decode cX7_readSeam 52 = .ok (.istore_n 1, 1) := by decide +kernel
theorem dX7_readSeam_53 : decode cX7_readSeam 53 = .ok (.iload_n 1, 1) := by decide +kernel
theorem dX7_readSeam_54 : decode cX7_readSeam 54 = .ok (.aload_n 0, 1) := by decide +kernel
theorem dX7_readSeam_55 : decode cX7_readSeam 55 = .ok (.getfield 13, 3) := by decide +kernel
theorem dX7_readSeam_58 : decode cX7_readSeam 58 = .ok (.iconst 0, 1) := by decide +kernel
theorem dX7_readSeam_59 : decode cX7_readSeam 59 = .ok (.iaload, 1) := by decide +kernel
theorem dX7_readSeam_60 : decode cX7_readSeam 60 = .ok (.aload_n 0, 1) := by decide +kernel
theorem dX7_readSeam_61 : decode cX7_readSeam 61 = .ok (.getfield 13, 3) := by decide +kernel
theorem dX7_readSeam_64 : decode cX7_readSeam 64 = .ok (.iconst 1, 1) := by decide +kernel
theorem dX7_readSeam_65 : decode cX7_readSeam 65 = .ok (.iaload, 1) := by decide +kernel
theorem dX7_readSeam_66 : decode cX7_readSeam 66 = .ok (.imul, 1) := by decide +kernel
theorem dX7_readSeam_67 : decode cX7_readSeam 67 = .ok (.if_icmp .ge 72, 3) := by decide +kernel
theorem dX7_readSeam_70 : decode cX7_readSeam 70 = .ok (.aload_n 0, 1) := by decide +kernel
theorem dX7_readSeam_71 : decode cX7_readSeam 71 = .ok (.invokevirtual 83, 3) := by decide +kernel
theorem dX7_readSeam_74 : decode cX7_readSeam 74 = .ok (.aload_n 0, 1) := by decide +kernel
theorem dX7_readSeam_75 : decode cX7_readSeam 75 = .ok (.getfield 64, 3) := by decide +kernel
theorem dX7_readSeam_78 : decode cX7_readSeam 78 = .ok (.aload_n 0, 1) := by decide +kernel
theorem dX7_readSeam_79 : decode cX7_readSeam 79 = .ok (.getfield 52, 3) := by decide +kernel
theorem dX7_readSeam_82 : decode cX7_readSeam 82 = .ok (.if_icmp .eq 18, 3) := by decide +kernel
theorem dX7_readSeam_85 : decode cX7_readSeam 85 = .ok (.aload_n 0, 1) := by decide +kernel
theorem dX7_readSeam_86 : decode cX7_readSeam 86 = .ok (.getfield 7, 3) := by decide +kernel
theorem dX7_readSeam_89 : decode cX7_readSeam 89 = .ok (.aload_n 0, 1) := by decide +kernel
theorem dX7_readSeam_90 : decode cX7_readSeam 90 = .ok (.getfield 64, 3) := by decide +kernel
theorem dX7_readSeam_93 : decode cX7_readSeam 93 = .ok (.iaload, 1) := by decide +kernel
theorem dX7_readSeam_94 : decode cX7_readSeam 94 = .ok (.invokestatic 80, 3) := by decide +kernel
theorem dX7_readSeam_97 : decode cX7_readSeam 97 = .ok (.ifCond .ne 5, 3) := by decide +kernel
theorem dX7_readSeam_100 : decode cX7_readSeam 100 = .ok (.iconst 0, 1) := by decide +kernel
theorem dX7_readSeam_101 : decode cX7_readSeam 101 = .ok (.ireturn, 1) := by decide +kernel
theorem dX7_readSeam_102 : decode cX7_readSeam 102 = .ok (.aload_n 0, 1) := by decide +kernel
theorem dX7_readSeam_103 : decode cX7_readSeam 103 = .ok (.getfield 13, 3) := by decide +kernel
theorem dX7_readSeam_106 : decode cX7_readSeam 106 = .ok (.bipush 6, 2) := by decide +kernel
theorem dX7_readSeam_108 : decode cX7_readSeam 108 = .ok (.iload_n 1, 1) := by decide +kernel
theorem dX7_readSeam_109 : decode cX7_readSeam 109 = .ok (.iadd, 1) := by decide +kernel
theorem dX7_readSeam_110 : decode cX7_readSeam 110 = .ok (.aload_n 0, 1) := by decide +kernel
theorem dX7_readSeam_111 : decode cX7_readSeam 111 = .ok (.getfield 7, 3) := by decide +kernel
theorem dX7_readSeam_114 : decode cX7_readSeam 114 = .ok (.aload_n 0, 1) := by decide +kernel
theorem dX7_readSeam_115 : decode cX7_readSeam 115 = .ok (.getfield 64, 3) := by decide +kernel
theorem dX7_readSeam_118 : decode cX7_readSeam 118 = .ok (.iaload, 1) := by decide +kernel
theorem dX7_readSeam_119 : decode cX7_readSeam 119 = .ok (.bipush 48, 2) := by decide +kernel
theorem dX7_readSeam_121 : decode cX7_readSeam 121 = .ok (.isub, 1) := by decide +kernel
theorem dX7_readSeam_122 : decode cX7_readSeam 122 = .ok (.iastore, 1) := by decide +kernel
theorem dX7_readSeam_123 : decode cX7_readSeam 123 = .ok (.aload_n 0, 1) := by decide +kernel
theorem dX7_readSeam_124 : decode cX7_readSeam 124 = .ok (.dup, 1) := by decide +kernel
theorem dX7_readSeam_125 : decode cX7_readSeam 125 = .ok (.getfield 64, 3) := by decide +kernel
theorem dX7_readSeam_128 : decode cX7_readSeam 128 = .ok (.iconst 1, 1) := by decide +kernel
theorem dX7_readSeam_129 : decode cX7_readSeam 129 = .ok (.iadd, 1) := by decide +kernel
theorem dX7_readSeam_130 : decode cX7_readSeam 130 = .ok (.putfield 64, 3) := by decide +kernel
theorem dX7_readSeam_133 : decode cX7_readSeam 133 = .ok (.iinc 1 1, 3) := by decide +kernel
theorem dX7_readSeam_136 : decode cX7_readSeam 136 = .ok (.goto (-83), 3) := by decide +kernel
theorem dX7_readSeam_139 : decode cX7_readSeam 139 = .ok (.aload_n 0, 1) := by decide +kernel
theorem dX7_readSeam_140 : decode cX7_readSeam 140 = .ok (.invokevirtual 99, 3) := by decide +kernel
theorem dX7_readSeam_143 : decode cX7_readSeam 143 = .ok (.ireturn, 1) := by decide +kernel
set_option maxRecDepth 20000 in
theorem ggX7_readThing_X7_number : GoodIn wsX7_readThing wsX7_number := goodIn_r _ [7, 8, 2, 9, 10, 11, 6, 12, 13, 14, 15, 16, 17, 18, 19, 20, 21, 22, 23, 24, 25, 26, 27, 28, 29, 30, 31, 32, 33, 34, 35, 36, 37, 38, 39, 40, 41, 46, 47, 48, 49, 50, 51, 52, 53, 54, 55, 56, 57, 58, 59, 60, 61, 62, 63, 64] (by decide +kernel) (by decide +kernel)
set_option maxRecDepth 20000 in
theorem gX7_readThing_X7_number : GoodIn wsX7_readThing (wsV RX7 95 RX7 yX7_number wsX7_number) := goodIn_app (goodIn_of _ (by decide +kernel)) ggX7_readThing_X7_number
set_option maxRecDepth 20000 in
theorem ggX7_readThing_X7_ends : GoodIn wsX7_readThing wsX7_ends := goodIn_r _ [45, 8, 9, 10, 11, 6, 12, 13, 14, 15, 16, 17, 18, 19, 20, 21, 22, 23, 24, 25, 26, 27, 28, 29, 30, 31, 32, 2, 33, 34, 35, 36, 37, 38, 39, 40, 41, 46, 47, 48, 49, 50, 51, 52, 53, 54, 55, 56, 57, 58, 59, 60, 61, 62, 63, 64] (by decide +kernel) (by decide +kernel)
set_option maxRecDepth 20000 in
theorem gX7_readThing_X7_ends : GoodIn wsX7_readThing (wsV RX7 99 RX7 yX7_ends wsX7_ends) := goodIn_app (goodIn_of _ (by decide +kernel)) ggX7_readThing_X7_ends
theorem dX7_readThing_0 : decode cX7_readThing 0 = .ok (.aload_n 0, 1) := by decide +kernel
theorem dX7_readThing_1 : decode cX7_readThing 1 = .ok (.getfield 13, 3) := by decide +kernel
theorem dX7_readThing_4 : decode cX7_readThing 4 = .ok (.iconst 2, 1) := by decide +kernel
theorem dX7_readThing_5 : decode cX7_readThing 5 = .ok (.iaload, 1) := by decide +kernel
theorem dX7_readThing_6 : decode cX7_readThing 6 = .ok (.bipush 6, 2) := by decide +kernel
theorem dX7_readThing_8 : decode cX7_readThing 8 = .ok (.if_icmp .ne 5, 3) := by decide +kernel
theorem dX7_readThing_11 : decode cX7_readThing 11 = .ok (.iconst 0, 1) := by decide +kernel
theorem dX7_readThing_12 : decode cX7_readThing 12 = .ok (.ireturn, 1) := by decide +kernel
theorem dX7_readThing_13 : decode cX7_readThing 13 = .ok (.bipush 22, 2) := by decide +kernel
theorem dX7_readThing_15 : decode cX7_readThing 15 = .ok (.iconst 4, 1) := by decide +kernel
theorem dX7_readThing_16 : decode cX7_readThing 16 = .ok (.aload_n 0, 1) := by decide +kernel
theorem dX7_readThing_17 : decode cX7_readThing 17 = .ok (.getfield 13, 3) := by decide +kernel
theorem dX7_readThing_20 : decode cX7_readThing 20 = .ok (.iconst 2, 1) := by decide +kernel
theorem dX7_readThing_21 : decode cX7_readThing 21 = .ok (.iaload, 1) := by decide +kernel
theorem dX7_readThing_22 : decode cX7_readThing 22 = .ok (.imul, 1) := by decide +kernel
theorem dX7_readThing_23 : decode cX7_readThing 23 = .ok (.iadd, 1) := by decide +kernel
theorem dX7_readThing_24 : decode cX7_readThing 24 = .ok (.istore_n 1, 1) := by decide +kernel
theorem dX7_readThing_25 : decode cX7_readThing 25 = .ok (.iconst 0, 1) := by decide +kernel
theorem dX7_readThing_26 : decode cX7_readThing 26 = .ok (.istore_n 2, 1) := by decide +kernel
theorem dX7_readThing_27 : decode cX7_readThing 27 = .ok (.iload_n 2, 1) := by decide +kernel
theorem dX7_readThing_28 : decode cX7_readThing 28 = .ok (.iconst 4, 1) := by decide +kernel
theorem dX7_readThing_29 : decode cX7_readThing 29 = .ok (.if_icmp .ge 53, 3) := by decide +kernel
theorem dX7_readThing_32 : decode cX7_readThing 32 = .ok (.aload_n 0, 1) := by decide +kernel
theorem dX7_readThing_33 : decode cX7_readThing 33 = .ok (.iconst 0, 1) := by decide +kernel
theorem dX7_readThing_34 : decode cX7_readThing 34 = .ok (.iload_n 2, 1) := by decide +kernel
theorem dX7_readThing_35 : decode cX7_readThing 35 = .ok (.iconst 2, 1) := by decide +kernel
theorem dX7_readThing_36 : decode cX7_readThing 36 = .ok (.if_icmp .ge 8, 3) := by decide +kernel
theorem dX7_readThing_39 : decode cX7_readThing 39 = .ok (.bipush 60, 2) := by decide +kernel
theorem dX7_readThing_41 : decode cX7_readThing 41 = .ok (.goto 15, 3) := by decide +kernel
theorem dX7_readThing_44 : decode cX7_readThing 44 = .ok (.iload_n 2, 1) := by decide +kernel
theorem dX7_readThing_45 : decode cX7_readThing 45 = .ok (.iconst 2, 1) := by decide +kernel
theorem dX7_readThing_46 : decode cX7_readThing 46 = .ok (.if_icmp .ne 8, 3) := by decide +kernel
theorem dX7_readThing_49 : decode cX7_readThing 49 = .ok (.bipush 9, 2) := by decide +kernel
theorem dX7_readThing_51 : decode cX7_readThing 51 = .ok (.goto 5, 3) := by decide +kernel
theorem dX7_readThing_54 : decode cX7_readThing 54 = .ok (.bipush 99, 2) := by decide +kernel
theorem dX7_readThing_56 : decode cX7_readThing 56 = .ok (.invokevirtual 95, 3) := by decide +kernel
theorem dX7_readThing_59 : decode cX7_readThing 59 = .ok (.ifCond .ne 5, 3) := by decide +kernel
theorem dX7_readThing_62 : decode cX7_readThing 62 = .ok (.iconst 0, 1) := by decide +kernel
theorem dX7_readThing_63 : decode cX7_readThing 63 = .ok (.ireturn, 1) := by decide +kernel
theorem dX7_readThing_64 : decode cX7_readThing 64 = .ok (.aload_n 0, 1) := by decide +kernel
theorem dX7_readThing_65 : decode cX7_readThing 65 = .ok (.getfield 13, 3) := by decide +kernel
theorem dX7_readThing_68 : decode cX7_readThing 68 = .ok (.iload_n 1, 1) := by decide +kernel
theorem dX7_readThing_69 : decode cX7_readThing 69 = .ok (.iload_n 2, 1) := by decide +kernel
theorem dX7_readThing_70 : decode cX7_readThing 70 = .ok (.iadd, 1) := by decide +kernel
theorem dX7_readThing_71 : decode cX7_readThing 71 = .ok (.aload_n 0, 1) := by decide +kernel
theorem dX7_readThing_72 : decode cX7_readThing 72 = .ok (.getfield 67, 3) := by decide +kernel
theorem dX7_readThing_75 : decode cX7_readThing 75 = .ok (.iastore, 1) := by decide +kernel
theorem dX7_readThing_76 : decode cX7_readThing 76 = .ok (.iinc 2 1, 3) := by decide +kernel
theorem dX7_readThing_79 : decode cX7_readThing 79 = .ok (.goto (-52), 3) := by decide +kernel
theorem dX7_readThing_82 : decode cX7_readThing 82 = .ok (.aload_n 0, 1) := by decide +kernel
theorem dX7_readThing_83 : decode cX7_readThing 83 = .ok (.getfield 13, 3) := by decide +kernel
theorem dX7_readThing_86 : decode cX7_readThing 86 = .ok (.iconst 2, 1) := by decide +kernel
theorem dX7_readThing_87 : decode cX7_readThing 87 = .ok (.dup2, 1) := by decide +kernel
theorem dX7_readThing_88 : decode cX7_readThing 88 = .ok (.iaload, 1) := by decide +kernel
theorem dX7_readThing_89 : decode cX7_readThing 89 = .ok (.iconst 1, 1) := by decide +kernel
theorem dX7_readThing_90 : decode cX7_readThing 90 = .ok (.iadd, 1) := by decide +kernel
theorem dX7_readThing_91 : decode cX7_readThing 91 = .ok (.iastore, 1) := by decide +kernel
theorem dX7_readThing_92 : decode cX7_readThing 92 = .ok (.aload_n 0, 1) := by decide +kernel
theorem dX7_readThing_93 : decode cX7_readThing 93 = .ok (.invokevirtual 99, 3) := by decide +kernel
theorem dX7_readThing_96 : decode cX7_readThing 96 = .ok (.ireturn, 1) := by decide +kernel
set_option maxRecDepth 20000 in
theorem ggX7_once_X7_number : GoodIn wsX7_once wsX7_number := goodIn_r _ [7, 8, 2, 9, 10, 11, 6, 12, 13, 14, 15, 16, 17, 18, 19, 20, 21, 22, 23, 24, 25, 26, 27, 28, 29, 30, 31, 32, 33, 34, 35, 36, 37, 38, 39, 40, 41, 46, 47, 48, 49, 50, 51, 52, 53, 54, 55, 56, 57, 58, 59, 60, 61, 62, 63, 64] (by decide +kernel) (by decide +kernel)
set_option maxRecDepth 20000 in
theorem gX7_once_X7_number : GoodIn wsX7_once (wsV RX7 95 RX7 yX7_number wsX7_number) := goodIn_app (goodIn_of _ (by decide +kernel)) ggX7_once_X7_number
set_option maxRecDepth 20000 in
theorem ggX7_once_X7_ends : GoodIn wsX7_once wsX7_ends := goodIn_r _ [45, 8, 9, 10, 11, 6, 12, 13, 14, 15, 16, 17, 18, 19, 20, 21, 22, 23, 24, 25, 26, 27, 28, 29, 30, 31, 32, 2, 33, 34, 35, 36, 37, 38, 39, 40, 41, 46, 47, 48, 49, 50, 51, 52, 53, 54, 55, 56, 57, 58, 59, 60, 61, 62, 63, 64] (by decide +kernel) (by decide +kernel)
set_option maxRecDepth 20000 in
theorem gX7_once_X7_ends : GoodIn wsX7_once (wsV RX7 99 RX7 yX7_ends wsX7_ends) := goodIn_app (goodIn_of _ (by decide +kernel)) ggX7_once_X7_ends
theorem dX7_once_0 : decode cX7_once 0 = .ok (.aload_n 0, 1) := by decide +kernel
theorem dX7_once_1 : decode cX7_once 1 = .ok (.getfield 13, 3) := by decide +kernel
theorem dX7_once_4 : decode cX7_once 4 = .ok (.iconst 5, 1) := by decide +kernel
theorem dX7_once_5 : decode cX7_once 5 = .ok (.iaload, 1) := by decide +kernel
theorem dX7_once_6 : decode cX7_once 6 = .ok (.iload_n 1, 1) := by decide +kernel
theorem dX7_once_7 : decode cX7_once 7 = .ok (.iand, 1) := by decide +kernel
theorem dX7_once_8 : decode cX7_once 8 = .ok (.ifCond .ne 13, 3) := by decide +kernel
theorem dX7_once_11 : decode cX7_once 11 = .ok (.aload_n 0, 1) := by decide +kernel
theorem dX7_once_12 : decode cX7_once 12 = .ok (.iload_n 3, 1) := by decide +kernel
theorem dX7_once_13 : decode cX7_once 13 = .ok (.bipush 10, 2) := by decide +kernel
theorem dX7_once_15 : decode cX7_once 15 = .ok (.invokevirtual 95, 3) := by decide +kernel
theorem dX7_once_18 : decode cX7_once 18 = .ok (.ifCond .ne 5, 3) := by decide +kernel
theorem dX7_once_21 : decode cX7_once 21 = .ok (.iconst 0, 1) := by decide +kernel
theorem dX7_once_22 : decode cX7_once 22 = .ok (.ireturn, 1) := by decide +kernel
theorem dX7_once_23 : decode cX7_once 23 = .ok (.aload_n 0, 1) := by decide +kernel
theorem dX7_once_24 : decode cX7_once 24 = .ok (.getfield 13, 3) := by decide +kernel
theorem dX7_once_27 : decode cX7_once 27 = .ok (.iconst 5, 1) := by decide +kernel
theorem dX7_once_28 : decode cX7_once 28 = .ok (.dup2, 1) := by decide +kernel
theorem dX7_once_29 : decode cX7_once 29 = .ok (.iaload, 1) := by decide +kernel
theorem dX7_once_30 : decode cX7_once 30 = .ok (.iload_n 1, 1) := by decide +kernel
theorem dX7_once_31 : decode cX7_once 31 = .ok (.ior, 1) := by decide +kernel
theorem dX7_once_32 : decode cX7_once 32 = .ok (.iastore, 1) := by decide +kernel
theorem dX7_once_33 : decode cX7_once 33 = .ok (.aload_n 0, 1) := by decide +kernel
theorem dX7_once_34 : decode cX7_once 34 = .ok (.getfield 13, 3) := by decide +kernel
theorem dX7_once_37 : decode cX7_once 37 = .ok (.iload_n 2, 1) := by decide +kernel
theorem dX7_once_38 : decode cX7_once 38 = .ok (.aload_n 0, 1) := by decide +kernel
theorem dX7_once_39 : decode cX7_once 39 = .ok (.getfield 67, 3) := by decide +kernel
theorem dX7_once_42 : decode cX7_once 42 = .ok (.iastore, 1) := by decide +kernel
theorem dX7_once_43 : decode cX7_once 43 = .ok (.aload_n 0, 1) := by decide +kernel
theorem dX7_once_44 : decode cX7_once 44 = .ok (.invokevirtual 99, 3) := by decide +kernel
theorem dX7_once_47 : decode cX7_once 47 = .ok (.ireturn, 1) := by decide +kernel
set_option maxRecDepth 20000 in
theorem ggX7_readItem_X7_readSeam : GoodIn wsX7_readItem wsX7_readSeam := goodIn_r _ [7, 8, 2, 9, 10, 11, 12, 13, 14, 6, 15, 1, 16, 17, 18, 19, 20, 21, 22, 23, 24, 25, 26, 27, 28, 29, 30, 31, 32, 33, 34, 35, 36, 37, 38, 39, 40, 41, 42, 43, 44, 45, 46, 47, 48, 49, 58, 59, 60, 61, 62, 63, 64, 65, 66, 67, 68, 69, 70, 71, 72, 73, 74, 75, 76] (by decide +kernel) (by decide +kernel)
set_option maxRecDepth 20000 in
theorem gX7_readItem_X7_readSeam : GoodIn wsX7_readItem (wsV RX7 103 RX7 yX7_readSeam wsX7_readSeam) := goodIn_app (goodIn_of _ (by decide +kernel)) ggX7_readItem_X7_readSeam
set_option maxRecDepth 20000 in
theorem ggX7_readItem_X7_readThing : GoodIn wsX7_readItem wsX7_readThing := goodIn_r _ [53, 8, 2, 12, 13, 14, 6, 15, 1, 16, 17, 18, 19, 9, 10, 11, 20, 21, 22, 23, 24, 25, 26, 27, 28, 29, 30, 31, 32, 33, 34, 35, 36, 37, 38, 39, 40, 41, 42, 43, 44, 45, 46, 47, 48, 49, 58, 59, 60, 61, 62, 63, 64, 65, 66, 67, 68, 69, 70, 71, 72, 73, 74, 75, 76] (by decide +kernel) (by decide +kernel)
set_option maxRecDepth 20000 in
theorem gX7_readItem_X7_readThing : GoodIn wsX7_readItem (wsV RX7 106 RX7 yX7_readThing wsX7_readThing) := goodIn_app (goodIn_of _ (by decide +kernel)) ggX7_readItem_X7_readThing
set_option maxRecDepth 20000 in
theorem ggX7_readItem_X7_once : GoodIn wsX7_readItem wsX7_once := goodIn_r _ [57, 8, 2, 12, 13, 14, 6, 15, 1, 16, 17, 18, 19, 9, 10, 11, 20, 21, 22, 23, 24, 25, 26, 27, 28, 29, 30, 31, 32, 33, 34, 35, 36, 37, 38, 39, 40, 41, 42, 43, 44, 45, 46, 47, 48, 49, 58, 59, 60, 61, 62, 63, 64, 65, 66, 67, 68, 69, 70, 71, 72, 73, 74, 75, 76] (by decide +kernel) (by decide +kernel)
set_option maxRecDepth 20000 in
theorem gX7_readItem_X7_once : GoodIn wsX7_readItem (wsV RX7 109 RX7 yX7_once wsX7_once) := goodIn_app (goodIn_of _ (by decide +kernel)) ggX7_readItem_X7_once
theorem dX7_readItem_0 : decode cX7_readItem 0 = .ok (.aload_n 0, 1) := by decide +kernel
theorem dX7_readItem_1 : decode cX7_readItem 1 = .ok (.getfield 77, 3) := by decide +kernel
theorem dX7_readItem_4 : decode cX7_readItem 4 = .ok (.iconst 1, 1) := by decide +kernel
theorem dX7_readItem_5 : decode cX7_readItem 5 = .ok (.if_icmp .eq 5, 3) := by decide +kernel
theorem dX7_readItem_8 : decode cX7_readItem 8 = .ok (.iconst 0, 1) := by decide +kernel
theorem dX7_readItem_9 : decode cX7_readItem 9 = .ok (.ireturn, 1) := by decide +kernel
theorem dX7_readItem_10 : decode cX7_readItem 10 = .ok (.aload_n 0, 1) := by decide +kernel
theorem dX7_readItem_11 : decode cX7_readItem 11 = .ok (.getfield 67, 3) := by decide +kernel
theorem dX7_readItem_14 : decode cX7_readItem 14 = .ok (.lookupswitch 52 #[(98, 44), (115, 34), (116, 39)], 34) := by decide +kernel
theorem dX7_readItem_48 : decode cX7_readItem 48 = .ok (.aload_n 0, 1) := by decide +kernel
theorem dX7_readItem_49 : decode cX7_readItem 49 = .ok (.invokevirtual 103, 3) := by decide +kernel
theorem dX7_readItem_52 : decode cX7_readItem 52 = .ok (.ireturn, 1) := by decide +kernel
theorem dX7_readItem_53 : decode cX7_readItem 53 = .ok (.aload_n 0, 1) := by decide +kernel
theorem dX7_readItem_54 : decode cX7_readItem 54 = .ok (.invokevirtual 106, 3) := by decide +kernel
theorem dX7_readItem_57 : decode cX7_readItem 57 = .ok (.ireturn, 1) := by decide +kernel
theorem dX7_readItem_58 : decode cX7_readItem 58 = .ok (.aload_n 0, 1) := by decide +kernel
theorem dX7_readItem_59 : decode cX7_readItem 59 = .ok (.iconst 1, 1) := by decide +kernel
theorem dX7_readItem_60 : decode cX7_readItem 60 = .ok (.iconst 3, 1) := by decide +kernel
theorem dX7_readItem_61 : decode cX7_readItem 61 = .ok (.iconst 1, 1) := by decide +kernel
theorem dX7_readItem_62 : decode cX7_readItem 62 = .ok (.invokevirtual 109, 3) := by decide +kernel
theorem dX7_readItem_65 : decode cX7_readItem 65 = .ok (.ireturn, 1) := by decide +kernel
theorem dX7_readItem_66 : decode cX7_readItem 66 = .ok (.aload_n 0, 1) := by decide +kernel
theorem dX7_readItem_67 : decode cX7_readItem 67 = .ok (.iconst 2, 1) := by decide +kernel
theorem dX7_readItem_68 : decode cX7_readItem 68 = .ok (.iconst 4, 1) := by decide +kernel
theorem dX7_readItem_69 : decode cX7_readItem 69 = .ok (.iconst 0, 1) := by decide +kernel
theorem dX7_readItem_70 : decode cX7_readItem 70 = .ok (.invokevirtual 109, 3) := by decide +kernel
theorem dX7_readItem_73 : decode cX7_readItem 73 = .ok (.ireturn, 1) := by decide +kernel
set_option maxRecDepth 20000 in
theorem ggX7_hill_X7_plain : GoodIn wsX7_hill wsX7_plain := goodIn_r _ [9, 10, 75, 76, 77, 78, 79, 80, 81, 82, 83, 84, 85, 86, 87, 88, 89, 90, 91, 92, 93] (by decide +kernel) (by decide +kernel)
set_option maxRecDepth 20000 in
theorem gX7_hill_X7_plain : GoodIn wsX7_hill (wsV RX7 40 RX7 yX7_plain wsX7_plain) := goodIn_app (goodIn_of _ (by decide +kernel)) ggX7_hill_X7_plain
set_option maxRecDepth 20000 in
theorem ggX7_hill_X7_reads : GoodIn wsX7_hill wsX7_reads := goodIn_r _ [14, 1, 4, 2, 15, 16, 17, 18, 8, 19, 3, 20, 21, 22, 23, 24, 25, 26, 27, 28, 29, 30, 31, 32, 33, 34, 35, 36, 37, 38, 39, 40, 41, 75, 76, 77, 78, 79, 80, 81, 82, 83, 84, 85, 86, 87, 88, 89, 90, 91, 92, 93] (by decide +kernel) (by decide +kernel)
set_option maxRecDepth 20000 in
theorem gX7_hill_X7_reads : GoodIn wsX7_hill (wsV RX7 92 RX7 yX7_reads wsX7_reads) := goodIn_app (goodIn_of _ (by decide +kernel)) ggX7_hill_X7_reads
set_option maxRecDepth 20000 in
theorem ggX7_hill_X7_readItem : GoodIn wsX7_hill wsX7_readItem := goodIn_r _ [45, 2, 32, 46, 47, 48, 8, 49, 10, 1, 4, 15, 50, 51, 52, 53, 11, 12, 13, 14, 16, 17, 18, 19, 3, 20, 21, 22, 23, 24, 25, 26, 27, 28, 29, 30, 31, 33, 34, 35, 36, 37, 38, 39, 40, 41, 54, 55, 56, 57, 58, 59, 60, 61, 62, 63, 64, 65, 75, 76, 77, 78, 79, 80, 81, 82, 83, 84, 85, 86, 87, 88, 89, 90, 91, 92, 93] (by decide +kernel) (by decide +kernel)
set_option maxRecDepth 20000 in
theorem gX7_hill_X7_readItem : GoodIn wsX7_hill (wsV RX7 113 RX7 yX7_readItem wsX7_readItem) := goodIn_app (goodIn_of _ (by decide +kernel)) ggX7_hill_X7_readItem
set_option maxRecDepth 20000 in
theorem ggX7_hill_X7_takes : GoodIn wsX7_hill wsX7_takes := goodIn_r _ [69, 70, 10, 71, 72, 73, 74, 75, 76, 77, 78, 79, 80, 81, 82, 83, 84, 85, 86, 87, 88, 89, 90, 91, 92, 93] (by decide +kernel) (by decide +kernel)
set_option maxRecDepth 20000 in
theorem gX7_hill_X7_takes : GoodIn wsX7_hill (wsV RX7 43 RX7 yX7_takes wsX7_takes) := goodIn_app (goodIn_of _ (by decide +kernel)) ggX7_hill_X7_takes
theorem dX7_hill_0 : decode cX7_hill 0 = .ok (.aload_n 0, 1) := by decide +kernel
theorem dX7_hill_1 : decode cX7_hill 1 = .ok (.invokevirtual 40, 3) := by decide +kernel
theorem dX7_hill_4 : decode cX7_hill 4 = .ok (.aload_n 0, 1) := by decide +kernel
theorem dX7_hill_5 : decode cX7_hill 5 = .ok (.iconst 0, 1) := by decide +kernel
theorem dX7_hill_6 : decode cX7_hill 6 = .ok (.putfield 64, 3) := by decide +kernel
theorem dX7_hill_9 : decode cX7_hill 9 = .ok (.iconst 0, 1) := by decide +kernel
theorem dX7_hill_10 : decode cX7_hill 10 = .ok (.istore_n 1, 1) := by decide +kernel
theorem dX7_hill_11 : decode cX7_hill 11 = .ok (.aload_n 0, 1) := by decide +kernel
theorem dX7_hill_12 : decode cX7_hill 12 = .ok (.invokevirtual 92, 3) := by decide +kernel
theorem dX7_hill_15 : decode cX7_hill 15 = .ok (.aload_n 0, 1) := by decide +kernel
theorem dX7_hill_16 : decode cX7_hill 16 = .ok (.getfield 77, 3) := by decide +kernel
theorem dX7_hill_19 : decode cX7_hill 19 = .ok (.ifCond .eq 28, 3) := by decide +kernel
theorem dX7_hill_22 : decode cX7_hill 22 = .ok (.aload_n 0, 1) := by decide +kernel
theorem dX7_hill_23 : decode cX7_hill 23 = .ok (.invokevirtual 113, 3) := by decide +kernel
theorem dX7_hill_26 : decode cX7_hill 26 = .ok (.ifCond .ne 11, 3) := by decide +kernel
theorem dX7_hill_29 : decode cX7_hill 29 = .ok (.bipush (-10), 2) := by decide +kernel
theorem dX7_hill_31 : decode cX7_hill 31 = .ok (.aload_n 0, 1) := by decide +kernel
theorem dX7_hill_32 : decode cX7_hill 32 = .ok (.getfield 74, 3) := by decide +kernel
theorem dX7_hill_35 : decode cX7_hill 35 = .ok (.isub, 1) := by decide +kernel
theorem dX7_hill_36 : decode cX7_hill 36 = .ok (.ireturn, 1) := by decide +kernel
theorem dX7_hill_37 : decode cX7_hill 37 = .ok (.iinc 1 1, 3) := by decide +kernel
theorem dX7_hill_40 : decode cX7_hill 40 = .ok (.aload_n 0, 1) := by decide +kernel
theorem dX7_hill_41 : decode cX7_hill 41 = .ok (.invokevirtual 92, 3) := by decide +kernel
theorem dX7_hill_44 : decode cX7_hill 44 = .ok (.goto (-29), 3) := by decide +kernel
theorem dX7_hill_47 : decode cX7_hill 47 = .ok (.aload_n 0, 1) := by decide +kernel
theorem dX7_hill_48 : decode cX7_hill 48 = .ok (.iconst 0, 1) := by decide +kernel
theorem dX7_hill_49 : decode cX7_hill 49 = .ok (.putfield 52, 3) := by decide +kernel
theorem dX7_hill_52 : decode cX7_hill 52 = .ok (.aload_n 0, 1) := by decide +kernel
theorem dX7_hill_53 : decode cX7_hill 53 = .ok (.invokevirtual 43, 3) := by decide +kernel
theorem dX7_hill_56 : decode cX7_hill 56 = .ok (.iload_n 1, 1) := by decide +kernel
theorem dX7_hill_57 : decode cX7_hill 57 = .ok (.ireturn, 1) := by decide +kernel
theorem dX7_takes_0 : decode cX7_takes 0 = .ok (.iconst 0, 1) := by decide +kernel
theorem dX7_takes_1 : decode cX7_takes 1 = .ok (.istore_n 1, 1) := by decide +kernel
theorem dX7_takes_2 : decode cX7_takes 2 = .ok (.iload_n 1, 1) := by decide +kernel
theorem dX7_takes_3 : decode cX7_takes 3 = .ok (.bipush 46, 2) := by decide +kernel
theorem dX7_takes_5 : decode cX7_takes 5 = .ok (.if_icmp .ge 21, 3) := by decide +kernel
theorem dX7_takes_8 : decode cX7_takes 8 = .ok (.aload_n 0, 1) := by decide +kernel
theorem dX7_takes_9 : decode cX7_takes 9 = .ok (.getfield 16, 3) := by decide +kernel
theorem dX7_takes_12 : decode cX7_takes 12 = .ok (.iload_n 1, 1) := by decide +kernel
theorem dX7_takes_13 : decode cX7_takes 13 = .ok (.aload_n 0, 1) := by decide +kernel
theorem dX7_takes_14 : decode cX7_takes 14 = .ok (.getfield 13, 3) := by decide +kernel
theorem dX7_takes_17 : decode cX7_takes 17 = .ok (.iload_n 1, 1) := by decide +kernel
theorem dX7_takes_18 : decode cX7_takes 18 = .ok (.iaload, 1) := by decide +kernel
theorem dX7_takes_19 : decode cX7_takes 19 = .ok (.iastore, 1) := by decide +kernel
theorem dX7_takes_20 : decode cX7_takes 20 = .ok (.iinc 1 1, 3) := by decide +kernel
theorem dX7_takes_23 : decode cX7_takes 23 = .ok (.goto (-21), 3) := by decide +kernel
theorem dX7_takes_26 : decode cX7_takes 26 = .ok (.iconst 0, 1) := by decide +kernel
theorem dX7_takes_27 : decode cX7_takes 27 = .ok (.istore_n 1, 1) := by decide +kernel
theorem dX7_takes_28 : decode cX7_takes 28 = .ok (.iload_n 1, 1) := by decide +kernel
theorem dX7_takes_29 : decode cX7_takes 29 = .ok (.bipush 15, 2) := by decide +kernel
theorem dX7_takes_31 : decode cX7_takes 31 = .ok (.if_icmp .ge 16, 3) := by decide +kernel
theorem dX7_takes_34 : decode cX7_takes 34 = .ok (.aload_n 0, 1) := by decide +kernel
theorem dX7_takes_35 : decode cX7_takes 35 = .ok (.getfield 19, 3) := by decide +kernel
theorem dX7_takes_38 : decode cX7_takes 38 = .ok (.iload_n 1, 1) := by decide +kernel
theorem dX7_takes_39 : decode cX7_takes 39 = .ok (.iconst 0, 1) := by decide +kernel
theorem dX7_takes_40 : decode cX7_takes 40 = .ok (.iastore, 1) := by decide +kernel
theorem dX7_takes_41 : decode cX7_takes 41 = .ok (.iinc 1 1, 3) := by decide +kernel
theorem dX7_takes_44 : decode cX7_takes 44 = .ok (.goto (-16), 3) := by decide +kernel
theorem dX7_takes_47 : decode cX7_takes 47 = .ok (.iconst 0, 1) := by decide +kernel
theorem dX7_takes_48 : decode cX7_takes 48 = .ok (.istore_n 1, 1) := by decide +kernel
theorem dX7_takes_49 : decode cX7_takes 49 = .ok (.iload_n 1, 1) := by decide +kernel
theorem dX7_takes_50 : decode cX7_takes 50 = .ok (.aload_n 0, 1) := by decide +kernel
theorem dX7_takes_51 : decode cX7_takes 51 = .ok (.getfield 16, 3) := by decide +kernel
theorem dX7_takes_54 : decode cX7_takes 54 = .ok (.iconst 2, 1) := by decide +kernel
theorem dX7_takes_55 : decode cX7_takes 55 = .ok (.iaload, 1) := by decide +kernel
theorem dX7_takes_56 : decode cX7_takes 56 = .ok (.if_icmp .ge 53, 3) := by decide +kernel
theorem dX7_takes_59 : decode cX7_takes 59 = .ok (.aload_n 0, 1) := by decide +kernel
theorem dX7_takes_60 : decode cX7_takes 60 = .ok (.getfield 19, 3) := by decide +kernel
theorem dX7_takes_63 : decode cX7_takes 63 = .ok (.iconst 3, 1) := by decide +kernel
theorem dX7_takes_64 : decode cX7_takes 64 = .ok (.iconst 2, 1) := by decide +kernel
theorem dX7_takes_65 : decode cX7_takes 65 = .ok (.iload_n 1, 1) := by decide +kernel
theorem dX7_takes_66 : decode cX7_takes 66 = .ok (.imul, 1) := by decide +kernel
theorem dX7_takes_67 : decode cX7_takes 67 = .ok (.iadd, 1) := by decide +kernel
theorem dX7_takes_68 : decode cX7_takes 68 = .ok (.aload_n 0, 1) := by decide +kernel
theorem dX7_takes_69 : decode cX7_takes 69 = .ok (.getfield 16, 3) := by decide +kernel
theorem dX7_takes_72 : decode cX7_takes 72 = .ok (.bipush 22, 2) := by decide +kernel
theorem dX7_takes_74 : decode cX7_takes 74 = .ok (.iconst 4, 1) := by decide +kernel
theorem dX7_takes_75 : decode cX7_takes 75 = .ok (.iload_n 1, 1) := by decide +kernel
theorem dX7_takes_76 : decode cX7_takes 76 = .ok (.imul, 1) := by decide +kernel
theorem dX7_takes_77 : decode cX7_takes 77 = .ok (.iadd, 1) := by decide +kernel
theorem dX7_takes_78 : decode cX7_takes 78 = .ok (.iaload, 1) := by decide +kernel
theorem dX7_takes_79 : decode cX7_takes 79 = .ok (.iastore, 1) := by decide +kernel
theorem dX7_takes_80 : decode cX7_takes 80 = .ok (.aload_n 0, 1) := by decide +kernel
theorem dX7_takes_81 : decode cX7_takes 81 = .ok (.getfield 19, 3) := by decide +kernel
theorem dX7_takes_84 : decode cX7_takes 84 = .ok (.iconst 4, 1) := by decide +kernel
theorem dX7_takes_85 : decode cX7_takes 85 = .ok (.iconst 2, 1) := by decide +kernel
theorem dX7_takes_86 : decode cX7_takes 86 = .ok (.iload_n 1, 1) := by decide +kernel
theorem dX7_takes_87 : decode cX7_takes 87 = .ok (.imul, 1) := by decide +kernel
theorem dX7_takes_88 : decode cX7_takes 88 = .ok (.iadd, 1) := by decide +kernel
theorem dX7_takes_89 : decode cX7_takes 89 = .ok (.aload_n 0, 1) := by decide +kernel
theorem dX7_takes_90 : decode cX7_takes 90 = .ok (.getfield 16, 3) := by decide +kernel
theorem dX7_takes_93 : decode cX7_takes 93 = .ok (.bipush 22, 2) := by decide +kernel
theorem dX7_takes_95 : decode cX7_takes 95 = .ok (.iconst 4, 1) := by decide +kernel
theorem dX7_takes_96 : decode cX7_takes 96 = .ok (.iload_n 1, 1) := by decide +kernel
theorem dX7_takes_97 : decode cX7_takes 97 = .ok (.imul, 1) := by decide +kernel
theorem dX7_takes_98 : decode cX7_takes 98 = .ok (.iadd, 1) := by decide +kernel
theorem dX7_takes_99 : decode cX7_takes 99 = .ok (.iconst 1, 1) := by decide +kernel
theorem dX7_takes_100 : decode cX7_takes 100 = .ok (.iadd, 1) := by decide +kernel
theorem dX7_takes_101 : decode cX7_takes 101 = .ok (.iaload, 1) := by decide +kernel
theorem dX7_takes_102 : decode cX7_takes 102 = .ok (.iastore, 1) := by decide +kernel
theorem dX7_takes_103 : decode cX7_takes 103 = .ok (.iinc 1 1, 3) := by decide +kernel
theorem dX7_takes_106 : decode cX7_takes 106 = .ok (.goto (-57), 3) := by decide +kernel
theorem dX7_takes_109 : decode cX7_takes 109 = .ok (.aload_n 0, 1) := by decide +kernel
theorem dX7_takes_110 : decode cX7_takes 110 = .ok (.iconst 0, 1) := by decide +kernel
theorem dX7_takes_111 : decode cX7_takes 111 = .ok (.putfield 116, 3) := by decide +kernel
theorem dX7_takes_114 : decode cX7_takes 114 = .ok (.aload_n 0, 1) := by decide +kernel
theorem dX7_takes_115 : decode cX7_takes 115 = .ok (.iconst 0, 1) := by decide +kernel
theorem dX7_takes_116 : decode cX7_takes 116 = .ok (.putfield 119, 3) := by decide +kernel
theorem dX7_takes_119 : decode cX7_takes 119 = .ok (.aload_n 0, 1) := by decide +kernel
theorem dX7_takes_120 : decode cX7_takes 120 = .ok (.getfield 37, 3) := by decide +kernel
theorem dX7_takes_123 : decode cX7_takes 123 = .ok (.iconst 0, 1) := by decide +kernel
theorem dX7_takes_124 : decode cX7_takes 124 = .ok (.iconst 0, 1) := by decide +kernel
theorem dX7_takes_125 : decode cX7_takes 125 = .ok (.iastore, 1) := by decide +kernel
theorem dX7_takes_126 : decode cX7_takes 126 = .ok (.aload_n 0, 1) := by decide +kernel
theorem dX7_takes_127 : decode cX7_takes 127 = .ok (.getfield 37, 3) := by decide +kernel
theorem dX7_takes_130 : decode cX7_takes 130 = .ok (.sipush 167, 3) := by decide +kernel
theorem dX7_takes_133 : decode cX7_takes 133 = .ok (.iconst 0, 1) := by decide +kernel
theorem dX7_takes_134 : decode cX7_takes 134 = .ok (.iastore, 1) := by decide +kernel
theorem dX7_takes_135 : decode cX7_takes 135 = .ok (.return_, 1) := by decide +kernel
set_option maxRecDepth 20000 in
theorem ggX7_isThing_X7_in : GoodIn wsX7_isThing wsX7_in := goodIn_r _ [5] (by decide +kernel) (by decide +kernel)
set_option maxRecDepth 20000 in
theorem gX7_isThing_X7_in : GoodIn wsX7_isThing (va_wsS RX7 48 yX7_in wsX7_in) := goodIn_app (goodIn_of _ (by decide +kernel)) ggX7_isThing_X7_in
theorem dX7_isThing_0 : decode cX7_isThing 0 = .ok (.iload_n 1, 1) := by decide +kernel
theorem dX7_isThing_1 : decode cX7_isThing 1 = .ok (.i2l, 1) := by decide +kernel
theorem dX7_isThing_2 : decode cX7_isThing 2 = .ok (.lconst 0, 1) := by decide +kernel
theorem dX7_isThing_3 : decode cX7_isThing 3 = .ok (.aload_n 0, 1) := by decide +kernel
theorem dX7_isThing_4 : decode cX7_isThing 4 = .ok (.getfield 16, 3) := by decide +kernel
theorem dX7_isThing_7 : decode cX7_isThing 7 = .ok (.iconst 2, 1) := by decide +kernel
theorem dX7_isThing_8 : decode cX7_isThing 8 = .ok (.iaload, 1) := by decide +kernel
theorem dX7_isThing_9 : decode cX7_isThing 9 = .ok (.iconst 1, 1) := by decide +kernel
theorem dX7_isThing_10 : decode cX7_isThing 10 = .ok (.isub, 1) := by decide +kernel
theorem dX7_isThing_11 : decode cX7_isThing 11 = .ok (.i2l, 1) := by decide +kernel
theorem dX7_isThing_12 : decode cX7_isThing 12 = .ok (.invokestatic 48, 3) := by decide +kernel
theorem dX7_isThing_15 : decode cX7_isThing 15 = .ok (.ireturn, 1) := by decide +kernel
set_option maxRecDepth 20000 in
theorem ggX7_isCell_X7_in : GoodIn wsX7_isCell wsX7_in := goodIn_r _ [5] (by decide +kernel) (by decide +kernel)
set_option maxRecDepth 20000 in
theorem gX7_isCell_X7_in : GoodIn wsX7_isCell (va_wsS RX7 48 yX7_in wsX7_in) := goodIn_app (goodIn_of _ (by decide +kernel)) ggX7_isCell_X7_in
theorem dX7_isCell_0 : decode cX7_isCell 0 = .ok (.iload_n 1, 1) := by decide +kernel
theorem dX7_isCell_1 : decode cX7_isCell 1 = .ok (.i2l, 1) := by decide +kernel
theorem dX7_isCell_2 : decode cX7_isCell 2 = .ok (.lconst 0, 1) := by decide +kernel
theorem dX7_isCell_3 : decode cX7_isCell 3 = .ok (.aload_n 0, 1) := by decide +kernel
theorem dX7_isCell_4 : decode cX7_isCell 4 = .ok (.getfield 16, 3) := by decide +kernel
theorem dX7_isCell_7 : decode cX7_isCell 7 = .ok (.iconst 0, 1) := by decide +kernel
theorem dX7_isCell_8 : decode cX7_isCell 8 = .ok (.iaload, 1) := by decide +kernel
theorem dX7_isCell_9 : decode cX7_isCell 9 = .ok (.iconst 1, 1) := by decide +kernel
theorem dX7_isCell_10 : decode cX7_isCell 10 = .ok (.isub, 1) := by decide +kernel
theorem dX7_isCell_11 : decode cX7_isCell 11 = .ok (.i2l, 1) := by decide +kernel
theorem dX7_isCell_12 : decode cX7_isCell 12 = .ok (.invokestatic 48, 3) := by decide +kernel
theorem dX7_isCell_15 : decode cX7_isCell 15 = .ok (.ifCond .eq 25, 3) := by decide +kernel
theorem dX7_isCell_18 : decode cX7_isCell 18 = .ok (.iload_n 2, 1) := by decide +kernel
theorem dX7_isCell_19 : decode cX7_isCell 19 = .ok (.i2l, 1) := by decide +kernel
theorem dX7_isCell_20 : decode cX7_isCell 20 = .ok (.lconst 0, 1) := by decide +kernel
theorem dX7_isCell_21 : decode cX7_isCell 21 = .ok (.aload_n 0, 1) := by decide +kernel
theorem dX7_isCell_22 : decode cX7_isCell 22 = .ok (.getfield 16, 3) := by decide +kernel
theorem dX7_isCell_25 : decode cX7_isCell 25 = .ok (.iconst 1, 1) := by decide +kernel
theorem dX7_isCell_26 : decode cX7_isCell 26 = .ok (.iaload, 1) := by decide +kernel
theorem dX7_isCell_27 : decode cX7_isCell 27 = .ok (.iconst 1, 1) := by decide +kernel
theorem dX7_isCell_28 : decode cX7_isCell 28 = .ok (.isub, 1) := by decide +kernel
theorem dX7_isCell_29 : decode cX7_isCell 29 = .ok (.i2l, 1) := by decide +kernel
theorem dX7_isCell_30 : decode cX7_isCell 30 = .ok (.invokestatic 48, 3) := by decide +kernel
theorem dX7_isCell_33 : decode cX7_isCell 33 = .ok (.ifCond .eq 7, 3) := by decide +kernel
theorem dX7_isCell_36 : decode cX7_isCell 36 = .ok (.iconst 1, 1) := by decide +kernel
theorem dX7_isCell_37 : decode cX7_isCell 37 = .ok (.goto 4, 3) := by decide +kernel
theorem dX7_isCell_40 : decode cX7_isCell 40 = .ok (.iconst 0, 1) := by decide +kernel
theorem dX7_isCell_41 : decode cX7_isCell 41 = .ok (.ireturn, 1) := by decide +kernel
theorem dX7_cells_0 : decode cX7_cells 0 = .ok (.aload_n 0, 1) := by decide +kernel
theorem dX7_cells_1 : decode cX7_cells 1 = .ok (.getfield 16, 3) := by decide +kernel
theorem dX7_cells_4 : decode cX7_cells 4 = .ok (.iconst 0, 1) := by decide +kernel
theorem dX7_cells_5 : decode cX7_cells 5 = .ok (.iaload, 1) := by decide +kernel
theorem dX7_cells_6 : decode cX7_cells 6 = .ok (.aload_n 0, 1) := by decide +kernel
theorem dX7_cells_7 : decode cX7_cells 7 = .ok (.getfield 16, 3) := by decide +kernel
theorem dX7_cells_10 : decode cX7_cells 10 = .ok (.iconst 1, 1) := by decide +kernel
theorem dX7_cells_11 : decode cX7_cells 11 = .ok (.iaload, 1) := by decide +kernel
theorem dX7_cells_12 : decode cX7_cells 12 = .ok (.imul, 1) := by decide +kernel
theorem dX7_cells_13 : decode cX7_cells 13 = .ok (.ireturn, 1) := by decide +kernel
theorem dX7_yellow_0 : decode cX7_yellow 0 = .ok (.aload_n 0, 1) := by decide +kernel
theorem dX7_yellow_1 : decode cX7_yellow 1 = .ok (.getfield 19, 3) := by decide +kernel
theorem dX7_yellow_4 : decode cX7_yellow 4 = .ok (.iconst 3, 1) := by decide +kernel
theorem dX7_yellow_5 : decode cX7_yellow 5 = .ok (.iconst 2, 1) := by decide +kernel
theorem dX7_yellow_6 : decode cX7_yellow 6 = .ok (.iload_n 1, 1) := by decide +kernel
theorem dX7_yellow_7 : decode cX7_yellow 7 = .ok (.imul, 1) := by decide +kernel
theorem dX7_yellow_8 : decode cX7_yellow 8 = .ok (.iadd, 1) := by decide +kernel
theorem dX7_yellow_9 : decode cX7_yellow 9 = .ok (.iaload, 1) := by decide +kernel
theorem dX7_yellow_10 : decode cX7_yellow 10 = .ok (.ireturn, 1) := by decide +kernel
theorem dX7_white_0 : decode cX7_white 0 = .ok (.aload_n 0, 1) := by decide +kernel
theorem dX7_white_1 : decode cX7_white 1 = .ok (.getfield 19, 3) := by decide +kernel
theorem dX7_white_4 : decode cX7_white 4 = .ok (.iconst 4, 1) := by decide +kernel
theorem dX7_white_5 : decode cX7_white 5 = .ok (.iconst 2, 1) := by decide +kernel
theorem dX7_white_6 : decode cX7_white 6 = .ok (.iload_n 1, 1) := by decide +kernel
theorem dX7_white_7 : decode cX7_white 7 = .ok (.imul, 1) := by decide +kernel
theorem dX7_white_8 : decode cX7_white 8 = .ok (.iadd, 1) := by decide +kernel
theorem dX7_white_9 : decode cX7_white 9 = .ok (.iaload, 1) := by decide +kernel
theorem dX7_white_10 : decode cX7_white 10 = .ok (.ireturn, 1) := by decide +kernel
theorem dX7_fades_0 : decode cX7_fades 0 = .ok (.aload_n 0, 1) := by decide +kernel
theorem dX7_fades_1 : decode cX7_fades 1 = .ok (.getfield 16, 3) := by decide +kernel
theorem dX7_fades_4 : decode cX7_fades 4 = .ok (.bipush 22, 2) := by decide +kernel
theorem dX7_fades_6 : decode cX7_fades 6 = .ok (.iconst 4, 1) := by decide +kernel
theorem dX7_fades_7 : decode cX7_fades 7 = .ok (.iload_n 1, 1) := by decide +kernel
theorem dX7_fades_8 : decode cX7_fades 8 = .ok (.imul, 1) := by decide +kernel
theorem dX7_fades_9 : decode cX7_fades 9 = .ok (.iadd, 1) := by decide +kernel
theorem dX7_fades_10 : decode cX7_fades 10 = .ok (.iconst 2, 1) := by decide +kernel
theorem dX7_fades_11 : decode cX7_fades 11 = .ok (.iadd, 1) := by decide +kernel
theorem dX7_fades_12 : decode cX7_fades 12 = .ok (.iaload, 1) := by decide +kernel
theorem dX7_fades_13 : decode cX7_fades 13 = .ok (.ireturn, 1) := by decide +kernel
theorem dX7_worth_0 : decode cX7_worth 0 = .ok (.aload_n 0, 1) := by decide +kernel
theorem dX7_worth_1 : decode cX7_worth 1 = .ok (.getfield 16, 3) := by decide +kernel
theorem dX7_worth_4 : decode cX7_worth 4 = .ok (.bipush 22, 2) := by decide +kernel
theorem dX7_worth_6 : decode cX7_worth 6 = .ok (.iconst 4, 1) := by decide +kernel
theorem dX7_worth_7 : decode cX7_worth 7 = .ok (.iload_n 1, 1) := by decide +kernel
theorem dX7_worth_8 : decode cX7_worth 8 = .ok (.imul, 1) := by decide +kernel
theorem dX7_worth_9 : decode cX7_worth 9 = .ok (.iadd, 1) := by decide +kernel
theorem dX7_worth_10 : decode cX7_worth 10 = .ok (.iconst 3, 1) := by decide +kernel
theorem dX7_worth_11 : decode cX7_worth 11 = .ok (.iadd, 1) := by decide +kernel
theorem dX7_worth_12 : decode cX7_worth 12 = .ok (.iaload, 1) := by decide +kernel
theorem dX7_worth_13 : decode cX7_worth 13 = .ok (.ireturn, 1) := by decide +kernel
theorem dX7_isCalled_0 : decode cX7_isCalled 0 = .ok (.iload_n 1, 1) := by decide +kernel
theorem dX7_isCalled_1 : decode cX7_isCalled 1 = .ok (.ifCond .le 24, 3) := by decide +kernel
theorem dX7_isCalled_4 : decode cX7_isCalled 4 = .ok (.bipush 10, 2) := by decide +kernel
theorem dX7_isCalled_6 : decode cX7_isCalled 6 = .ok (.iload_n 1, 1) := by decide +kernel
theorem dX7_isCalled_7 : decode cX7_isCalled 7 = .ok (.imul, 1) := by decide +kernel
theorem dX7_isCalled_8 : decode cX7_isCalled 8 = .ok (.aload_n 0, 1) := by decide +kernel
theorem dX7_isCalled_9 : decode cX7_isCalled 9 = .ok (.getfield 16, 3) := by decide +kernel
theorem dX7_isCalled_12 : decode cX7_isCalled 12 = .ok (.iconst 3, 1) := by decide +kernel
theorem dX7_isCalled_13 : decode cX7_isCalled 13 = .ok (.iaload, 1) := by decide +kernel
theorem dX7_isCalled_14 : decode cX7_isCalled 14 = .ok (.iload_n 1, 1) := by decide +kernel
theorem dX7_isCalled_15 : decode cX7_isCalled 15 = .ok (.iload_n 2, 1) := by decide +kernel
theorem dX7_isCalled_16 : decode cX7_isCalled 16 = .ok (.iadd, 1) := by decide +kernel
theorem dX7_isCalled_17 : decode cX7_isCalled 17 = .ok (.imul, 1) := by decide +kernel
theorem dX7_isCalled_18 : decode cX7_isCalled 18 = .ok (.if_icmp .lt 7, 3) := by decide +kernel
theorem dX7_isCalled_21 : decode cX7_isCalled 21 = .ok (.iconst 1, 1) := by decide +kernel
theorem dX7_isCalled_22 : decode cX7_isCalled 22 = .ok (.goto 4, 3) := by decide +kernel
theorem dX7_isCalled_25 : decode cX7_isCalled 25 = .ok (.iconst 0, 1) := by decide +kernel
theorem dX7_isCalled_26 : decode cX7_isCalled 26 = .ok (.ireturn, 1) := by decide +kernel
set_option maxRecDepth 20000 in
theorem ggX7_isThen_X7_yellow : GoodIn wsX7_isThen wsX7_yellow := goodIn_r _ [5, 6, 20, 21, 22, 23, 24, 25, 26, 27, 28, 29, 30, 31, 32, 33, 34, 35, 36, 37, 38] (by decide +kernel) (by decide +kernel)
set_option maxRecDepth 20000 in
theorem gX7_isThen_X7_yellow : GoodIn wsX7_isThen (wsV RX7 122 RX7 yX7_yellow wsX7_yellow) := goodIn_app (goodIn_of _ (by decide +kernel)) ggX7_isThen_X7_yellow
set_option maxRecDepth 20000 in
theorem ggX7_isThen_X7_fades : GoodIn wsX7_isThen wsX7_fades := goodIn_r _ [10, 11, 20, 21, 22, 23, 24, 25, 26, 27, 28, 29, 30, 31, 32, 33, 34, 35, 36, 37, 38] (by decide +kernel) (by decide +kernel)
set_option maxRecDepth 20000 in
theorem gX7_isThen_X7_fades : GoodIn wsX7_isThen (wsV RX7 126 RX7 yX7_fades wsX7_fades) := goodIn_app (goodIn_of _ (by decide +kernel)) ggX7_isThen_X7_fades
set_option maxRecDepth 20000 in
theorem ggX7_isThen_X7_white : GoodIn wsX7_isThen wsX7_white := goodIn_r _ [15, 6, 20, 21, 22, 23, 24, 25, 26, 27, 28, 29, 30, 31, 32, 33, 34, 35, 36, 37, 38] (by decide +kernel) (by decide +kernel)
set_option maxRecDepth 20000 in
theorem gX7_isThen_X7_white : GoodIn wsX7_isThen (wsV RX7 129 RX7 yX7_white wsX7_white) := goodIn_app (goodIn_of _ (by decide +kernel)) ggX7_isThen_X7_white
set_option maxRecDepth 20000 in
theorem ggX7_isThen_X7_isCalled : GoodIn wsX7_isThen wsX7_isCalled := goodIn_r _ [19, 11, 20, 21, 22, 23, 24, 25, 26, 27, 28, 29, 30, 31, 32, 33, 34, 35, 36, 37, 38] (by decide +kernel) (by decide +kernel)
set_option maxRecDepth 20000 in
theorem gX7_isThen_X7_isCalled : GoodIn wsX7_isThen (wsV RX7 132 RX7 yX7_isCalled wsX7_isCalled) := goodIn_app (goodIn_of _ (by decide +kernel)) ggX7_isThen_X7_isCalled
theorem dX7_isThen_0 : decode cX7_isThen 0 = .ok (.aload_n 0, 1) := by decide +kernel
theorem dX7_isThen_1 : decode cX7_isThen 1 = .ok (.iload_n 1, 1) := by decide +kernel
theorem dX7_isThen_2 : decode cX7_isThen 2 = .ok (.invokevirtual 122, 3) := by decide +kernel
theorem dX7_isThen_5 : decode cX7_isThen 5 = .ok (.iload_n 3, 1) := by decide +kernel
theorem dX7_isThen_6 : decode cX7_isThen 6 = .ok (.iadd, 1) := by decide +kernel
theorem dX7_isThen_7 : decode cX7_isThen 7 = .ok (.iload_n 2, 1) := by decide +kernel
theorem dX7_isThen_8 : decode cX7_isThen 8 = .ok (.aload_n 0, 1) := by decide +kernel
theorem dX7_isThen_9 : decode cX7_isThen 9 = .ok (.iload_n 1, 1) := by decide +kernel
theorem dX7_isThen_10 : decode cX7_isThen 10 = .ok (.invokevirtual 126, 3) := by decide +kernel
theorem dX7_isThen_13 : decode cX7_isThen 13 = .ok (.imul, 1) := by decide +kernel
theorem dX7_isThen_14 : decode cX7_isThen 14 = .ok (.isub, 1) := by decide +kernel
theorem dX7_isThen_15 : decode cX7_isThen 15 = .ok (.istore 4, 2) := by decide +kernel
theorem dX7_isThen_17 : decode cX7_isThen 17 = .ok (.aload_n 0, 1) := by decide +kernel
theorem dX7_isThen_18 : decode cX7_isThen 18 = .ok (.iload 4, 2) := by decide +kernel
theorem dX7_isThen_20 : decode cX7_isThen 20 = .ok (.aload_n 0, 1) := by decide +kernel
theorem dX7_isThen_21 : decode cX7_isThen 21 = .ok (.iload_n 1, 1) := by decide +kernel
theorem dX7_isThen_22 : decode cX7_isThen 22 = .ok (.invokevirtual 129, 3) := by decide +kernel
theorem dX7_isThen_25 : decode cX7_isThen 25 = .ok (.invokevirtual 132, 3) := by decide +kernel
theorem dX7_isThen_28 : decode cX7_isThen 28 = .ok (.ireturn, 1) := by decide +kernel
set_option maxRecDepth 20000 in
theorem ggX7_may_X7_cells : GoodIn wsX7_may wsX7_cells := goodIn_r _ [6, 1, 7, 8, 9, 10, 11, 12, 13, 14, 15, 16, 17, 18, 19, 20, 21, 22, 23, 24, 25] (by decide +kernel) (by decide +kernel)
set_option maxRecDepth 20000 in
theorem gX7_may_X7_cells : GoodIn wsX7_may (wsV RX7 135 RX7 yX7_cells wsX7_cells) := goodIn_app (goodIn_of _ (by decide +kernel)) ggX7_may_X7_cells
theorem dX7_may_0 : decode cX7_may 0 = .ok (.aload_n 0, 1) := by decide +kernel
theorem dX7_may_1 : decode cX7_may 1 = .ok (.getfield 16, 3) := by decide +kernel
theorem dX7_may_4 : decode cX7_may 4 = .ok (.iconst 0, 1) := by decide +kernel
theorem dX7_may_5 : decode cX7_may 5 = .ok (.iaload, 1) := by decide +kernel
theorem dX7_may_6 : decode cX7_may 6 = .ok (.istore_n 3, 1) := by decide +kernel
theorem dX7_may_7 : decode cX7_may 7 = .ok (.iload_n 1, 1) := by decide +kernel
theorem dX7_may_8 : decode cX7_may 8 = .ok (.iload_n 3, 1) := by decide +kernel
theorem dX7_may_9 : decode cX7_may 9 = .ok (.if_icmp .lt 72, 3) := by decide +kernel
theorem dX7_may_12 : decode cX7_may 12 = .ok (.iload_n 2, 1) := by decide +kernel
theorem dX7_may_13 : decode cX7_may 13 = .ok (.iload_n 1, 1) := by decide +kernel
theorem dX7_may_14 : decode cX7_may 14 = .ok (.iload_n 3, 1) := by decide +kernel
theorem dX7_may_15 : decode cX7_may 15 = .ok (.isub, 1) := by decide +kernel
theorem dX7_may_16 : decode cX7_may 16 = .ok (.ishr, 1) := by decide +kernel
theorem dX7_may_17 : decode cX7_may 17 = .ok (.iconst 1, 1) := by decide +kernel
theorem dX7_may_18 : decode cX7_may 18 = .ok (.iand, 1) := by decide +kernel
theorem dX7_may_19 : decode cX7_may 19 = .ok (.iconst 1, 1) := by decide +kernel
theorem dX7_may_20 : decode cX7_may 20 = .ok (.if_icmp .eq 61, 3) := by decide +kernel
theorem dX7_may_23 : decode cX7_may 23 = .ok (.iload_n 1, 1) := by decide +kernel
theorem dX7_may_24 : decode cX7_may 24 = .ok (.iload_n 3, 1) := by decide +kernel
theorem dX7_may_25 : decode cX7_may 25 = .ok (.iadd, 1) := by decide +kernel
theorem dX7_may_26 : decode cX7_may 26 = .ok (.aload_n 0, 1) := by decide +kernel
theorem dX7_may_27 : decode cX7_may 27 = .ok (.invokevirtual 135, 3) := by decide +kernel
theorem dX7_may_30 : decode cX7_may 30 = .ok (.if_icmp .ge 14, 3) := by decide +kernel
theorem dX7_may_33 : decode cX7_may 33 = .ok (.iload_n 2, 1) := by decide +kernel
theorem dX7_may_34 : decode cX7_may 34 = .ok (.iload_n 1, 1) := by decide +kernel
theorem dX7_may_35 : decode cX7_may 35 = .ok (.iload_n 3, 1) := by decide +kernel
theorem dX7_may_36 : decode cX7_may 36 = .ok (.iadd, 1) := by decide +kernel
theorem dX7_may_37 : decode cX7_may 37 = .ok (.ishr, 1) := by decide +kernel
theorem dX7_may_38 : decode cX7_may 38 = .ok (.iconst 1, 1) := by decide +kernel
theorem dX7_may_39 : decode cX7_may 39 = .ok (.iand, 1) := by decide +kernel
theorem dX7_may_40 : decode cX7_may 40 = .ok (.iconst 1, 1) := by decide +kernel
theorem dX7_may_41 : decode cX7_may 41 = .ok (.if_icmp .eq 40, 3) := by decide +kernel
theorem dX7_may_44 : decode cX7_may 44 = .ok (.iload_n 1, 1) := by decide +kernel
theorem dX7_may_45 : decode cX7_may 45 = .ok (.iload_n 3, 1) := by decide +kernel
theorem dX7_may_46 : decode cX7_may 46 = .ok (.irem, 1) := by decide +kernel
theorem dX7_may_47 : decode cX7_may 47 = .ok (.ifCond .le 14, 3) := by decide +kernel
theorem dX7_may_50 : decode cX7_may 50 = .ok (.iload_n 2, 1) := by decide +kernel
theorem dX7_may_51 : decode cX7_may 51 = .ok (.iload_n 1, 1) := by decide +kernel
theorem dX7_may_52 : decode cX7_may 52 = .ok (.iconst 1, 1) := by decide +kernel
theorem dX7_may_53 : decode cX7_may 53 = .ok (.isub, 1) := by decide +kernel
theorem dX7_may_54 : decode cX7_may 54 = .ok (.ishr, 1) := by decide +kernel
theorem dX7_may_55 : decode cX7_may 55 = .ok (.iconst 1, 1) := by decide +kernel
theorem dX7_may_56 : decode cX7_may 56 = .ok (.iand, 1) := by decide +kernel
theorem dX7_may_57 : decode cX7_may 57 = .ok (.iconst 1, 1) := by decide +kernel
theorem dX7_may_58 : decode cX7_may 58 = .ok (.if_icmp .eq 23, 3) := by decide +kernel
theorem dX7_may_61 : decode cX7_may 61 = .ok (.iload_n 1, 1) := by decide +kernel
theorem dX7_may_62 : decode cX7_may 62 = .ok (.iload_n 3, 1) := by decide +kernel
theorem dX7_may_63 : decode cX7_may 63 = .ok (.irem, 1) := by decide +kernel
theorem dX7_may_64 : decode cX7_may 64 = .ok (.iload_n 3, 1) := by decide +kernel
theorem dX7_may_65 : decode cX7_may 65 = .ok (.iconst 1, 1) := by decide +kernel
theorem dX7_may_66 : decode cX7_may 66 = .ok (.isub, 1) := by decide +kernel
theorem dX7_may_67 : decode cX7_may 67 = .ok (.if_icmp .ge 18, 3) := by decide +kernel
theorem dX7_may_70 : decode cX7_may 70 = .ok (.iload_n 2, 1) := by decide +kernel
theorem dX7_may_71 : decode cX7_may 71 = .ok (.iload_n 1, 1) := by decide +kernel
theorem dX7_may_72 : decode cX7_may 72 = .ok (.iconst 1, 1) := by decide +kernel
theorem dX7_may_73 : decode cX7_may 73 = .ok (.iadd, 1) := by decide +kernel
theorem dX7_may_74 : decode cX7_may 74 = .ok (.ishr, 1) := by decide +kernel
theorem dX7_may_75 : decode cX7_may 75 = .ok (.iconst 1, 1) := by decide +kernel
theorem dX7_may_76 : decode cX7_may 76 = .ok (.iand, 1) := by decide +kernel
theorem dX7_may_77 : decode cX7_may 77 = .ok (.iconst 1, 1) := by decide +kernel
theorem dX7_may_78 : decode cX7_may 78 = .ok (.if_icmp .ne 7, 3) := by decide +kernel
theorem dX7_may_81 : decode cX7_may 81 = .ok (.iconst 1, 1) := by decide +kernel
theorem dX7_may_82 : decode cX7_may 82 = .ok (.goto 4, 3) := by decide +kernel
theorem dX7_may_85 : decode cX7_may 85 = .ok (.iconst 0, 1) := by decide +kernel
theorem dX7_may_86 : decode cX7_may 86 = .ok (.istore 4, 2) := by decide +kernel
theorem dX7_may_88 : decode cX7_may 88 = .ok (.iload_n 2, 1) := by decide +kernel
theorem dX7_may_89 : decode cX7_may 89 = .ok (.iload_n 1, 1) := by decide +kernel
theorem dX7_may_90 : decode cX7_may 90 = .ok (.ishr, 1) := by decide +kernel
theorem dX7_may_91 : decode cX7_may 91 = .ok (.iconst 1, 1) := by decide +kernel
theorem dX7_may_92 : decode cX7_may 92 = .ok (.iand, 1) := by decide +kernel
theorem dX7_may_93 : decode cX7_may 93 = .ok (.ifCond .ne 12, 3) := by decide +kernel
theorem dX7_may_96 : decode cX7_may 96 = .ok (.iload 4, 2) := by decide +kernel
theorem dX7_may_98 : decode cX7_may 98 = .ok (.ifCond .eq 7, 3) := by decide +kernel
theorem dX7_may_101 : decode cX7_may 101 = .ok (.iconst 1, 1) := by decide +kernel
theorem dX7_may_102 : decode cX7_may 102 = .ok (.goto 4, 3) := by decide +kernel
theorem dX7_may_105 : decode cX7_may 105 = .ok (.iconst 0, 1) := by decide +kernel
theorem dX7_may_106 : decode cX7_may 106 = .ok (.ireturn, 1) := by decide +kernel
set_option maxRecDepth 20000 in
theorem ggX7_cell_X7_isCell : GoodIn wsX7_cell wsX7_isCell := goodIn_r _ [8, 2, 9, 10, 7, 11, 20, 21, 22, 23, 24, 25, 26, 27, 28, 29, 30, 31, 32, 33, 34, 35, 36, 37, 38] (by decide +kernel) (by decide +kernel)
set_option maxRecDepth 20000 in
theorem gX7_cell_X7_isCell : GoodIn wsX7_cell (wsV RX7 139 RX7 yX7_isCell wsX7_isCell) := goodIn_app (goodIn_of _ (by decide +kernel)) ggX7_cell_X7_isCell
set_option maxRecDepth 20000 in
theorem ggX7_cell_X7_in : GoodIn wsX7_cell wsX7_in := goodIn_r _ [11] (by decide +kernel) (by decide +kernel)
set_option maxRecDepth 20000 in
theorem gX7_cell_X7_in : GoodIn wsX7_cell (va_wsS RX7 48 yX7_in wsX7_in) := goodIn_app (goodIn_of _ (by decide +kernel)) ggX7_cell_X7_in
set_option maxRecDepth 20000 in
theorem ggX7_cell_X7_may : GoodIn wsX7_cell wsX7_may := goodIn_r _ [15, 2, 16, 17, 18, 7, 19, 20, 21, 22, 23, 24, 25, 26, 27, 28, 29, 30, 31, 32, 33, 34, 35, 36, 37, 38] (by decide +kernel) (by decide +kernel)
set_option maxRecDepth 20000 in
theorem gX7_cell_X7_may : GoodIn wsX7_cell (wsV RX7 144 RX7 yX7_may wsX7_may) := goodIn_app (goodIn_of _ (by decide +kernel)) ggX7_cell_X7_may
theorem dX7_cell_0 : decode cX7_cell 0 = .ok (.aload_n 0, 1) := by decide +kernel
theorem dX7_cell_1 : decode cX7_cell 1 = .ok (.iload_n 1, 1) := by decide +kernel
theorem dX7_cell_2 : decode cX7_cell 2 = .ok (.iload_n 2, 1) := by decide +kernel
theorem dX7_cell_3 : decode cX7_cell 3 = .ok (.invokevirtual 139, 3) := by decide +kernel
theorem dX7_cell_6 : decode cX7_cell 6 = .ok (.ifCond .eq 15, 3) := by decide +kernel
theorem dX7_cell_9 : decode cX7_cell 9 = .ok (.iload_n 3, 1) := by decide +kernel
theorem dX7_cell_10 : decode cX7_cell 10 = .ok (.i2l, 1) := by decide +kernel
theorem dX7_cell_11 : decode cX7_cell 11 = .ok (.lconst 0, 1) := by decide +kernel
theorem dX7_cell_12 : decode cX7_cell 12 = .ok (.ldc2_w 142, 3) := by decide +kernel
theorem dX7_cell_15 : decode cX7_cell 15 = .ok (.invokestatic 48, 3) := by decide +kernel
theorem dX7_cell_18 : decode cX7_cell 18 = .ok (.ifCond .ne 5, 3) := by decide +kernel
theorem dX7_cell_21 : decode cX7_cell 21 = .ok (.iconst (-1), 1) := by decide +kernel
theorem dX7_cell_22 : decode cX7_cell 22 = .ok (.ireturn, 1) := by decide +kernel
theorem dX7_cell_23 : decode cX7_cell 23 = .ok (.aload_n 0, 1) := by decide +kernel
theorem dX7_cell_24 : decode cX7_cell 24 = .ok (.getfield 16, 3) := by decide +kernel
theorem dX7_cell_27 : decode cX7_cell 27 = .ok (.iconst 0, 1) := by decide +kernel
theorem dX7_cell_28 : decode cX7_cell 28 = .ok (.iaload, 1) := by decide +kernel
theorem dX7_cell_29 : decode cX7_cell 29 = .ok (.iload_n 2, 1) := by decide +kernel
theorem dX7_cell_30 : decode cX7_cell 30 = .ok (.imul, 1) := by decide +kernel
theorem dX7_cell_31 : decode cX7_cell 31 = .ok (.iload_n 1, 1) := by decide +kernel
theorem dX7_cell_32 : decode cX7_cell 32 = .ok (.iadd, 1) := by decide +kernel
theorem dX7_cell_33 : decode cX7_cell 33 = .ok (.istore 4, 2) := by decide +kernel
theorem dX7_cell_35 : decode cX7_cell 35 = .ok (.iload_n 3, 1) := by decide +kernel
theorem dX7_cell_36 : decode cX7_cell 36 = .ok (.ifCond .ne 16, 3) := by decide +kernel
theorem dX7_cell_39 : decode cX7_cell 39 = .ok (.aload_n 0, 1) := by decide +kernel
theorem dX7_cell_40 : decode cX7_cell 40 = .ok (.getfield 16, 3) := by decide +kernel
theorem dX7_cell_43 : decode cX7_cell 43 = .ok (.bipush 6, 2) := by decide +kernel
theorem dX7_cell_45 : decode cX7_cell 45 = .ok (.iload 4, 2) := by decide +kernel
theorem dX7_cell_47 : decode cX7_cell 47 = .ok (.iadd, 1) := by decide +kernel
theorem dX7_cell_48 : decode cX7_cell 48 = .ok (.iaload, 1) := by decide +kernel
theorem dX7_cell_49 : decode cX7_cell 49 = .ok (.goto 42, 3) := by decide +kernel
theorem dX7_cell_52 : decode cX7_cell 52 = .ok (.iload_n 3, 1) := by decide +kernel
theorem dX7_cell_53 : decode cX7_cell 53 = .ok (.iconst 1, 1) := by decide +kernel
theorem dX7_cell_54 : decode cX7_cell 54 = .ok (.if_icmp .ne 17, 3) := by decide +kernel
theorem dX7_cell_57 : decode cX7_cell 57 = .ok (.aload_n 0, 1) := by decide +kernel
theorem dX7_cell_58 : decode cX7_cell 58 = .ok (.getfield 19, 3) := by decide +kernel
theorem dX7_cell_61 : decode cX7_cell 61 = .ok (.iconst 2, 1) := by decide +kernel
theorem dX7_cell_62 : decode cX7_cell 62 = .ok (.iaload, 1) := by decide +kernel
theorem dX7_cell_63 : decode cX7_cell 63 = .ok (.iload 4, 2) := by decide +kernel
theorem dX7_cell_65 : decode cX7_cell 65 = .ok (.ishr, 1) := by decide +kernel
theorem dX7_cell_66 : decode cX7_cell 66 = .ok (.iconst 1, 1) := by decide +kernel
theorem dX7_cell_67 : decode cX7_cell 67 = .ok (.iand, 1) := by decide +kernel
theorem dX7_cell_68 : decode cX7_cell 68 = .ok (.goto 23, 3) := by decide +kernel
theorem dX7_cell_71 : decode cX7_cell 71 = .ok (.aload_n 0, 1) := by decide +kernel
theorem dX7_cell_72 : decode cX7_cell 72 = .ok (.iload 4, 2) := by decide +kernel
theorem dX7_cell_74 : decode cX7_cell 74 = .ok (.aload_n 0, 1) := by decide +kernel
theorem dX7_cell_75 : decode cX7_cell 75 = .ok (.getfield 19, 3) := by decide +kernel
theorem dX7_cell_78 : decode cX7_cell 78 = .ok (.iconst 2, 1) := by decide +kernel
theorem dX7_cell_79 : decode cX7_cell 79 = .ok (.iaload, 1) := by decide +kernel
theorem dX7_cell_80 : decode cX7_cell 80 = .ok (.invokevirtual 144, 3) := by decide +kernel
theorem dX7_cell_83 : decode cX7_cell 83 = .ok (.ifCond .eq 7, 3) := by decide +kernel
theorem dX7_cell_86 : decode cX7_cell 86 = .ok (.iconst 1, 1) := by decide +kernel
theorem dX7_cell_87 : decode cX7_cell 87 = .ok (.goto 4, 3) := by decide +kernel
theorem dX7_cell_90 : decode cX7_cell 90 = .ok (.iconst 0, 1) := by decide +kernel
theorem dX7_cell_91 : decode cX7_cell 91 = .ok (.ireturn, 1) := by decide +kernel
set_option maxRecDepth 20000 in
theorem ggX7_thing_X7_isThing : GoodIn wsX7_thing wsX7_isThing := goodIn_r _ [6, 7, 8, 9, 5, 10, 36, 37, 38, 39, 40, 41, 42, 43, 44, 45, 46, 47, 48, 49, 50, 51, 52, 53, 54] (by decide +kernel) (by decide +kernel)
set_option maxRecDepth 20000 in
theorem gX7_thing_X7_isThing : GoodIn wsX7_thing (wsV RX7 147 RX7 yX7_isThing wsX7_isThing) := goodIn_app (goodIn_of _ (by decide +kernel)) ggX7_thing_X7_isThing
set_option maxRecDepth 20000 in
theorem ggX7_thing_X7_in : GoodIn wsX7_thing wsX7_in := goodIn_r _ [10] (by decide +kernel) (by decide +kernel)
set_option maxRecDepth 20000 in
theorem gX7_thing_X7_in : GoodIn wsX7_thing (va_wsS RX7 48 yX7_in wsX7_in) := goodIn_app (goodIn_of _ (by decide +kernel)) ggX7_thing_X7_in
set_option maxRecDepth 20000 in
theorem ggX7_thing_X7_yellow : GoodIn wsX7_thing wsX7_yellow := goodIn_r _ [14, 15, 36, 37, 38, 39, 40, 41, 42, 43, 44, 45, 46, 47, 48, 49, 50, 51, 52, 53, 54] (by decide +kernel) (by decide +kernel)
set_option maxRecDepth 20000 in
theorem gX7_thing_X7_yellow : GoodIn wsX7_thing (wsV RX7 122 RX7 yX7_yellow wsX7_yellow) := goodIn_app (goodIn_of _ (by decide +kernel)) ggX7_thing_X7_yellow
set_option maxRecDepth 20000 in
theorem ggX7_thing_X7_white : GoodIn wsX7_thing wsX7_white := goodIn_r _ [19, 15, 36, 37, 38, 39, 40, 41, 42, 43, 44, 45, 46, 47, 48, 49, 50, 51, 52, 53, 54] (by decide +kernel) (by decide +kernel)
set_option maxRecDepth 20000 in
theorem gX7_thing_X7_white : GoodIn wsX7_thing (wsV RX7 129 RX7 yX7_white wsX7_white) := goodIn_app (goodIn_of _ (by decide +kernel)) ggX7_thing_X7_white
set_option maxRecDepth 20000 in
theorem ggX7_thing_X7_fades : GoodIn wsX7_thing wsX7_fades := goodIn_r _ [23, 7, 36, 37, 38, 39, 40, 41, 42, 43, 44, 45, 46, 47, 48, 49, 50, 51, 52, 53, 54] (by decide +kernel) (by decide +kernel)
set_option maxRecDepth 20000 in
theorem gX7_thing_X7_fades : GoodIn wsX7_thing (wsV RX7 126 RX7 yX7_fades wsX7_fades) := goodIn_app (goodIn_of _ (by decide +kernel)) ggX7_thing_X7_fades
set_option maxRecDepth 20000 in
theorem ggX7_thing_X7_worth : GoodIn wsX7_thing wsX7_worth := goodIn_r _ [27, 7, 36, 37, 38, 39, 40, 41, 42, 43, 44, 45, 46, 47, 48, 49, 50, 51, 52, 53, 54] (by decide +kernel) (by decide +kernel)
set_option maxRecDepth 20000 in
theorem gX7_thing_X7_worth : GoodIn wsX7_thing (wsV RX7 152 RX7 yX7_worth wsX7_worth) := goodIn_app (goodIn_of _ (by decide +kernel)) ggX7_thing_X7_worth
set_option maxRecDepth 20000 in
theorem ggX7_thing_X7_isThen : GoodIn wsX7_thing wsX7_isThen := goodIn_r _ [31, 11, 12, 13, 5, 14, 15, 20, 21, 22, 23, 7, 16, 17, 18, 19, 32, 33, 34, 35, 36, 37, 38, 39, 40, 41, 42, 43, 44, 45, 46, 47, 48, 49, 50, 51, 52, 53, 54] (by decide +kernel) (by decide +kernel)
set_option maxRecDepth 20000 in
theorem gX7_thing_X7_isThen : GoodIn wsX7_thing (wsV RX7 155 RX7 yX7_isThen wsX7_isThen) := goodIn_app (goodIn_of _ (by decide +kernel)) ggX7_thing_X7_isThen
theorem dX7_thing_0 : decode cX7_thing 0 = .ok (.aload_n 0, 1) := by decide +kernel
theorem dX7_thing_1 : decode cX7_thing 1 = .ok (.iload_n 1, 1) := by decide +kernel
theorem dX7_thing_2 : decode cX7_thing 2 = .ok (.invokevirtual 147, 3) := by decide +kernel
theorem dX7_thing_5 : decode cX7_thing 5 = .ok (.ifCond .eq 15, 3) := by decide +kernel
theorem dX7_thing_8 : decode cX7_thing 8 = .ok (.iload_n 2, 1) := by decide +kernel
theorem dX7_thing_9 : decode cX7_thing 9 = .ok (.i2l, 1) := by decide +kernel
theorem dX7_thing_10 : decode cX7_thing 10 = .ok (.lconst 0, 1) := by decide +kernel
theorem dX7_thing_11 : decode cX7_thing 11 = .ok (.ldc2_w 150, 3) := by decide +kernel
theorem dX7_thing_14 : decode cX7_thing 14 = .ok (.invokestatic 48, 3) := by decide +kernel
theorem dX7_thing_17 : decode cX7_thing 17 = .ok (.ifCond .ne 5, 3) := by decide +kernel
theorem dX7_thing_20 : decode cX7_thing 20 = .ok (.iconst (-1), 1) := by decide +kernel
theorem dX7_thing_21 : decode cX7_thing 21 = .ok (.ireturn, 1) := by decide +kernel
theorem dX7_thing_22 : decode cX7_thing 22 = .ok (.iload_n 2, 1) := by decide +kernel
theorem dX7_thing_23 : decode cX7_thing 23 = .ok (.tableswitch 53 0 3 #[29, 35, 41, 47], 29) := by decide +kernel
theorem dX7_thing_52 : decode cX7_thing 52 = .ok (.aload_n 0, 1) := by decide +kernel
theorem dX7_thing_53 : decode cX7_thing 53 = .ok (.iload_n 1, 1) := by decide +kernel
theorem dX7_thing_54 : decode cX7_thing 54 = .ok (.invokevirtual 122, 3) := by decide +kernel
theorem dX7_thing_57 : decode cX7_thing 57 = .ok (.ireturn, 1) := by decide +kernel
theorem dX7_thing_58 : decode cX7_thing 58 = .ok (.aload_n 0, 1) := by decide +kernel
theorem dX7_thing_59 : decode cX7_thing 59 = .ok (.iload_n 1, 1) := by decide +kernel
theorem dX7_thing_60 : decode cX7_thing 60 = .ok (.invokevirtual 129, 3) := by decide +kernel
theorem dX7_thing_63 : decode cX7_thing 63 = .ok (.ireturn, 1) := by decide +kernel
theorem dX7_thing_64 : decode cX7_thing 64 = .ok (.aload_n 0, 1) := by decide +kernel
theorem dX7_thing_65 : decode cX7_thing 65 = .ok (.iload_n 1, 1) := by decide +kernel
theorem dX7_thing_66 : decode cX7_thing 66 = .ok (.invokevirtual 126, 3) := by decide +kernel
theorem dX7_thing_69 : decode cX7_thing 69 = .ok (.ireturn, 1) := by decide +kernel
theorem dX7_thing_70 : decode cX7_thing 70 = .ok (.aload_n 0, 1) := by decide +kernel
theorem dX7_thing_71 : decode cX7_thing 71 = .ok (.iload_n 1, 1) := by decide +kernel
theorem dX7_thing_72 : decode cX7_thing 72 = .ok (.invokevirtual 152, 3) := by decide +kernel
theorem dX7_thing_75 : decode cX7_thing 75 = .ok (.ireturn, 1) := by decide +kernel
theorem dX7_thing_76 : decode cX7_thing 76 = .ok (.aload_n 0, 1) := by decide +kernel
theorem dX7_thing_77 : decode cX7_thing 77 = .ok (.iload_n 1, 1) := by decide +kernel
theorem dX7_thing_78 : decode cX7_thing 78 = .ok (.iconst 0, 1) := by decide +kernel
theorem dX7_thing_79 : decode cX7_thing 79 = .ok (.iconst 0, 1) := by decide +kernel
theorem dX7_thing_80 : decode cX7_thing 80 = .ok (.invokevirtual 155, 3) := by decide +kernel
theorem dX7_thing_83 : decode cX7_thing 83 = .ok (.ifCond .eq 7, 3) := by decide +kernel
theorem dX7_thing_86 : decode cX7_thing 86 = .ok (.iconst 1, 1) := by decide +kernel
theorem dX7_thing_87 : decode cX7_thing 87 = .ok (.goto 4, 3) := by decide +kernel
theorem dX7_thing_90 : decode cX7_thing 90 = .ok (.iconst 0, 1) := by decide +kernel
theorem dX7_thing_91 : decode cX7_thing 91 = .ok (.ireturn, 1) := by decide +kernel
theorem dX7_notes_0 : decode cX7_notes 0 = .ok (.aload_n 0, 1) := by decide +kernel
theorem dX7_notes_1 : decode cX7_notes 1 = .ok (.getfield 119, 3) := by decide +kernel
theorem dX7_notes_4 : decode cX7_notes 4 = .ok (.bipush 10, 2) := by decide +kernel
theorem dX7_notes_6 : decode cX7_notes 6 = .ok (.if_icmp .ne 40, 3) := by decide +kernel
theorem dX7_notes_9 : decode cX7_notes 9 = .ok (.bipush 15, 2) := by decide +kernel
theorem dX7_notes_11 : decode cX7_notes 11 = .ok (.istore_n 1, 1) := by decide +kernel
theorem dX7_notes_12 : decode cX7_notes 12 = .ok (.iload_n 1, 1) := by decide +kernel
theorem dX7_notes_13 : decode cX7_notes 13 = .ok (.sipush 150, 3) := by decide +kernel
theorem dX7_notes_16 : decode cX7_notes 16 = .ok (.if_icmp .ge 24, 3) := by decide +kernel
theorem dX7_notes_19 : decode cX7_notes 19 = .ok (.aload_n 0, 1) := by decide +kernel
theorem dX7_notes_20 : decode cX7_notes 20 = .ok (.getfield 22, 3) := by decide +kernel
theorem dX7_notes_23 : decode cX7_notes 23 = .ok (.iload_n 1, 1) := by decide +kernel
theorem dX7_notes_24 : decode cX7_notes 24 = .ok (.bipush 15, 2) := by decide +kernel
theorem dX7_notes_26 : decode cX7_notes 26 = .ok (.isub, 1) := by decide +kernel
theorem dX7_notes_27 : decode cX7_notes 27 = .ok (.aload_n 0, 1) := by decide +kernel
theorem dX7_notes_28 : decode cX7_notes 28 = .ok (.getfield 22, 3) := by decide +kernel
theorem dX7_notes_31 : decode cX7_notes 31 = .ok (.iload_n 1, 1) := by decide +kernel
theorem dX7_notes_32 : decode cX7_notes 32 = .ok (.iaload, 1) := by decide +kernel
theorem dX7_notes_33 : decode cX7_notes 33 = .ok (.iastore, 1) := by decide +kernel
theorem dX7_notes_34 : decode cX7_notes 34 = .ok (.iinc 1 1, 3) := by decide +kernel
theorem dX7_notes_37 : decode cX7_notes 37 = .ok (.goto (-25), 3) := by decide +kernel
theorem dX7_notes_40 : decode cX7_notes 40 = .ok (.aload_n 0, 1) := by decide +kernel
theorem dX7_notes_41 : decode cX7_notes 41 = .ok (.bipush 9, 2) := by decide +kernel
theorem dX7_notes_43 : decode cX7_notes 43 = .ok (.putfield 119, 3) := by decide +kernel
theorem dX7_notes_46 : decode cX7_notes 46 = .ok (.iconst 0, 1) := by decide +kernel
theorem dX7_notes_47 : decode cX7_notes 47 = .ok (.istore_n 1, 1) := by decide +kernel
theorem dX7_notes_48 : decode cX7_notes 48 = .ok (.iload_n 1, 1) := by decide +kernel
theorem dX7_notes_49 : decode cX7_notes 49 = .ok (.bipush 15, 2) := by decide +kernel
theorem dX7_notes_51 : decode cX7_notes 51 = .ok (.if_icmp .ge 29, 3) := by decide +kernel
theorem dX7_notes_54 : decode cX7_notes 54 = .ok (.aload_n 0, 1) := by decide +kernel
theorem dX7_notes_55 : decode cX7_notes 55 = .ok (.getfield 22, 3) := by decide +kernel
theorem dX7_notes_58 : decode cX7_notes 58 = .ok (.bipush 15, 2) := by decide +kernel
theorem dX7_notes_60 : decode cX7_notes 60 = .ok (.aload_n 0, 1) := by decide +kernel
theorem dX7_notes_61 : decode cX7_notes 61 = .ok (.getfield 119, 3) := by decide +kernel
theorem dX7_notes_64 : decode cX7_notes 64 = .ok (.imul, 1) := by decide +kernel
theorem dX7_notes_65 : decode cX7_notes 65 = .ok (.iload_n 1, 1) := by decide +kernel
theorem dX7_notes_66 : decode cX7_notes 66 = .ok (.iadd, 1) := by decide +kernel
theorem dX7_notes_67 : decode cX7_notes 67 = .ok (.aload_n 0, 1) := by decide +kernel
theorem dX7_notes_68 : decode cX7_notes 68 = .ok (.getfield 19, 3) := by decide +kernel
theorem dX7_notes_71 : decode cX7_notes 71 = .ok (.iload_n 1, 1) := by decide +kernel
theorem dX7_notes_72 : decode cX7_notes 72 = .ok (.iaload, 1) := by decide +kernel
theorem dX7_notes_73 : decode cX7_notes 73 = .ok (.iastore, 1) := by decide +kernel
theorem dX7_notes_74 : decode cX7_notes 74 = .ok (.iinc 1 1, 3) := by decide +kernel
theorem dX7_notes_77 : decode cX7_notes 77 = .ok (.goto (-29), 3) := by decide +kernel
theorem dX7_notes_80 : decode cX7_notes 80 = .ok (.aload_n 0, 1) := by decide +kernel
theorem dX7_notes_81 : decode cX7_notes 81 = .ok (.dup, 1) := by decide +kernel
theorem dX7_notes_82 : decode cX7_notes 82 = .ok (.getfield 119, 3) := by decide +kernel
theorem dX7_notes_85 : decode cX7_notes 85 = .ok (.iconst 1, 1) := by decide +kernel
theorem dX7_notes_86 : decode cX7_notes 86 = .ok (.iadd, 1) := by decide +kernel
theorem dX7_notes_87 : decode cX7_notes 87 = .ok (.putfield 119, 3) := by decide +kernel
theorem dX7_notes_90 : decode cX7_notes 90 = .ok (.return_, 1) := by decide +kernel
set_option maxRecDepth 20000 in
theorem ggX7_digs_X7_isCell : GoodIn wsX7_digs wsX7_isCell := goodIn_r _ [7, 1, 8, 9, 6, 10, 25, 26, 27, 28, 29, 30, 31, 32, 33, 34, 35, 36, 37, 38, 39, 40, 41, 42, 43] (by decide +kernel) (by decide +kernel)
set_option maxRecDepth 20000 in
theorem gX7_digs_X7_isCell : GoodIn wsX7_digs (wsV RX7 139 RX7 yX7_isCell wsX7_isCell) := goodIn_app (goodIn_of _ (by decide +kernel)) ggX7_digs_X7_isCell
set_option maxRecDepth 20000 in
theorem ggX7_digs_X7_may : GoodIn wsX7_digs wsX7_may := goodIn_r _ [14, 1, 15, 16, 17, 6, 18, 25, 26, 27, 28, 29, 30, 31, 32, 33, 34, 35, 36, 37, 38, 39, 40, 41, 42, 43] (by decide +kernel) (by decide +kernel)
set_option maxRecDepth 20000 in
theorem gX7_digs_X7_may : GoodIn wsX7_digs (wsV RX7 144 RX7 yX7_may wsX7_may) := goodIn_app (goodIn_of _ (by decide +kernel)) ggX7_digs_X7_may
set_option maxRecDepth 20000 in
theorem ggX7_digs_X7_notes : GoodIn wsX7_digs wsX7_notes := goodIn_r _ [22, 23, 24, 2, 25, 26, 27, 28, 29, 30, 31, 32, 33, 34, 35, 36, 37, 38, 39, 40, 41, 42, 43] (by decide +kernel) (by decide +kernel)
set_option maxRecDepth 20000 in
theorem gX7_digs_X7_notes : GoodIn wsX7_digs (wsV RX7 158 RX7 yX7_notes wsX7_notes) := goodIn_app (goodIn_of _ (by decide +kernel)) ggX7_digs_X7_notes
theorem dX7_digs_0 : decode cX7_digs 0 = .ok (.aload_n 0, 1) := by decide +kernel
theorem dX7_digs_1 : decode cX7_digs 1 = .ok (.iload_n 1, 1) := by decide +kernel
theorem dX7_digs_2 : decode cX7_digs 2 = .ok (.iload_n 2, 1) := by decide +kernel
theorem dX7_digs_3 : decode cX7_digs 3 = .ok (.invokevirtual 139, 3) := by decide +kernel
theorem dX7_digs_6 : decode cX7_digs 6 = .ok (.ifCond .ne 5, 3) := by decide +kernel
theorem dX7_digs_9 : decode cX7_digs 9 = .ok (.iconst (-1), 1) := by decide +kernel
theorem dX7_digs_10 : decode cX7_digs 10 = .ok (.ireturn, 1) := by decide +kernel
theorem dX7_digs_11 : decode cX7_digs 11 = .ok (.aload_n 0, 1) := by decide +kernel
theorem dX7_digs_12 : decode cX7_digs 12 = .ok (.getfield 16, 3) := by decide +kernel
theorem dX7_digs_15 : decode cX7_digs 15 = .ok (.iconst 0, 1) := by decide +kernel
theorem dX7_digs_16 : decode cX7_digs 16 = .ok (.iaload, 1) := by decide +kernel
theorem dX7_digs_17 : decode cX7_digs 17 = .ok (.iload_n 2, 1) := by decide +kernel
theorem dX7_digs_18 : decode cX7_digs 18 = .ok (.imul, 1) := by decide +kernel
theorem dX7_digs_19 : decode cX7_digs 19 = .ok (.iload_n 1, 1) := by decide +kernel
theorem dX7_digs_20 : decode cX7_digs 20 = .ok (.iadd, 1) := by decide +kernel
theorem dX7_digs_21 : decode cX7_digs 21 = .ok (.istore_n 3, 1) := by decide +kernel
theorem dX7_digs_22 : decode cX7_digs 22 = .ok (.aload_n 0, 1) := by decide +kernel
theorem dX7_digs_23 : decode cX7_digs 23 = .ok (.iload_n 3, 1) := by decide +kernel
theorem dX7_digs_24 : decode cX7_digs 24 = .ok (.aload_n 0, 1) := by decide +kernel
theorem dX7_digs_25 : decode cX7_digs 25 = .ok (.getfield 19, 3) := by decide +kernel
theorem dX7_digs_28 : decode cX7_digs 28 = .ok (.iconst 2, 1) := by decide +kernel
theorem dX7_digs_29 : decode cX7_digs 29 = .ok (.iaload, 1) := by decide +kernel
theorem dX7_digs_30 : decode cX7_digs 30 = .ok (.invokevirtual 144, 3) := by decide +kernel
theorem dX7_digs_33 : decode cX7_digs 33 = .ok (.ifCond .ne 6, 3) := by decide +kernel
theorem dX7_digs_36 : decode cX7_digs 36 = .ok (.bipush (-2), 2) := by decide +kernel
theorem dX7_digs_38 : decode cX7_digs 38 = .ok (.ireturn, 1) := by decide +kernel
theorem dX7_digs_39 : decode cX7_digs 39 = .ok (.aload_n 0, 1) := by decide +kernel
theorem dX7_digs_40 : decode cX7_digs 40 = .ok (.invokevirtual 158, 3) := by decide +kernel
theorem dX7_digs_43 : decode cX7_digs 43 = .ok (.aload_n 0, 1) := by decide +kernel
theorem dX7_digs_44 : decode cX7_digs 44 = .ok (.getfield 19, 3) := by decide +kernel
theorem dX7_digs_47 : decode cX7_digs 47 = .ok (.iconst 2, 1) := by decide +kernel
theorem dX7_digs_48 : decode cX7_digs 48 = .ok (.dup2, 1) := by decide +kernel
theorem dX7_digs_49 : decode cX7_digs 49 = .ok (.iaload, 1) := by decide +kernel
theorem dX7_digs_50 : decode cX7_digs 50 = .ok (.iconst 1, 1) := by decide +kernel
theorem dX7_digs_51 : decode cX7_digs 51 = .ok (.iload_n 3, 1) := by decide +kernel
theorem dX7_digs_52 : decode cX7_digs 52 = .ok (.ishl, 1) := by decide +kernel
theorem dX7_digs_53 : decode cX7_digs 53 = .ok (.ior, 1) := by decide +kernel
theorem dX7_digs_54 : decode cX7_digs 54 = .ok (.iastore, 1) := by decide +kernel
theorem dX7_digs_55 : decode cX7_digs 55 = .ok (.aload_n 0, 1) := by decide +kernel
theorem dX7_digs_56 : decode cX7_digs 56 = .ok (.getfield 19, 3) := by decide +kernel
theorem dX7_digs_59 : decode cX7_digs 59 = .ok (.iconst 1, 1) := by decide +kernel
theorem dX7_digs_60 : decode cX7_digs 60 = .ok (.dup2, 1) := by decide +kernel
theorem dX7_digs_61 : decode cX7_digs 61 = .ok (.iaload, 1) := by decide +kernel
theorem dX7_digs_62 : decode cX7_digs 62 = .ok (.aload_n 0, 1) := by decide +kernel
theorem dX7_digs_63 : decode cX7_digs 63 = .ok (.getfield 16, 3) := by decide +kernel
theorem dX7_digs_66 : decode cX7_digs 66 = .ok (.bipush 6, 2) := by decide +kernel
theorem dX7_digs_68 : decode cX7_digs 68 = .ok (.iload_n 3, 1) := by decide +kernel
theorem dX7_digs_69 : decode cX7_digs 69 = .ok (.iadd, 1) := by decide +kernel
theorem dX7_digs_70 : decode cX7_digs 70 = .ok (.iaload, 1) := by decide +kernel
theorem dX7_digs_71 : decode cX7_digs 71 = .ok (.iadd, 1) := by decide +kernel
theorem dX7_digs_72 : decode cX7_digs 72 = .ok (.iastore, 1) := by decide +kernel
theorem dX7_digs_73 : decode cX7_digs 73 = .ok (.aload_n 0, 1) := by decide +kernel
theorem dX7_digs_74 : decode cX7_digs 74 = .ok (.getfield 19, 3) := by decide +kernel
theorem dX7_digs_77 : decode cX7_digs 77 = .ok (.iconst 1, 1) := by decide +kernel
theorem dX7_digs_78 : decode cX7_digs 78 = .ok (.iaload, 1) := by decide +kernel
theorem dX7_digs_79 : decode cX7_digs 79 = .ok (.ireturn, 1) := by decide +kernel
set_option maxRecDepth 20000 in
theorem ggX7_scraped_X7_yellow : GoodIn wsX7_scraped wsX7_yellow := goodIn_r _ [6, 7, 8, 9, 10, 11, 12, 13, 14, 15, 16, 17, 18, 19, 20, 21, 22, 23, 24, 25, 26] (by decide +kernel) (by decide +kernel)
set_option maxRecDepth 20000 in
theorem gX7_scraped_X7_yellow : GoodIn wsX7_scraped (wsV RX7 122 RX7 yX7_yellow wsX7_yellow) := goodIn_app (goodIn_of _ (by decide +kernel)) ggX7_scraped_X7_yellow
theorem dX7_scraped_0 : decode cX7_scraped 0 = .ok (.aload_n 0, 1) := by decide +kernel
theorem dX7_scraped_1 : decode cX7_scraped 1 = .ok (.iload_n 1, 1) := by decide +kernel
theorem dX7_scraped_2 : decode cX7_scraped 2 = .ok (.invokevirtual 122, 3) := by decide +kernel
theorem dX7_scraped_5 : decode cX7_scraped 5 = .ok (.aload_n 0, 1) := by decide +kernel
theorem dX7_scraped_6 : decode cX7_scraped 6 = .ok (.iload_n 1, 1) := by decide +kernel
theorem dX7_scraped_7 : decode cX7_scraped 7 = .ok (.invokevirtual 122, 3) := by decide +kernel
theorem dX7_scraped_10 : decode cX7_scraped 10 = .ok (.aload_n 0, 1) := by decide +kernel
theorem dX7_scraped_11 : decode cX7_scraped 11 = .ok (.getfield 16, 3) := by decide +kernel
theorem dX7_scraped_14 : decode cX7_scraped 14 = .ok (.iconst 4, 1) := by decide +kernel
theorem dX7_scraped_15 : decode cX7_scraped 15 = .ok (.iaload, 1) := by decide +kernel
theorem dX7_scraped_16 : decode cX7_scraped 16 = .ok (.imul, 1) := by decide +kernel
theorem dX7_scraped_17 : decode cX7_scraped 17 = .ok (.bipush 10, 2) := by decide +kernel
theorem dX7_scraped_19 : decode cX7_scraped 19 = .ok (.idiv, 1) := by decide +kernel
theorem dX7_scraped_20 : decode cX7_scraped 20 = .ok (.isub, 1) := by decide +kernel
theorem dX7_scraped_21 : decode cX7_scraped 21 = .ok (.ireturn, 1) := by decide +kernel
set_option maxRecDepth 20000 in
theorem ggX7_scrapes_X7_isThing : GoodIn wsX7_scrapes wsX7_isThing := goodIn_r _ [6, 7, 8, 9, 5, 10, 25, 26, 27, 28, 29, 30, 31, 32, 33, 34, 35, 36, 37, 38, 39, 40, 41, 42, 43] (by decide +kernel) (by decide +kernel)
set_option maxRecDepth 20000 in
theorem gX7_scrapes_X7_isThing : GoodIn wsX7_scrapes (wsV RX7 147 RX7 yX7_isThing wsX7_isThing) := goodIn_app (goodIn_of _ (by decide +kernel)) ggX7_scrapes_X7_isThing
set_option maxRecDepth 20000 in
theorem ggX7_scrapes_X7_yellow : GoodIn wsX7_scrapes wsX7_yellow := goodIn_r _ [14, 1, 25, 26, 27, 28, 29, 30, 31, 32, 33, 34, 35, 36, 37, 38, 39, 40, 41, 42, 43] (by decide +kernel) (by decide +kernel)
set_option maxRecDepth 20000 in
theorem gX7_scrapes_X7_yellow : GoodIn wsX7_scrapes (wsV RX7 122 RX7 yX7_yellow wsX7_yellow) := goodIn_app (goodIn_of _ (by decide +kernel)) ggX7_scrapes_X7_yellow
set_option maxRecDepth 20000 in
theorem ggX7_scrapes_X7_notes : GoodIn wsX7_scrapes wsX7_notes := goodIn_r _ [18, 19, 20, 1, 25, 26, 27, 28, 29, 30, 31, 32, 33, 34, 35, 36, 37, 38, 39, 40, 41, 42, 43] (by decide +kernel) (by decide +kernel)
set_option maxRecDepth 20000 in
theorem gX7_scrapes_X7_notes : GoodIn wsX7_scrapes (wsV RX7 158 RX7 yX7_notes wsX7_notes) := goodIn_app (goodIn_of _ (by decide +kernel)) ggX7_scrapes_X7_notes
set_option maxRecDepth 20000 in
theorem ggX7_scrapes_X7_scraped : GoodIn wsX7_scrapes wsX7_scraped := goodIn_r _ [24, 7, 11, 12, 13, 5, 14, 1, 25, 26, 27, 28, 29, 30, 31, 32, 33, 34, 35, 36, 37, 38, 39, 40, 41, 42, 43] (by decide +kernel) (by decide +kernel)
set_option maxRecDepth 20000 in
theorem gX7_scrapes_X7_scraped : GoodIn wsX7_scrapes (wsV RX7 161 RX7 yX7_scraped wsX7_scraped) := goodIn_app (goodIn_of _ (by decide +kernel)) ggX7_scrapes_X7_scraped
theorem dX7_scrapes_0 : decode cX7_scrapes 0 = .ok (.aload_n 0, 1) := by decide +kernel
theorem dX7_scrapes_1 : decode cX7_scrapes 1 = .ok (.iload_n 1, 1) := by decide +kernel
theorem dX7_scrapes_2 : decode cX7_scrapes 2 = .ok (.invokevirtual 147, 3) := by decide +kernel
theorem dX7_scrapes_5 : decode cX7_scrapes 5 = .ok (.ifCond .ne 5, 3) := by decide +kernel
theorem dX7_scrapes_8 : decode cX7_scrapes 8 = .ok (.iconst (-1), 1) := by decide +kernel
theorem dX7_scrapes_9 : decode cX7_scrapes 9 = .ok (.ireturn, 1) := by decide +kernel
theorem dX7_scrapes_10 : decode cX7_scrapes 10 = .ok (.aload_n 0, 1) := by decide +kernel
theorem dX7_scrapes_11 : decode cX7_scrapes 11 = .ok (.iload_n 1, 1) := by decide +kernel
theorem dX7_scrapes_12 : decode cX7_scrapes 12 = .ok (.invokevirtual 122, 3) := by decide +kernel
theorem dX7_scrapes_15 : decode cX7_scrapes 15 = .ok (.ifCond .ne 6, 3) := by decide +kernel
theorem dX7_scrapes_18 : decode cX7_scrapes 18 = .ok (.bipush (-2), 2) := by decide +kernel
theorem dX7_scrapes_20 : decode cX7_scrapes 20 = .ok (.ireturn, 1) := by decide +kernel
theorem dX7_scrapes_21 : decode cX7_scrapes 21 = .ok (.aload_n 0, 1) := by decide +kernel
theorem dX7_scrapes_22 : decode cX7_scrapes 22 = .ok (.invokevirtual 158, 3) := by decide +kernel
theorem dX7_scrapes_25 : decode cX7_scrapes 25 = .ok (.aload_n 0, 1) := by decide +kernel
theorem dX7_scrapes_26 : decode cX7_scrapes 26 = .ok (.iload_n 1, 1) := by decide +kernel
theorem dX7_scrapes_27 : decode cX7_scrapes 27 = .ok (.invokevirtual 161, 3) := by decide +kernel
theorem dX7_scrapes_30 : decode cX7_scrapes 30 = .ok (.istore_n 2, 1) := by decide +kernel
theorem dX7_scrapes_31 : decode cX7_scrapes 31 = .ok (.aload_n 0, 1) := by decide +kernel
theorem dX7_scrapes_32 : decode cX7_scrapes 32 = .ok (.getfield 19, 3) := by decide +kernel
theorem dX7_scrapes_35 : decode cX7_scrapes 35 = .ok (.iconst 1, 1) := by decide +kernel
theorem dX7_scrapes_36 : decode cX7_scrapes 36 = .ok (.dup2, 1) := by decide +kernel
theorem dX7_scrapes_37 : decode cX7_scrapes 37 = .ok (.iaload, 1) := by decide +kernel
theorem dX7_scrapes_38 : decode cX7_scrapes 38 = .ok (.iload_n 2, 1) := by decide +kernel
theorem dX7_scrapes_39 : decode cX7_scrapes 39 = .ok (.iadd, 1) := by decide +kernel
theorem dX7_scrapes_40 : decode cX7_scrapes 40 = .ok (.iastore, 1) := by decide +kernel
theorem dX7_scrapes_41 : decode cX7_scrapes 41 = .ok (.aload_n 0, 1) := by decide +kernel
theorem dX7_scrapes_42 : decode cX7_scrapes 42 = .ok (.getfield 19, 3) := by decide +kernel
theorem dX7_scrapes_45 : decode cX7_scrapes 45 = .ok (.iconst 3, 1) := by decide +kernel
theorem dX7_scrapes_46 : decode cX7_scrapes 46 = .ok (.iconst 2, 1) := by decide +kernel
theorem dX7_scrapes_47 : decode cX7_scrapes 47 = .ok (.iload_n 1, 1) := by decide +kernel
theorem dX7_scrapes_48 : decode cX7_scrapes 48 = .ok (.imul, 1) := by decide +kernel
theorem dX7_scrapes_49 : decode cX7_scrapes 49 = .ok (.iadd, 1) := by decide +kernel
theorem dX7_scrapes_50 : decode cX7_scrapes 50 = .ok (.iconst 0, 1) := by decide +kernel
theorem dX7_scrapes_51 : decode cX7_scrapes 51 = .ok (.iastore, 1) := by decide +kernel
theorem dX7_scrapes_52 : decode cX7_scrapes 52 = .ok (.aload_n 0, 1) := by decide +kernel
theorem dX7_scrapes_53 : decode cX7_scrapes 53 = .ok (.getfield 19, 3) := by decide +kernel
theorem dX7_scrapes_56 : decode cX7_scrapes 56 = .ok (.iconst 4, 1) := by decide +kernel
theorem dX7_scrapes_57 : decode cX7_scrapes 57 = .ok (.iconst 2, 1) := by decide +kernel
theorem dX7_scrapes_58 : decode cX7_scrapes 58 = .ok (.iload_n 1, 1) := by decide +kernel
theorem dX7_scrapes_59 : decode cX7_scrapes 59 = .ok (.imul, 1) := by decide +kernel
theorem dX7_scrapes_60 : decode cX7_scrapes 60 = .ok (.iadd, 1) := by decide +kernel
theorem dX7_scrapes_61 : decode cX7_scrapes 61 = .ok (.iconst 0, 1) := by decide +kernel
theorem dX7_scrapes_62 : decode cX7_scrapes 62 = .ok (.iastore, 1) := by decide +kernel
theorem dX7_scrapes_63 : decode cX7_scrapes 63 = .ok (.iload_n 2, 1) := by decide +kernel
theorem dX7_scrapes_64 : decode cX7_scrapes 64 = .ok (.ireturn, 1) := by decide +kernel
