theorem dX7_sell_64 : decode cX7_sell 64 = .ok (.iload 7, 2) := by decide +kernel
theorem dX7_sell_66 : decode cX7_sell 66 = .ok (.aload_n 0, 1) := by decide +kernel
theorem dX7_sell_67 : decode cX7_sell 67 = .ok (.iload 8, 2) := by decide +kernel
theorem dX7_sell_69 : decode cX7_sell 69 = .ok (.iload 6, 2) := by decide +kernel
theorem dX7_sell_71 : decode cX7_sell 71 = .ok (.iconst 0, 1) := by decide +kernel
theorem dX7_sell_72 : decode cX7_sell 72 = .ok (.invokevirtual 155, 3) := by decide +kernel
theorem dX7_sell_75 : decode cX7_sell 75 = .ok (.ifCond .eq 7, 3) := by decide +kernel
theorem dX7_sell_78 : decode cX7_sell 78 = .ok (.iconst 0, 1) := by decide +kernel
theorem dX7_sell_79 : decode cX7_sell 79 = .ok (.goto 4, 3) := by decide +kernel
theorem dX7_sell_82 : decode cX7_sell 82 = .ok (.iconst 1, 1) := by decide +kernel
theorem dX7_sell_83 : decode cX7_sell 83 = .ok (.iadd, 1) := by decide +kernel
theorem dX7_sell_84 : decode cX7_sell 84 = .ok (.istore 7, 2) := by decide +kernel
theorem dX7_sell_86 : decode cX7_sell 86 = .ok (.iinc 8 1, 3) := by decide +kernel
theorem dX7_sell_89 : decode cX7_sell 89 = .ok (.goto (-36), 3) := by decide +kernel
theorem dX7_sell_92 : decode cX7_sell 92 = .ok (.aload_n 0, 1) := by decide +kernel
theorem dX7_sell_93 : decode cX7_sell 93 = .ok (.iload_n 1, 1) := by decide +kernel
theorem dX7_sell_94 : decode cX7_sell 94 = .ok (.iload 6, 2) := by decide +kernel
theorem dX7_sell_96 : decode cX7_sell 96 = .ok (.iconst 0, 1) := by decide +kernel
theorem dX7_sell_97 : decode cX7_sell 97 = .ok (.invokevirtual 155, 3) := by decide +kernel
theorem dX7_sell_100 : decode cX7_sell 100 = .ok (.ifCond .eq 16, 3) := by decide +kernel
theorem dX7_sell_103 : decode cX7_sell 103 = .ok (.aload_n 0, 1) := by decide +kernel
theorem dX7_sell_104 : decode cX7_sell 104 = .ok (.iload_n 1, 1) := by decide +kernel
theorem dX7_sell_105 : decode cX7_sell 105 = .ok (.invokevirtual 152, 3) := by decide +kernel
theorem dX7_sell_108 : decode cX7_sell 108 = .ok (.iconst 1, 1) := by decide +kernel
theorem dX7_sell_109 : decode cX7_sell 109 = .ok (.iload 7, 2) := by decide +kernel
theorem dX7_sell_111 : decode cX7_sell 111 = .ok (.iadd, 1) := by decide +kernel
theorem dX7_sell_112 : decode cX7_sell 112 = .ok (.imul, 1) := by decide +kernel
theorem dX7_sell_113 : decode cX7_sell 113 = .ok (.goto 4, 3) := by decide +kernel
theorem dX7_sell_116 : decode cX7_sell 116 = .ok (.iconst 0, 1) := by decide +kernel
theorem dX7_sell_117 : decode cX7_sell 117 = .ok (.istore 8, 2) := by decide +kernel
theorem dX7_sell_119 : decode cX7_sell 119 = .ok (.iload 8, 2) := by decide +kernel
theorem dX7_sell_121 : decode cX7_sell 121 = .ok (.iload 5, 2) := by decide +kernel
theorem dX7_sell_123 : decode cX7_sell 123 = .ok (.if_icmp .le 8, 3) := by decide +kernel
theorem dX7_sell_126 : decode cX7_sell 126 = .ok (.iload 6, 2) := by decide +kernel
theorem dX7_sell_128 : decode cX7_sell 128 = .ok (.goto 5, 3) := by decide +kernel
theorem dX7_sell_131 : decode cX7_sell 131 = .ok (.iload 4, 2) := by decide +kernel
theorem dX7_sell_133 : decode cX7_sell 133 = .ok (.istore 4, 2) := by decide +kernel
theorem dX7_sell_135 : decode cX7_sell 135 = .ok (.iload 8, 2) := by decide +kernel
theorem dX7_sell_137 : decode cX7_sell 137 = .ok (.iload 5, 2) := by decide +kernel
theorem dX7_sell_139 : decode cX7_sell 139 = .ok (.if_icmp .le 8, 3) := by decide +kernel
theorem dX7_sell_142 : decode cX7_sell 142 = .ok (.iload 8, 2) := by decide +kernel
theorem dX7_sell_144 : decode cX7_sell 144 = .ok (.goto 5, 3) := by decide +kernel
theorem dX7_sell_147 : decode cX7_sell 147 = .ok (.iload 5, 2) := by decide +kernel
theorem dX7_sell_149 : decode cX7_sell 149 = .ok (.istore 5, 2) := by decide +kernel
theorem dX7_sell_151 : decode cX7_sell 151 = .ok (.iinc 6 1, 3) := by decide +kernel
theorem dX7_sell_154 : decode cX7_sell 154 = .ok (.goto (-113), 3) := by decide +kernel
theorem dX7_sell_157 : decode cX7_sell 157 = .ok (.iload_n 3, 1) := by decide +kernel
theorem dX7_sell_158 : decode cX7_sell 158 = .ok (.ifCond .ne 8, 3) := by decide +kernel
theorem dX7_sell_161 : decode cX7_sell 161 = .ok (.iload 4, 2) := by decide +kernel
theorem dX7_sell_163 : decode cX7_sell 163 = .ok (.goto 5, 3) := by decide +kernel
theorem dX7_sell_166 : decode cX7_sell 166 = .ok (.iload 5, 2) := by decide +kernel
theorem dX7_sell_168 : decode cX7_sell 168 = .ok (.ireturn, 1) := by decide +kernel
set_option maxRecDepth 20000 in
theorem ggX7_spareOf_X7_yellow : GoodIn wsX7_spareOf wsX7_yellow := goodIn_r _ [5, 6, 24, 25, 26, 27, 28, 29, 30, 31, 32, 33, 34, 35, 36, 37, 38, 39, 40, 41, 42] (by decide +kernel) (by decide +kernel)
set_option maxRecDepth 20000 in
theorem gX7_spareOf_X7_yellow : GoodIn wsX7_spareOf (wsV RX7 122 RX7 yX7_yellow wsX7_yellow) := goodIn_app (goodIn_of _ (by decide +kernel)) ggX7_spareOf_X7_yellow
set_option maxRecDepth 20000 in
theorem ggX7_spareOf_X7_white : GoodIn wsX7_spareOf wsX7_white := goodIn_r _ [10, 6, 24, 25, 26, 27, 28, 29, 30, 31, 32, 33, 34, 35, 36, 37, 38, 39, 40, 41, 42] (by decide +kernel) (by decide +kernel)
set_option maxRecDepth 20000 in
theorem gX7_spareOf_X7_white : GoodIn wsX7_spareOf (wsV RX7 129 RX7 yX7_white wsX7_white) := goodIn_app (goodIn_of _ (by decide +kernel)) ggX7_spareOf_X7_white
set_option maxRecDepth 20000 in
theorem ggX7_spareOf_X7_isCalled : GoodIn wsX7_spareOf wsX7_isCalled := goodIn_r _ [14, 15, 24, 25, 26, 27, 28, 29, 30, 31, 32, 33, 34, 35, 36, 37, 38, 39, 40, 41, 42] (by decide +kernel) (by decide +kernel)
set_option maxRecDepth 20000 in
theorem gX7_spareOf_X7_isCalled : GoodIn wsX7_spareOf (wsV RX7 132 RX7 yX7_isCalled wsX7_isCalled) := goodIn_app (goodIn_of _ (by decide +kernel)) ggX7_spareOf_X7_isCalled
set_option maxRecDepth 20000 in
theorem ggX7_spareOf_X7_isThen : GoodIn wsX7_spareOf wsX7_isThen := goodIn_r _ [19, 1, 2, 3, 4, 5, 6, 20, 21, 22, 23, 15, 7, 8, 9, 10, 11, 12, 13, 14, 24, 25, 26, 27, 28, 29, 30, 31, 32, 33, 34, 35, 36, 37, 38, 39, 40, 41, 42] (by decide +kernel) (by decide +kernel)
set_option maxRecDepth 20000 in
theorem gX7_spareOf_X7_isThen : GoodIn wsX7_spareOf (wsV RX7 155 RX7 yX7_isThen wsX7_isThen) := goodIn_app (goodIn_of _ (by decide +kernel)) ggX7_spareOf_X7_isThen
theorem dX7_spareOf_0 : decode cX7_spareOf 0 = .ok (.iconst 0, 1) := by decide +kernel
theorem dX7_spareOf_1 : decode cX7_spareOf 1 = .ok (.istore_n 2, 1) := by decide +kernel
theorem dX7_spareOf_2 : decode cX7_spareOf 2 = .ok (.aload_n 0, 1) := by decide +kernel
theorem dX7_spareOf_3 : decode cX7_spareOf 3 = .ok (.aload_n 0, 1) := by decide +kernel
theorem dX7_spareOf_4 : decode cX7_spareOf 4 = .ok (.iload_n 1, 1) := by decide +kernel
theorem dX7_spareOf_5 : decode cX7_spareOf 5 = .ok (.invokevirtual 122, 3) := by decide +kernel
theorem dX7_spareOf_8 : decode cX7_spareOf 8 = .ok (.iload_n 2, 1) := by decide +kernel
theorem dX7_spareOf_9 : decode cX7_spareOf 9 = .ok (.isub, 1) := by decide +kernel
theorem dX7_spareOf_10 : decode cX7_spareOf 10 = .ok (.iconst 1, 1) := by decide +kernel
theorem dX7_spareOf_11 : decode cX7_spareOf 11 = .ok (.isub, 1) := by decide +kernel
theorem dX7_spareOf_12 : decode cX7_spareOf 12 = .ok (.aload_n 0, 1) := by decide +kernel
theorem dX7_spareOf_13 : decode cX7_spareOf 13 = .ok (.iload_n 1, 1) := by decide +kernel
theorem dX7_spareOf_14 : decode cX7_spareOf 14 = .ok (.invokevirtual 129, 3) := by decide +kernel
theorem dX7_spareOf_17 : decode cX7_spareOf 17 = .ok (.invokevirtual 132, 3) := by decide +kernel
theorem dX7_spareOf_20 : decode cX7_spareOf 20 = .ok (.ifCond .eq 9, 3) := by decide +kernel
theorem dX7_spareOf_23 : decode cX7_spareOf 23 = .ok (.iinc 2 1, 3) := by decide +kernel
theorem dX7_spareOf_26 : decode cX7_spareOf 26 = .ok (.goto (-24), 3) := by decide +kernel
theorem dX7_spareOf_29 : decode cX7_spareOf 29 = .ok (.aload_n 0, 1) := by decide +kernel
theorem dX7_spareOf_30 : decode cX7_spareOf 30 = .ok (.iload_n 1, 1) := by decide +kernel
theorem dX7_spareOf_31 : decode cX7_spareOf 31 = .ok (.iconst 0, 1) := by decide +kernel
theorem dX7_spareOf_32 : decode cX7_spareOf 32 = .ok (.iconst 0, 1) := by decide +kernel
theorem dX7_spareOf_33 : decode cX7_spareOf 33 = .ok (.invokevirtual 155, 3) := by decide +kernel
theorem dX7_spareOf_36 : decode cX7_spareOf 36 = .ok (.ifCond .eq 7, 3) := by decide +kernel
theorem dX7_spareOf_39 : decode cX7_spareOf 39 = .ok (.iload_n 2, 1) := by decide +kernel
theorem dX7_spareOf_40 : decode cX7_spareOf 40 = .ok (.goto 4, 3) := by decide +kernel
theorem dX7_spareOf_43 : decode cX7_spareOf 43 = .ok (.iconst 0, 1) := by decide +kernel
theorem dX7_spareOf_44 : decode cX7_spareOf 44 = .ok (.ireturn, 1) := by decide +kernel
set_option maxRecDepth 20000 in
theorem ggX7_spare_X7_isThing : GoodIn wsX7_spare wsX7_isThing := goodIn_r _ [5, 6, 7, 8, 4, 9, 35, 36, 37, 38, 39, 40, 41, 42, 43, 44, 45, 46, 47, 48, 49, 50, 51, 52, 53] (by decide +kernel) (by decide +kernel)
set_option maxRecDepth 20000 in
theorem gX7_spare_X7_isThing : GoodIn wsX7_spare (wsV RX7 147 RX7 yX7_isThing wsX7_isThing) := goodIn_app (goodIn_of _ (by decide +kernel)) ggX7_spare_X7_isThing
set_option maxRecDepth 20000 in
theorem ggX7_spare_X7_spareOf : GoodIn wsX7_spare wsX7_spareOf := goodIn_r _ [13, 14, 15, 16, 4, 17, 18, 19, 20, 21, 22, 23, 24, 25, 26, 6, 27, 28, 29, 30, 31, 32, 33, 34, 35, 36, 37, 38, 39, 40, 41, 42, 43, 44, 45, 46, 47, 48, 49, 50, 51, 52, 53] (by decide +kernel) (by decide +kernel)
set_option maxRecDepth 20000 in
theorem gX7_spare_X7_spareOf : GoodIn wsX7_spare (wsV RX7 186 RX7 yX7_spareOf wsX7_spareOf) := goodIn_app (goodIn_of _ (by decide +kernel)) ggX7_spare_X7_spareOf
theorem dX7_spare_0 : decode cX7_spare 0 = .ok (.aload_n 0, 1) := by decide +kernel
theorem dX7_spare_1 : decode cX7_spare 1 = .ok (.iload_n 1, 1) := by decide +kernel
theorem dX7_spare_2 : decode cX7_spare 2 = .ok (.invokevirtual 147, 3) := by decide +kernel
theorem dX7_spare_5 : decode cX7_spare 5 = .ok (.ifCond .eq 11, 3) := by decide +kernel
theorem dX7_spare_8 : decode cX7_spare 8 = .ok (.aload_n 0, 1) := by decide +kernel
theorem dX7_spare_9 : decode cX7_spare 9 = .ok (.iload_n 1, 1) := by decide +kernel
theorem dX7_spare_10 : decode cX7_spare 10 = .ok (.invokevirtual 186, 3) := by decide +kernel
theorem dX7_spare_13 : decode cX7_spare 13 = .ok (.goto 4, 3) := by decide +kernel
theorem dX7_spare_16 : decode cX7_spare 16 = .ok (.iconst (-1), 1) := by decide +kernel
theorem dX7_spare_17 : decode cX7_spare 17 = .ok (.ireturn, 1) := by decide +kernel
set_option maxRecDepth 20000 in
theorem ggX7_rich_X7_spareOf : GoodIn wsX7_rich wsX7_spareOf := goodIn_r _ [6, 7, 8, 9, 5, 10, 11, 12, 13, 14, 15, 16, 17, 18, 19, 1, 20, 21, 22, 23, 24, 25, 26, 27, 28, 29, 30, 31, 32, 33, 34, 35, 36, 37, 38, 39, 40, 41, 42, 43, 44, 45, 46] (by decide +kernel) (by decide +kernel)
set_option maxRecDepth 20000 in
theorem gX7_rich_X7_spareOf : GoodIn wsX7_rich (wsV RX7 186 RX7 yX7_spareOf wsX7_spareOf) := goodIn_app (goodIn_of _ (by decide +kernel)) ggX7_rich_X7_spareOf
theorem dX7_rich_0 : decode cX7_rich 0 = .ok (.bipush (-9), 2) := by decide +kernel
theorem dX7_rich_2 : decode cX7_rich 2 = .ok (.istore_n 1, 1) := by decide +kernel
theorem dX7_rich_3 : decode cX7_rich 3 = .ok (.iconst 0, 1) := by decide +kernel
theorem dX7_rich_4 : decode cX7_rich 4 = .ok (.istore_n 2, 1) := by decide +kernel
theorem dX7_rich_5 : decode cX7_rich 5 = .ok (.iload_n 2, 1) := by decide +kernel
theorem dX7_rich_6 : decode cX7_rich 6 = .ok (.aload_n 0, 1) := by decide +kernel
theorem dX7_rich_7 : decode cX7_rich 7 = .ok (.getfield 16, 3) := by decide +kernel
theorem dX7_rich_10 : decode cX7_rich 10 = .ok (.iconst 2, 1) := by decide +kernel
theorem dX7_rich_11 : decode cX7_rich 11 = .ok (.iaload, 1) := by decide +kernel
theorem dX7_rich_12 : decode cX7_rich 12 = .ok (.if_icmp .ge 40, 3) := by decide +kernel
theorem dX7_rich_15 : decode cX7_rich 15 = .ok (.aload_n 0, 1) := by decide +kernel
theorem dX7_rich_16 : decode cX7_rich 16 = .ok (.iload_n 2, 1) := by decide +kernel
theorem dX7_rich_17 : decode cX7_rich 17 = .ok (.invokevirtual 186, 3) := by decide +kernel
theorem dX7_rich_20 : decode cX7_rich 20 = .ok (.istore_n 3, 1) := by decide +kernel
theorem dX7_rich_21 : decode cX7_rich 21 = .ok (.iload_n 3, 1) := by decide +kernel
theorem dX7_rich_22 : decode cX7_rich 22 = .ok (.ifCond .le 22, 3) := by decide +kernel
theorem dX7_rich_25 : decode cX7_rich 25 = .ok (.iload_n 1, 1) := by decide +kernel
theorem dX7_rich_26 : decode cX7_rich 26 = .ok (.bipush (-9), 2) := by decide +kernel
theorem dX7_rich_28 : decode cX7_rich 28 = .ok (.if_icmp .eq 12, 3) := by decide +kernel
theorem dX7_rich_31 : decode cX7_rich 31 = .ok (.iload_n 3, 1) := by decide +kernel
theorem dX7_rich_32 : decode cX7_rich 32 = .ok (.aload_n 0, 1) := by decide +kernel
theorem dX7_rich_33 : decode cX7_rich 33 = .ok (.iload_n 1, 1) := by decide +kernel
theorem dX7_rich_34 : decode cX7_rich 34 = .ok (.invokevirtual 186, 3) := by decide +kernel
theorem dX7_rich_37 : decode cX7_rich 37 = .ok (.if_icmp .le 7, 3) := by decide +kernel
theorem dX7_rich_40 : decode cX7_rich 40 = .ok (.iload_n 2, 1) := by decide +kernel
theorem dX7_rich_41 : decode cX7_rich 41 = .ok (.goto 4, 3) := by decide +kernel
theorem dX7_rich_44 : decode cX7_rich 44 = .ok (.iload_n 1, 1) := by decide +kernel
theorem dX7_rich_45 : decode cX7_rich 45 = .ok (.istore_n 1, 1) := by decide +kernel
theorem dX7_rich_46 : decode cX7_rich 46 = .ok (.iinc 2 1, 3) := by decide +kernel
theorem dX7_rich_49 : decode cX7_rich 49 = .ok (.goto (-44), 3) := by decide +kernel
theorem dX7_rich_52 : decode cX7_rich 52 = .ok (.iload_n 1, 1) := by decide +kernel
theorem dX7_rich_53 : decode cX7_rich 53 = .ok (.ireturn, 1) := by decide +kernel
theorem dX7_common_0 : decode cX7_common 0 = .ok (.iload_n 0, 1) := by decide +kernel
theorem dX7_common_1 : decode cX7_common 1 = .ok (.istore_n 2, 1) := by decide +kernel
theorem dX7_common_2 : decode cX7_common 2 = .ok (.iload_n 1, 1) := by decide +kernel
theorem dX7_common_3 : decode cX7_common 3 = .ok (.istore_n 3, 1) := by decide +kernel
theorem dX7_common_4 : decode cX7_common 4 = .ok (.iload_n 3, 1) := by decide +kernel
theorem dX7_common_5 : decode cX7_common 5 = .ok (.ifCond .eq 16, 3) := by decide +kernel
theorem dX7_common_8 : decode cX7_common 8 = .ok (.iload_n 2, 1) := by decide +kernel
theorem dX7_common_9 : decode cX7_common 9 = .ok (.iload_n 3, 1) := by decide +kernel
theorem dX7_common_10 : decode cX7_common 10 = .ok (.irem, 1) := by decide +kernel
theorem dX7_common_11 : decode cX7_common 11 = .ok (.istore 4, 2) := by decide +kernel
theorem dX7_common_13 : decode cX7_common 13 = .ok (.iload_n 3, 1) := by decide +kernel
theorem dX7_common_14 : decode cX7_common 14 = .ok (.istore_n 2, 1) := by decide +kernel
theorem dX7_common_15 : decode cX7_common 15 = .ok (.iload 4, 2) := by decide +kernel
theorem dX7_common_17 : decode cX7_common 17 = .ok (.istore_n 3, 1) := by decide +kernel
theorem dX7_common_18 : decode cX7_common 18 = .ok (.goto (-14), 3) := by decide +kernel
theorem dX7_common_21 : decode cX7_common 21 = .ok (.iload_n 2, 1) := by decide +kernel
theorem dX7_common_22 : decode cX7_common 22 = .ok (.ireturn, 1) := by decide +kernel
set_option maxRecDepth 20000 in
theorem ggX7_odds_X7_isThing : GoodIn wsX7_odds wsX7_isThing := goodIn_r _ [7, 8, 9, 10, 6, 11, 36, 37, 38, 39, 40, 41, 42, 43, 44, 45, 46, 47, 48, 49, 50, 51, 52, 53, 54] (by decide +kernel) (by decide +kernel)
set_option maxRecDepth 20000 in
theorem gX7_odds_X7_isThing : GoodIn wsX7_odds (wsV RX7 147 RX7 yX7_isThing wsX7_isThing) := goodIn_app (goodIn_of _ (by decide +kernel)) ggX7_odds_X7_isThing
set_option maxRecDepth 20000 in
theorem ggX7_odds_X7_in : GoodIn wsX7_odds wsX7_in := goodIn_r _ [11] (by decide +kernel) (by decide +kernel)
set_option maxRecDepth 20000 in
theorem gX7_odds_X7_in : GoodIn wsX7_odds (va_wsS RX7 48 yX7_in wsX7_in) := goodIn_app (goodIn_of _ (by decide +kernel)) ggX7_odds_X7_in
set_option maxRecDepth 20000 in
theorem ggX7_odds_X7_isThen : GoodIn wsX7_odds wsX7_isThen := goodIn_r _ [15, 16, 17, 18, 6, 19, 20, 21, 22, 23, 24, 8, 25, 26, 27, 28, 29, 30, 31, 32, 36, 37, 38, 39, 40, 41, 42, 43, 44, 45, 46, 47, 48, 49, 50, 51, 52, 53, 54] (by decide +kernel) (by decide +kernel)
set_option maxRecDepth 20000 in
theorem gX7_odds_X7_isThen : GoodIn wsX7_odds (wsV RX7 155 RX7 yX7_isThen wsX7_isThen) := goodIn_app (goodIn_of _ (by decide +kernel)) ggX7_odds_X7_isThen
set_option maxRecDepth 20000 in
theorem ggX7_odds_X7_common : GoodIn wsX7_odds wsX7_common := goodIn_r _ [35] (by decide +kernel) (by decide +kernel)
set_option maxRecDepth 20000 in
theorem gX7_odds_X7_common : GoodIn wsX7_odds (va_wsS RX7 193 yX7_common wsX7_common) := goodIn_app (goodIn_of _ (by decide +kernel)) ggX7_odds_X7_common
theorem dX7_odds_0 : decode cX7_odds 0 = .ok (.aload_n 0, 1) := by decide +kernel
theorem dX7_odds_1 : decode cX7_odds 1 = .ok (.iload_n 1, 1) := by decide +kernel
theorem dX7_odds_2 : decode cX7_odds 2 = .ok (.invokevirtual 147, 3) := by decide +kernel
theorem dX7_odds_5 : decode cX7_odds 5 = .ok (.ifCond .eq 38, 3) := by decide +kernel
theorem dX7_odds_8 : decode cX7_odds 8 = .ok (.iload_n 2, 1) := by decide +kernel
theorem dX7_odds_9 : decode cX7_odds 9 = .ok (.i2l, 1) := by decide +kernel
theorem dX7_odds_10 : decode cX7_odds 10 = .ok (.lconst 0, 1) := by decide +kernel
theorem dX7_odds_11 : decode cX7_odds 11 = .ok (.ldc2_w 189, 3) := by decide +kernel
theorem dX7_odds_14 : decode cX7_odds 14 = .ok (.invokestatic 48, 3) := by decide +kernel
theorem dX7_odds_17 : decode cX7_odds 17 = .ok (.ifCond .eq 26, 3) := by decide +kernel
theorem dX7_odds_20 : decode cX7_odds 20 = .ok (.iload_n 3, 1) := by decide +kernel
theorem dX7_odds_21 : decode cX7_odds 21 = .ok (.i2l, 1) := by decide +kernel
theorem dX7_odds_22 : decode cX7_odds 22 = .ok (.lconst 0, 1) := by decide +kernel
theorem dX7_odds_23 : decode cX7_odds 23 = .ok (.ldc2_w 191, 3) := by decide +kernel
theorem dX7_odds_26 : decode cX7_odds 26 = .ok (.invokestatic 48, 3) := by decide +kernel
theorem dX7_odds_29 : decode cX7_odds 29 = .ok (.ifCond .eq 14, 3) := by decide +kernel
theorem dX7_odds_32 : decode cX7_odds 32 = .ok (.iload 4, 2) := by decide +kernel
theorem dX7_odds_34 : decode cX7_odds 34 = .ok (.i2l, 1) := by decide +kernel
theorem dX7_odds_35 : decode cX7_odds 35 = .ok (.lconst 0, 1) := by decide +kernel
theorem dX7_odds_36 : decode cX7_odds 36 = .ok (.lconst 1, 1) := by decide +kernel
theorem dX7_odds_37 : decode cX7_odds 37 = .ok (.invokestatic 48, 3) := by decide +kernel
theorem dX7_odds_40 : decode cX7_odds 40 = .ok (.ifCond .ne 5, 3) := by decide +kernel
theorem dX7_odds_43 : decode cX7_odds 43 = .ok (.iconst (-1), 1) := by decide +kernel
theorem dX7_odds_44 : decode cX7_odds 44 = .ok (.ireturn, 1) := by decide +kernel
theorem dX7_odds_45 : decode cX7_odds 45 = .ok (.aload_n 0, 1) := by decide +kernel
theorem dX7_odds_46 : decode cX7_odds 46 = .ok (.iload_n 1, 1) := by decide +kernel
theorem dX7_odds_47 : decode cX7_odds 47 = .ok (.iload_n 3, 1) := by decide +kernel
theorem dX7_odds_48 : decode cX7_odds 48 = .ok (.iconst 0, 1) := by decide +kernel
theorem dX7_odds_49 : decode cX7_odds 49 = .ok (.invokevirtual 155, 3) := by decide +kernel
theorem dX7_odds_52 : decode cX7_odds 52 = .ok (.ifCond .eq 7, 3) := by decide +kernel
theorem dX7_odds_55 : decode cX7_odds 55 = .ok (.iconst 1, 1) := by decide +kernel
theorem dX7_odds_56 : decode cX7_odds 56 = .ok (.goto 4, 3) := by decide +kernel
theorem dX7_odds_59 : decode cX7_odds 59 = .ok (.iconst 0, 1) := by decide +kernel
theorem dX7_odds_60 : decode cX7_odds 60 = .ok (.istore 5, 2) := by decide +kernel
theorem dX7_odds_62 : decode cX7_odds 62 = .ok (.iconst 1, 1) := by decide +kernel
theorem dX7_odds_63 : decode cX7_odds 63 = .ok (.istore 6, 2) := by decide +kernel
theorem dX7_odds_65 : decode cX7_odds 65 = .ok (.iconst 0, 1) := by decide +kernel
theorem dX7_odds_66 : decode cX7_odds 66 = .ok (.istore 7, 2) := by decide +kernel
theorem dX7_odds_68 : decode cX7_odds 68 = .ok (.iload 7, 2) := by decide +kernel
theorem dX7_odds_70 : decode cX7_odds 70 = .ok (.iload_n 3, 1) := by decide +kernel
theorem dX7_odds_71 : decode cX7_odds 71 = .ok (.if_icmp .ge 25, 3) := by decide +kernel
theorem dX7_odds_74 : decode cX7_odds 74 = .ok (.iload 5, 2) := by decide +kernel
theorem dX7_odds_76 : decode cX7_odds 76 = .ok (.bipush 10, 2) := by decide +kernel
theorem dX7_odds_78 : decode cX7_odds 78 = .ok (.iload_n 2, 1) := by decide +kernel
theorem dX7_odds_79 : decode cX7_odds 79 = .ok (.isub, 1) := by decide +kernel
theorem dX7_odds_80 : decode cX7_odds 80 = .ok (.imul, 1) := by decide +kernel
theorem dX7_odds_81 : decode cX7_odds 81 = .ok (.istore 5, 2) := by decide +kernel
theorem dX7_odds_83 : decode cX7_odds 83 = .ok (.iload 6, 2) := by decide +kernel
theorem dX7_odds_85 : decode cX7_odds 85 = .ok (.bipush 10, 2) := by decide +kernel
theorem dX7_odds_87 : decode cX7_odds 87 = .ok (.imul, 1) := by decide +kernel
theorem dX7_odds_88 : decode cX7_odds 88 = .ok (.istore 6, 2) := by decide +kernel
theorem dX7_odds_90 : decode cX7_odds 90 = .ok (.iinc 7 1, 3) := by decide +kernel
theorem dX7_odds_93 : decode cX7_odds 93 = .ok (.goto (-25), 3) := by decide +kernel
theorem dX7_odds_96 : decode cX7_odds 96 = .ok (.iload 5, 2) := by decide +kernel
theorem dX7_odds_98 : decode cX7_odds 98 = .ok (.iload 6, 2) := by decide +kernel
theorem dX7_odds_100 : decode cX7_odds 100 = .ok (.invokestatic 193, 3) := by decide +kernel
theorem dX7_odds_103 : decode cX7_odds 103 = .ok (.istore 7, 2) := by decide +kernel
theorem dX7_odds_105 : decode cX7_odds 105 = .ok (.iload 4, 2) := by decide +kernel
theorem dX7_odds_107 : decode cX7_odds 107 = .ok (.ifCond .ne 11, 3) := by decide +kernel
theorem dX7_odds_110 : decode cX7_odds 110 = .ok (.iload 5, 2) := by decide +kernel
theorem dX7_odds_112 : decode cX7_odds 112 = .ok (.iload 7, 2) := by decide +kernel
theorem dX7_odds_114 : decode cX7_odds 114 = .ok (.idiv, 1) := by decide +kernel
theorem dX7_odds_115 : decode cX7_odds 115 = .ok (.goto 8, 3) := by decide +kernel
theorem dX7_odds_118 : decode cX7_odds 118 = .ok (.iload 6, 2) := by decide +kernel
theorem dX7_odds_120 : decode cX7_odds 120 = .ok (.iload 7, 2) := by decide +kernel
theorem dX7_odds_122 : decode cX7_odds 122 = .ok (.idiv, 1) := by decide +kernel
theorem dX7_odds_123 : decode cX7_odds 123 = .ok (.ireturn, 1) := by decide +kernel
set_option maxRecDepth 20000 in
theorem ggX7_came_X7_in : GoodIn wsX7_came wsX7_in := goodIn_r _ [7] (by decide +kernel) (by decide +kernel)
set_option maxRecDepth 20000 in
theorem gX7_came_X7_in : GoodIn wsX7_came (va_wsS RX7 48 yX7_in wsX7_in) := goodIn_app (goodIn_of _ (by decide +kernel)) ggX7_came_X7_in
theorem dX7_came_0 : decode cX7_came 0 = .ok (.iload_n 1, 1) := by decide +kernel
theorem dX7_came_1 : decode cX7_came 1 = .ok (.i2l, 1) := by decide +kernel
theorem dX7_came_2 : decode cX7_came 2 = .ok (.lconst 0, 1) := by decide +kernel
theorem dX7_came_3 : decode cX7_came 3 = .ok (.ldc2_w 196, 3) := by decide +kernel
theorem dX7_came_6 : decode cX7_came 6 = .ok (.invokestatic 48, 3) := by decide +kernel
theorem dX7_came_9 : decode cX7_came 9 = .ok (.ifCond .ne 5, 3) := by decide +kernel
theorem dX7_came_12 : decode cX7_came 12 = .ok (.iconst (-1), 1) := by decide +kernel
theorem dX7_came_13 : decode cX7_came 13 = .ok (.ireturn, 1) := by decide +kernel
theorem dX7_came_14 : decode cX7_came 14 = .ok (.aload_n 0, 1) := by decide +kernel
theorem dX7_came_15 : decode cX7_came 15 = .ok (.getfield 116, 3) := by decide +kernel
theorem dX7_came_18 : decode cX7_came 18 = .ok (.iconst 5, 1) := by decide +kernel
theorem dX7_came_19 : decode cX7_came 19 = .ok (.if_icmp .ne 6, 3) := by decide +kernel
theorem dX7_came_22 : decode cX7_came 22 = .ok (.bipush (-3), 2) := by decide +kernel
theorem dX7_came_24 : decode cX7_came 24 = .ok (.ireturn, 1) := by decide +kernel
theorem dX7_came_25 : decode cX7_came 25 = .ok (.aload_n 0, 1) := by decide +kernel
theorem dX7_came_26 : decode cX7_came 26 = .ok (.getfield 28, 3) := by decide +kernel
theorem dX7_came_29 : decode cX7_came 29 = .ok (.aload_n 0, 1) := by decide +kernel
theorem dX7_came_30 : decode cX7_came 30 = .ok (.getfield 116, 3) := by decide +kernel
theorem dX7_came_33 : decode cX7_came 33 = .ok (.iload_n 1, 1) := by decide +kernel
theorem dX7_came_34 : decode cX7_came 34 = .ok (.iastore, 1) := by decide +kernel
theorem dX7_came_35 : decode cX7_came 35 = .ok (.aload_n 0, 1) := by decide +kernel
theorem dX7_came_36 : decode cX7_came 36 = .ok (.dup, 1) := by decide +kernel
theorem dX7_came_37 : decode cX7_came 37 = .ok (.getfield 116, 3) := by decide +kernel
theorem dX7_came_40 : decode cX7_came 40 = .ok (.iconst 1, 1) := by decide +kernel
theorem dX7_came_41 : decode cX7_came 41 = .ok (.iadd, 1) := by decide +kernel
theorem dX7_came_42 : decode cX7_came 42 = .ok (.putfield 116, 3) := by decide +kernel
theorem dX7_came_45 : decode cX7_came 45 = .ok (.aload_n 0, 1) := by decide +kernel
theorem dX7_came_46 : decode cX7_came 46 = .ok (.getfield 116, 3) := by decide +kernel
theorem dX7_came_49 : decode cX7_came 49 = .ok (.ireturn, 1) := by decide +kernel
theorem dX7_forget_0 : decode cX7_forget 0 = .ok (.aload_n 0, 1) := by decide +kernel
theorem dX7_forget_1 : decode cX7_forget 1 = .ok (.getfield 116, 3) := by decide +kernel
theorem dX7_forget_4 : decode cX7_forget 4 = .ok (.istore_n 1, 1) := by decide +kernel
theorem dX7_forget_5 : decode cX7_forget 5 = .ok (.aload_n 0, 1) := by decide +kernel
theorem dX7_forget_6 : decode cX7_forget 6 = .ok (.iconst 0, 1) := by decide +kernel
theorem dX7_forget_7 : decode cX7_forget 7 = .ok (.putfield 116, 3) := by decide +kernel
theorem dX7_forget_10 : decode cX7_forget 10 = .ok (.iload_n 1, 1) := by decide +kernel
theorem dX7_forget_11 : decode cX7_forget 11 = .ok (.ireturn, 1) := by decide +kernel
set_option maxRecDepth 20000 in
theorem ggX7_rows_X7_cells : GoodIn wsX7_rows wsX7_cells := goodIn_r _ [13, 7, 18, 19, 20, 21, 22, 23, 24, 25, 26, 27, 28, 29, 30, 31, 32, 33, 34, 35, 36] (by decide +kernel) (by decide +kernel)
set_option maxRecDepth 20000 in
theorem gX7_rows_X7_cells : GoodIn wsX7_rows (wsV RX7 135 RX7 yX7_cells wsX7_cells) := goodIn_app (goodIn_of _ (by decide +kernel)) ggX7_rows_X7_cells
set_option maxRecDepth 20000 in
theorem ggX7_rows_X7_may : GoodIn wsX7_rows wsX7_may := goodIn_r _ [17, 7, 9, 10, 11, 12, 13, 18, 19, 20, 21, 22, 23, 24, 25, 26, 27, 28, 29, 30, 31, 32, 33, 34, 35, 36] (by decide +kernel) (by decide +kernel)
set_option maxRecDepth 20000 in
theorem gX7_rows_X7_may : GoodIn wsX7_rows (wsV RX7 144 RX7 yX7_may wsX7_may) := goodIn_app (goodIn_of _ (by decide +kernel)) ggX7_rows_X7_may
theorem dX7_rows_0 : decode cX7_rows 0 = .ok (.iconst 0, 1) := by decide +kernel
theorem dX7_rows_1 : decode cX7_rows 1 = .ok (.istore_n 1, 1) := by decide +kernel
theorem dX7_rows_2 : decode cX7_rows 2 = .ok (.aload_n 0, 1) := by decide +kernel
theorem dX7_rows_3 : decode cX7_rows 3 = .ok (.ldc 198, 2) := by decide +kernel
theorem dX7_rows_5 : decode cX7_rows 5 = .ok (.putfield 199, 3) := by decide +kernel
theorem dX7_rows_8 : decode cX7_rows 8 = .ok (.iconst 0, 1) := by decide +kernel
theorem dX7_rows_9 : decode cX7_rows 9 = .ok (.istore_n 2, 1) := by decide +kernel
theorem dX7_rows_10 : decode cX7_rows 10 = .ok (.aload_n 0, 1) := by decide +kernel
theorem dX7_rows_11 : decode cX7_rows 11 = .ok (.getfield 19, 3) := by decide +kernel
theorem dX7_rows_14 : decode cX7_rows 14 = .ok (.iconst 2, 1) := by decide +kernel
theorem dX7_rows_15 : decode cX7_rows 15 = .ok (.iaload, 1) := by decide +kernel
theorem dX7_rows_16 : decode cX7_rows 16 = .ok (.istore_n 3, 1) := by decide +kernel
theorem dX7_rows_17 : decode cX7_rows 17 = .ok (.aload_n 0, 1) := by decide +kernel
theorem dX7_rows_18 : decode cX7_rows 18 = .ok (.getfield 31, 3) := by decide +kernel
theorem dX7_rows_21 : decode cX7_rows 21 = .ok (.iconst 0, 1) := by decide +kernel
theorem dX7_rows_22 : decode cX7_rows 22 = .ok (.iconst (-1), 1) := by decide +kernel
theorem dX7_rows_23 : decode cX7_rows 23 = .ok (.iastore, 1) := by decide +kernel
theorem dX7_rows_24 : decode cX7_rows 24 = .ok (.iload_n 2, 1) := by decide +kernel
theorem dX7_rows_25 : decode cX7_rows 25 = .ok (.ifCond .lt 238, 3) := by decide +kernel
theorem dX7_rows_28 : decode cX7_rows 28 = .ok (.iload_n 2, 1) := by decide +kernel
theorem dX7_rows_29 : decode cX7_rows 29 = .ok (.aload_n 0, 1) := by decide +kernel
theorem dX7_rows_30 : decode cX7_rows 30 = .ok (.getfield 116, 3) := by decide +kernel
theorem dX7_rows_33 : decode cX7_rows 33 = .ok (.if_icmp .ne 88, 3) := by decide +kernel
theorem dX7_rows_36 : decode cX7_rows 36 = .ok (.iconst 0, 1) := by decide +kernel
theorem dX7_rows_37 : decode cX7_rows 37 = .ok (.istore 4, 2) := by decide +kernel
theorem dX7_rows_39 : decode cX7_rows 39 = .ok (.iload 4, 2) := by decide +kernel
theorem dX7_rows_41 : decode cX7_rows 41 = .ok (.aload_n 0, 1) := by decide +kernel
theorem dX7_rows_42 : decode cX7_rows 42 = .ok (.getfield 116, 3) := by decide +kernel
theorem dX7_rows_45 : decode cX7_rows 45 = .ok (.if_icmp .ge 27, 3) := by decide +kernel
theorem dX7_rows_48 : decode cX7_rows 48 = .ok (.iload_n 1, 1) := by decide +kernel
theorem dX7_rows_49 : decode cX7_rows 49 = .ok (.ifCond .ne 23, 3) := by decide +kernel
theorem dX7_rows_52 : decode cX7_rows 52 = .ok (.aload_n 0, 1) := by decide +kernel
theorem dX7_rows_53 : decode cX7_rows 53 = .ok (.getfield 34, 3) := by decide +kernel
theorem dX7_rows_56 : decode cX7_rows 56 = .ok (.iload 4, 2) := by decide +kernel
theorem dX7_rows_58 : decode cX7_rows 58 = .ok (.aload_n 0, 1) := by decide +kernel
theorem dX7_rows_59 : decode cX7_rows 59 = .ok (.getfield 31, 3) := by decide +kernel
theorem dX7_rows_62 : decode cX7_rows 62 = .ok (.iload 4, 2) := by decide +kernel
theorem dX7_rows_64 : decode cX7_rows 64 = .ok (.iaload, 1) := by decide +kernel
theorem dX7_rows_65 : decode cX7_rows 65 = .ok (.iastore, 1) := by decide +kernel
theorem dX7_rows_66 : decode cX7_rows 66 = .ok (.iinc 4 1, 3) := by decide +kernel
theorem dX7_rows_69 : decode cX7_rows 69 = .ok (.goto (-30), 3) := by decide +kernel
theorem dX7_rows_72 : decode cX7_rows 72 = .ok (.iinc 1 1, 3) := by decide +kernel
theorem dX7_rows_75 : decode cX7_rows 75 = .ok (.aload_n 0, 1) := by decide +kernel
theorem dX7_rows_76 : decode cX7_rows 76 = .ok (.dup, 1) := by decide +kernel
theorem dX7_rows_77 : decode cX7_rows 77 = .ok (.getfield 199, 3) := by decide +kernel
theorem dX7_rows_80 : decode cX7_rows 80 = .ok (.iload_n 3, 1) := by decide +kernel
theorem dX7_rows_81 : decode cX7_rows 81 = .ok (.aload_n 0, 1) := by decide +kernel
theorem dX7_rows_82 : decode cX7_rows 82 = .ok (.getfield 19, 3) := by decide +kernel
theorem dX7_rows_85 : decode cX7_rows 85 = .ok (.iconst 2, 1) := by decide +kernel
theorem dX7_rows_86 : decode cX7_rows 86 = .ok (.iaload, 1) := by decide +kernel
theorem dX7_rows_87 : decode cX7_rows 87 = .ok (.iconst (-1), 1) := by decide +kernel
theorem dX7_rows_88 : decode cX7_rows 88 = .ok (.ixor, 1) := by decide +kernel
theorem dX7_rows_89 : decode cX7_rows 89 = .ok (.iand, 1) := by decide +kernel
theorem dX7_rows_90 : decode cX7_rows 90 = .ok (.iand, 1) := by decide +kernel
theorem dX7_rows_91 : decode cX7_rows 91 = .ok (.putfield 199, 3) := by decide +kernel
theorem dX7_rows_94 : decode cX7_rows 94 = .ok (.iinc 2 (-1), 3) := by decide +kernel
theorem dX7_rows_97 : decode cX7_rows 97 = .ok (.iload_n 3, 1) := by decide +kernel
theorem dX7_rows_98 : decode cX7_rows 98 = .ok (.iload_n 2, 1) := by decide +kernel
theorem dX7_rows_99 : decode cX7_rows 99 = .ok (.ifCond .ge 7, 3) := by decide +kernel
theorem dX7_rows_102 : decode cX7_rows 102 = .ok (.iload_n 3, 1) := by decide +kernel
theorem dX7_rows_103 : decode cX7_rows 103 = .ok (.goto 13, 3) := by decide +kernel
theorem dX7_rows_106 : decode cX7_rows 106 = .ok (.iconst 1, 1) := by decide +kernel
theorem dX7_rows_107 : decode cX7_rows 107 = .ok (.aload_n 0, 1) := by decide +kernel
theorem dX7_rows_108 : decode cX7_rows 108 = .ok (.getfield 31, 3) := by decide +kernel
theorem dX7_rows_111 : decode cX7_rows 111 = .ok (.iload_n 2, 1) := by decide +kernel
theorem dX7_rows_112 : decode cX7_rows 112 = .ok (.iaload, 1) := by decide +kernel
theorem dX7_rows_113 : decode cX7_rows 113 = .ok (.ishl, 1) := by decide +kernel
theorem dX7_rows_114 : decode cX7_rows 114 = .ok (.iconst (-1), 1) := by decide +kernel
theorem dX7_rows_115 : decode cX7_rows 115 = .ok (.ixor, 1) := by decide +kernel
theorem dX7_rows_116 : decode cX7_rows 116 = .ok (.iand, 1) := by decide +kernel
theorem dX7_rows_117 : decode cX7_rows 117 = .ok (.istore_n 3, 1) := by decide +kernel
theorem dX7_rows_118 : decode cX7_rows 118 = .ok (.goto (-94), 3) := by decide +kernel
theorem dX7_rows_121 : decode cX7_rows 121 = .ok (.aload_n 0, 1) := by decide +kernel
theorem dX7_rows_122 : decode cX7_rows 122 = .ok (.getfield 31, 3) := by decide +kernel
theorem dX7_rows_125 : decode cX7_rows 125 = .ok (.iload_n 2, 1) := by decide +kernel
theorem dX7_rows_126 : decode cX7_rows 126 = .ok (.dup2, 1) := by decide +kernel
theorem dX7_rows_127 : decode cX7_rows 127 = .ok (.iaload, 1) := by decide +kernel
theorem dX7_rows_128 : decode cX7_rows 128 = .ok (.iconst 1, 1) := by decide +kernel
theorem dX7_rows_129 : decode cX7_rows 129 = .ok (.iadd, 1) := by decide +kernel
theorem dX7_rows_130 : decode cX7_rows 130 = .ok (.iastore, 1) := by decide +kernel
theorem dX7_rows_131 : decode cX7_rows 131 = .ok (.aload_n 0, 1) := by decide +kernel
theorem dX7_rows_132 : decode cX7_rows 132 = .ok (.getfield 31, 3) := by decide +kernel
theorem dX7_rows_135 : decode cX7_rows 135 = .ok (.iload_n 2, 1) := by decide +kernel
theorem dX7_rows_136 : decode cX7_rows 136 = .ok (.iaload, 1) := by decide +kernel
theorem dX7_rows_137 : decode cX7_rows 137 = .ok (.aload_n 0, 1) := by decide +kernel
theorem dX7_rows_138 : decode cX7_rows 138 = .ok (.invokevirtual 135, 3) := by decide +kernel
theorem dX7_rows_141 : decode cX7_rows 141 = .ok (.if_icmp .ge 53, 3) := by decide +kernel
theorem dX7_rows_144 : decode cX7_rows 144 = .ok (.aload_n 0, 1) := by decide +kernel
theorem dX7_rows_145 : decode cX7_rows 145 = .ok (.getfield 16, 3) := by decide +kernel
theorem dX7_rows_148 : decode cX7_rows 148 = .ok (.bipush 6, 2) := by decide +kernel
theorem dX7_rows_150 : decode cX7_rows 150 = .ok (.aload_n 0, 1) := by decide +kernel
theorem dX7_rows_151 : decode cX7_rows 151 = .ok (.getfield 31, 3) := by decide +kernel
theorem dX7_rows_154 : decode cX7_rows 154 = .ok (.iload_n 2, 1) := by decide +kernel
theorem dX7_rows_155 : decode cX7_rows 155 = .ok (.iaload, 1) := by decide +kernel
theorem dX7_rows_156 : decode cX7_rows 156 = .ok (.iadd, 1) := by decide +kernel
theorem dX7_rows_157 : decode cX7_rows 157 = .ok (.iaload, 1) := by decide +kernel
theorem dX7_rows_158 : decode cX7_rows 158 = .ok (.aload_n 0, 1) := by decide +kernel
theorem dX7_rows_159 : decode cX7_rows 159 = .ok (.getfield 28, 3) := by decide +kernel
theorem dX7_rows_162 : decode cX7_rows 162 = .ok (.iload_n 2, 1) := by decide +kernel
theorem dX7_rows_163 : decode cX7_rows 163 = .ok (.iaload, 1) := by decide +kernel
theorem dX7_rows_164 : decode cX7_rows 164 = .ok (.if_icmp .ne 17, 3) := by decide +kernel
theorem dX7_rows_167 : decode cX7_rows 167 = .ok (.aload_n 0, 1) := by decide +kernel
theorem dX7_rows_168 : decode cX7_rows 168 = .ok (.aload_n 0, 1) := by decide +kernel
theorem dX7_rows_169 : decode cX7_rows 169 = .ok (.getfield 31, 3) := by decide +kernel
theorem dX7_rows_172 : decode cX7_rows 172 = .ok (.iload_n 2, 1) := by decide +kernel
theorem dX7_rows_173 : decode cX7_rows 173 = .ok (.iaload, 1) := by decide +kernel
theorem dX7_rows_174 : decode cX7_rows 174 = .ok (.iload_n 3, 1) := by decide +kernel
theorem dX7_rows_175 : decode cX7_rows 175 = .ok (.invokevirtual 144, 3) := by decide +kernel
theorem dX7_rows_178 : decode cX7_rows 178 = .ok (.ifCond .ne 16, 3) := by decide +kernel
theorem dX7_rows_181 : decode cX7_rows 181 = .ok (.aload_n 0, 1) := by decide +kernel
theorem dX7_rows_182 : decode cX7_rows 182 = .ok (.getfield 31, 3) := by decide +kernel
theorem dX7_rows_185 : decode cX7_rows 185 = .ok (.iload_n 2, 1) := by decide +kernel
theorem dX7_rows_186 : decode cX7_rows 186 = .ok (.dup2, 1) := by decide +kernel
theorem dX7_rows_187 : decode cX7_rows 187 = .ok (.iaload, 1) := by decide +kernel
theorem dX7_rows_188 : decode cX7_rows 188 = .ok (.iconst 1, 1) := by decide +kernel
theorem dX7_rows_189 : decode cX7_rows 189 = .ok (.iadd, 1) := by decide +kernel
theorem dX7_rows_190 : decode cX7_rows 190 = .ok (.iastore, 1) := by decide +kernel
theorem dX7_rows_191 : decode cX7_rows 191 = .ok (.goto (-60), 3) := by decide +kernel
theorem dX7_rows_194 : decode cX7_rows 194 = .ok (.aload_n 0, 1) := by decide +kernel
theorem dX7_rows_195 : decode cX7_rows 195 = .ok (.getfield 31, 3) := by decide +kernel
theorem dX7_rows_198 : decode cX7_rows 198 = .ok (.iload_n 2, 1) := by decide +kernel
theorem dX7_rows_199 : decode cX7_rows 199 = .ok (.iaload, 1) := by decide +kernel
theorem dX7_rows_200 : decode cX7_rows 200 = .ok (.aload_n 0, 1) := by decide +kernel
theorem dX7_rows_201 : decode cX7_rows 201 = .ok (.invokevirtual 135, 3) := by decide +kernel
theorem dX7_rows_204 : decode cX7_rows 204 = .ok (.if_icmp .ge 32, 3) := by decide +kernel
theorem dX7_rows_207 : decode cX7_rows 207 = .ok (.iload_n 3, 1) := by decide +kernel
theorem dX7_rows_208 : decode cX7_rows 208 = .ok (.iconst 1, 1) := by decide +kernel
theorem dX7_rows_209 : decode cX7_rows 209 = .ok (.aload_n 0, 1) := by decide +kernel
theorem dX7_rows_210 : decode cX7_rows 210 = .ok (.getfield 31, 3) := by decide +kernel
theorem dX7_rows_213 : decode cX7_rows 213 = .ok (.iload_n 2, 1) := by decide +kernel
theorem dX7_rows_214 : decode cX7_rows 214 = .ok (.iaload, 1) := by decide +kernel
theorem dX7_rows_215 : decode cX7_rows 215 = .ok (.ishl, 1) := by decide +kernel
theorem dX7_rows_216 : decode cX7_rows 216 = .ok (.ior, 1) := by decide +kernel
theorem dX7_rows_217 : decode cX7_rows 217 = .ok (.istore_n 3, 1) := by decide +kernel
theorem dX7_rows_218 : decode cX7_rows 218 = .ok (.iinc 2 1, 3) := by decide +kernel
theorem dX7_rows_221 : decode cX7_rows 221 = .ok (.iload_n 2, 1) := by decide +kernel
theorem dX7_rows_222 : decode cX7_rows 222 = .ok (.iconst 5, 1) := by decide +kernel
theorem dX7_rows_223 : decode cX7_rows 223 = .ok (.if_icmp .ge (-199), 3) := by decide +kernel
theorem dX7_rows_226 : decode cX7_rows 226 = .ok (.aload_n 0, 1) := by decide +kernel
theorem dX7_rows_227 : decode cX7_rows 227 = .ok (.getfield 31, 3) := by decide +kernel
theorem dX7_rows_230 : decode cX7_rows 230 = .ok (.iload_n 2, 1) := by decide +kernel
theorem dX7_rows_231 : decode cX7_rows 231 = .ok (.iconst (-1), 1) := by decide +kernel
theorem dX7_rows_232 : decode cX7_rows 232 = .ok (.iastore, 1) := by decide +kernel
theorem dX7_rows_233 : decode cX7_rows 233 = .ok (.goto (-209), 3) := by decide +kernel
theorem dX7_rows_236 : decode cX7_rows 236 = .ok (.iinc 2 (-1), 3) := by decide +kernel
theorem dX7_rows_239 : decode cX7_rows 239 = .ok (.iload_n 3, 1) := by decide +kernel
theorem dX7_rows_240 : decode cX7_rows 240 = .ok (.iload_n 2, 1) := by decide +kernel
theorem dX7_rows_241 : decode cX7_rows 241 = .ok (.ifCond .ge 7, 3) := by decide +kernel
theorem dX7_rows_244 : decode cX7_rows 244 = .ok (.iload_n 3, 1) := by decide +kernel
theorem dX7_rows_245 : decode cX7_rows 245 = .ok (.goto 13, 3) := by decide +kernel
theorem dX7_rows_248 : decode cX7_rows 248 = .ok (.iconst 1, 1) := by decide +kernel
theorem dX7_rows_249 : decode cX7_rows 249 = .ok (.aload_n 0, 1) := by decide +kernel
theorem dX7_rows_250 : decode cX7_rows 250 = .ok (.getfield 31, 3) := by decide +kernel
theorem dX7_rows_253 : decode cX7_rows 253 = .ok (.iload_n 2, 1) := by decide +kernel
theorem dX7_rows_254 : decode cX7_rows 254 = .ok (.iaload, 1) := by decide +kernel
theorem dX7_rows_255 : decode cX7_rows 255 = .ok (.ishl, 1) := by decide +kernel
theorem dX7_rows_256 : decode cX7_rows 256 = .ok (.iconst (-1), 1) := by decide +kernel
theorem dX7_rows_257 : decode cX7_rows 257 = .ok (.ixor, 1) := by decide +kernel
theorem dX7_rows_258 : decode cX7_rows 258 = .ok (.iand, 1) := by decide +kernel
theorem dX7_rows_259 : decode cX7_rows 259 = .ok (.istore_n 3, 1) := by decide +kernel
theorem dX7_rows_260 : decode cX7_rows 260 = .ok (.goto (-236), 3) := by decide +kernel
theorem dX7_rows_263 : decode cX7_rows 263 = .ok (.iload_n 1, 1) := by decide +kernel
theorem dX7_rows_264 : decode cX7_rows 264 = .ok (.ireturn, 1) := by decide +kernel
set_option maxRecDepth 20000 in
theorem ggX7_fits_X7_in : GoodIn wsX7_fits wsX7_in := goodIn_r _ [10] (by decide +kernel) (by decide +kernel)
set_option maxRecDepth 20000 in
theorem gX7_fits_X7_in : GoodIn wsX7_fits (va_wsS RX7 48 yX7_in wsX7_in) := goodIn_app (goodIn_of _ (by decide +kernel)) ggX7_fits_X7_in
set_option maxRecDepth 20000 in
theorem ggX7_fits_X7_rows : GoodIn wsX7_fits wsX7_rows := goodIn_r _ [14, 15, 3, 16, 17, 4, 5, 6, 18, 19, 20, 21, 9, 22, 23, 24, 25, 26, 27, 28, 29, 30, 31, 32, 33, 34, 35, 36, 37, 38, 39, 40, 41, 42, 43, 44, 45] (by decide +kernel) (by decide +kernel)
set_option maxRecDepth 20000 in
theorem gX7_fits_X7_rows : GoodIn wsX7_fits (wsV RX7 204 RX7 yX7_rows wsX7_rows) := goodIn_app (goodIn_of _ (by decide +kernel)) ggX7_fits_X7_rows
theorem dX7_fits_0 : decode cX7_fits 0 = .ok (.iload_n 1, 1) := by decide +kernel
theorem dX7_fits_1 : decode cX7_fits 1 = .ok (.i2l, 1) := by decide +kernel
theorem dX7_fits_2 : decode cX7_fits 2 = .ok (.ldc2_w 202, 3) := by decide +kernel
theorem dX7_fits_5 : decode cX7_fits 5 = .ok (.ldc2_w 150, 3) := by decide +kernel
theorem dX7_fits_8 : decode cX7_fits 8 = .ok (.invokestatic 48, 3) := by decide +kernel
theorem dX7_fits_11 : decode cX7_fits 11 = .ok (.ifCond .ne 5, 3) := by decide +kernel
theorem dX7_fits_14 : decode cX7_fits 14 = .ok (.iconst (-1), 1) := by decide +kernel
theorem dX7_fits_15 : decode cX7_fits 15 = .ok (.ireturn, 1) := by decide +kernel
theorem dX7_fits_16 : decode cX7_fits 16 = .ok (.aload_n 0, 1) := by decide +kernel
theorem dX7_fits_17 : decode cX7_fits 17 = .ok (.invokevirtual 204, 3) := by decide +kernel
theorem dX7_fits_20 : decode cX7_fits 20 = .ok (.istore_n 2, 1) := by decide +kernel
theorem dX7_fits_21 : decode cX7_fits 21 = .ok (.iload_n 1, 1) := by decide +kernel
theorem dX7_fits_22 : decode cX7_fits 22 = .ok (.ifCond .ge 25, 3) := by decide +kernel
theorem dX7_fits_25 : decode cX7_fits 25 = .ok (.iload_n 1, 1) := by decide +kernel
theorem dX7_fits_26 : decode cX7_fits 26 = .ok (.iconst (-1), 1) := by decide +kernel
theorem dX7_fits_27 : decode cX7_fits 27 = .ok (.if_icmp .ne 7, 3) := by decide +kernel
theorem dX7_fits_30 : decode cX7_fits 30 = .ok (.iload_n 2, 1) := by decide +kernel
theorem dX7_fits_31 : decode cX7_fits 31 = .ok (.goto 15, 3) := by decide +kernel
theorem dX7_fits_34 : decode cX7_fits 34 = .ok (.iload_n 2, 1) := by decide +kernel
theorem dX7_fits_35 : decode cX7_fits 35 = .ok (.ifCond .ne 7, 3) := by decide +kernel
theorem dX7_fits_38 : decode cX7_fits 38 = .ok (.iconst 0, 1) := by decide +kernel
theorem dX7_fits_39 : decode cX7_fits 39 = .ok (.goto 7, 3) := by decide +kernel
theorem dX7_fits_42 : decode cX7_fits 42 = .ok (.aload_n 0, 1) := by decide +kernel
theorem dX7_fits_43 : decode cX7_fits 43 = .ok (.getfield 199, 3) := by decide +kernel
theorem dX7_fits_46 : decode cX7_fits 46 = .ok (.ireturn, 1) := by decide +kernel
theorem dX7_fits_47 : decode cX7_fits 47 = .ok (.iload_n 2, 1) := by decide +kernel
theorem dX7_fits_48 : decode cX7_fits 48 = .ok (.ifCond .eq 11, 3) := by decide +kernel
theorem dX7_fits_51 : decode cX7_fits 51 = .ok (.iload_n 1, 1) := by decide +kernel
theorem dX7_fits_52 : decode cX7_fits 52 = .ok (.aload_n 0, 1) := by decide +kernel
theorem dX7_fits_53 : decode cX7_fits 53 = .ok (.getfield 116, 3) := by decide +kernel
theorem dX7_fits_56 : decode cX7_fits 56 = .ok (.if_icmp .lt 6, 3) := by decide +kernel
theorem dX7_fits_59 : decode cX7_fits 59 = .ok (.bipush (-9), 2) := by decide +kernel
theorem dX7_fits_61 : decode cX7_fits 61 = .ok (.ireturn, 1) := by decide +kernel
theorem dX7_fits_62 : decode cX7_fits 62 = .ok (.bipush 10, 2) := by decide +kernel
theorem dX7_fits_64 : decode cX7_fits 64 = .ok (.aload_n 0, 1) := by decide +kernel
theorem dX7_fits_65 : decode cX7_fits 65 = .ok (.getfield 34, 3) := by decide +kernel
theorem dX7_fits_68 : decode cX7_fits 68 = .ok (.iload_n 1, 1) := by decide +kernel
theorem dX7_fits_69 : decode cX7_fits 69 = .ok (.iaload, 1) := by decide +kernel
theorem dX7_fits_70 : decode cX7_fits 70 = .ok (.aload_n 0, 1) := by decide +kernel
theorem dX7_fits_71 : decode cX7_fits 71 = .ok (.getfield 16, 3) := by decide +kernel
theorem dX7_fits_74 : decode cX7_fits 74 = .ok (.iconst 0, 1) := by decide +kernel
theorem dX7_fits_75 : decode cX7_fits 75 = .ok (.iaload, 1) := by decide +kernel
theorem dX7_fits_76 : decode cX7_fits 76 = .ok (.irem, 1) := by decide +kernel
theorem dX7_fits_77 : decode cX7_fits 77 = .ok (.imul, 1) := by decide +kernel
theorem dX7_fits_78 : decode cX7_fits 78 = .ok (.aload_n 0, 1) := by decide +kernel
theorem dX7_fits_79 : decode cX7_fits 79 = .ok (.getfield 34, 3) := by decide +kernel
theorem dX7_fits_82 : decode cX7_fits 82 = .ok (.iload_n 1, 1) := by decide +kernel
theorem dX7_fits_83 : decode cX7_fits 83 = .ok (.iaload, 1) := by decide +kernel
theorem dX7_fits_84 : decode cX7_fits 84 = .ok (.aload_n 0, 1) := by decide +kernel
theorem dX7_fits_85 : decode cX7_fits 85 = .ok (.getfield 16, 3) := by decide +kernel
theorem dX7_fits_88 : decode cX7_fits 88 = .ok (.iconst 0, 1) := by decide +kernel
theorem dX7_fits_89 : decode cX7_fits 89 = .ok (.iaload, 1) := by decide +kernel
theorem dX7_fits_90 : decode cX7_fits 90 = .ok (.idiv, 1) := by decide +kernel
theorem dX7_fits_91 : decode cX7_fits 91 = .ok (.iadd, 1) := by decide +kernel
theorem dX7_fits_92 : decode cX7_fits 92 = .ok (.ireturn, 1) := by decide +kernel
set_option maxRecDepth 20000 in
theorem ggX7_mark_X7_in : GoodIn wsX7_mark wsX7_in := goodIn_r _ [14] (by decide +kernel) (by decide +kernel)
set_option maxRecDepth 20000 in
theorem gX7_mark_X7_in : GoodIn wsX7_mark (va_wsS RX7 48 yX7_in wsX7_in) := goodIn_app (goodIn_of _ (by decide +kernel)) ggX7_mark_X7_in
set_option maxRecDepth 20000 in
theorem ggX7_mark_X7_isThing : GoodIn wsX7_mark wsX7_isThing := goodIn_r _ [18, 9, 11, 12, 13, 14, 31, 32, 33, 34, 35, 36, 37, 38, 39, 40, 41, 42, 43, 44, 45, 46, 47, 48, 49] (by decide +kernel) (by decide +kernel)
set_option maxRecDepth 20000 in
theorem gX7_mark_X7_isThing : GoodIn wsX7_mark (wsV RX7 147 RX7 yX7_isThing wsX7_isThing) := goodIn_app (goodIn_of _ (by decide +kernel)) ggX7_mark_X7_isThing
set_option maxRecDepth 20000 in
theorem ggX7_mark_X7_yellow : GoodIn wsX7_mark wsX7_yellow := goodIn_r _ [22, 10, 31, 32, 33, 34, 35, 36, 37, 38, 39, 40, 41, 42, 43, 44, 45, 46, 47, 48, 49] (by decide +kernel) (by decide +kernel)
set_option maxRecDepth 20000 in
theorem gX7_mark_X7_yellow : GoodIn wsX7_mark (wsV RX7 122 RX7 yX7_yellow wsX7_yellow) := goodIn_app (goodIn_of _ (by decide +kernel)) ggX7_mark_X7_yellow
set_option maxRecDepth 20000 in
theorem ggX7_mark_X7_worth : GoodIn wsX7_mark wsX7_worth := goodIn_r _ [26, 9, 31, 32, 33, 34, 35, 36, 37, 38, 39, 40, 41, 42, 43, 44, 45, 46, 47, 48, 49] (by decide +kernel) (by decide +kernel)
set_option maxRecDepth 20000 in
theorem gX7_mark_X7_worth : GoodIn wsX7_mark (wsV RX7 152 RX7 yX7_worth wsX7_worth) := goodIn_app (goodIn_of _ (by decide +kernel)) ggX7_mark_X7_worth
set_option maxRecDepth 20000 in
theorem ggX7_mark_X7_white : GoodIn wsX7_mark wsX7_white := goodIn_r _ [30, 10, 31, 32, 33, 34, 35, 36, 37, 38, 39, 40, 41, 42, 43, 44, 45, 46, 47, 48, 49] (by decide +kernel) (by decide +kernel)
set_option maxRecDepth 20000 in
theorem gX7_mark_X7_white : GoodIn wsX7_mark (wsV RX7 129 RX7 yX7_white wsX7_white) := goodIn_app (goodIn_of _ (by decide +kernel)) ggX7_mark_X7_white
theorem dX7_mark_0 : decode cX7_mark 0 = .ok (.iload_n 1, 1) := by decide +kernel
theorem dX7_mark_1 : decode cX7_mark 1 = .ok (.i2l, 1) := by decide +kernel
theorem dX7_mark_2 : decode cX7_mark 2 = .ok (.lconst 0, 1) := by decide +kernel
theorem dX7_mark_3 : decode cX7_mark 3 = .ok (.ldc2_w 207, 3) := by decide +kernel
theorem dX7_mark_6 : decode cX7_mark 6 = .ok (.invokestatic 48, 3) := by decide +kernel
theorem dX7_mark_9 : decode cX7_mark 9 = .ok (.ifCond .eq 11, 3) := by decide +kernel
theorem dX7_mark_12 : decode cX7_mark 12 = .ok (.aload_n 0, 1) := by decide +kernel
theorem dX7_mark_13 : decode cX7_mark 13 = .ok (.iload_n 2, 1) := by decide +kernel
theorem dX7_mark_14 : decode cX7_mark 14 = .ok (.invokevirtual 147, 3) := by decide +kernel
theorem dX7_mark_17 : decode cX7_mark 17 = .ok (.ifCond .ne 6, 3) := by decide +kernel
theorem dX7_mark_20 : decode cX7_mark 20 = .ok (.ldc 209, 2) := by decide +kernel
theorem dX7_mark_22 : decode cX7_mark 22 = .ok (.ireturn, 1) := by decide +kernel
theorem dX7_mark_23 : decode cX7_mark 23 = .ok (.aload_n 0, 1) := by decide +kernel
theorem dX7_mark_24 : decode cX7_mark 24 = .ok (.dup, 1) := by decide +kernel
theorem dX7_mark_25 : decode cX7_mark 25 = .ok (.getfield 210, 3) := by decide +kernel
theorem dX7_mark_28 : decode cX7_mark 28 = .ok (.iload_n 1, 1) := by decide +kernel
theorem dX7_mark_29 : decode cX7_mark 29 = .ok (.ifCond .ne 7, 3) := by decide +kernel
theorem dX7_mark_32 : decode cX7_mark 32 = .ok (.lconst 1, 1) := by decide +kernel
theorem dX7_mark_33 : decode cX7_mark 33 = .ok (.goto 50, 3) := by decide +kernel
theorem dX7_mark_36 : decode cX7_mark 36 = .ok (.iload_n 1, 1) := by decide +kernel
theorem dX7_mark_37 : decode cX7_mark 37 = .ok (.iconst 1, 1) := by decide +kernel
theorem dX7_mark_38 : decode cX7_mark 38 = .ok (.if_icmp .ne 9, 3) := by decide +kernel
theorem dX7_mark_41 : decode cX7_mark 41 = .ok (.ldc2_w 214, 3) := by decide +kernel
theorem dX7_mark_44 : decode cX7_mark 44 = .ok (.goto 39, 3) := by decide +kernel
theorem dX7_mark_47 : decode cX7_mark 47 = .ok (.iload_n 1, 1) := by decide +kernel
theorem dX7_mark_48 : decode cX7_mark 48 = .ok (.iconst 2, 1) := by decide +kernel
theorem dX7_mark_49 : decode cX7_mark 49 = .ok (.if_icmp .ne 9, 3) := by decide +kernel
theorem dX7_mark_52 : decode cX7_mark 52 = .ok (.ldc2_w 216, 3) := by decide +kernel
theorem dX7_mark_55 : decode cX7_mark 55 = .ok (.goto 28, 3) := by decide +kernel
theorem dX7_mark_58 : decode cX7_mark 58 = .ok (.iload_n 1, 1) := by decide +kernel
theorem dX7_mark_59 : decode cX7_mark 59 = .ok (.iconst 3, 1) := by decide +kernel
theorem dX7_mark_60 : decode cX7_mark 60 = .ok (.if_icmp .ne 9, 3) := by decide +kernel
theorem dX7_mark_63 : decode cX7_mark 63 = .ok (.ldc2_w 218, 3) := by decide +kernel
theorem dX7_mark_66 : decode cX7_mark 66 = .ok (.goto 17, 3) := by decide +kernel
theorem dX7_mark_69 : decode cX7_mark 69 = .ok (.iload_n 1, 1) := by decide +kernel
theorem dX7_mark_70 : decode cX7_mark 70 = .ok (.iconst 4, 1) := by decide +kernel
theorem dX7_mark_71 : decode cX7_mark 71 = .ok (.if_icmp .ne 9, 3) := by decide +kernel
theorem dX7_mark_74 : decode cX7_mark 74 = .ok (.ldc2_w 220, 3) := by decide +kernel
theorem dX7_mark_77 : decode cX7_mark 77 = .ok (.goto 6, 3) := by decide +kernel
theorem dX7_mark_80 : decode cX7_mark 80 = .ok (.ldc2_w 222, 3) := by decide +kernel
theorem dX7_mark_83 : decode cX7_mark 83 = .ok (.ladd, 1) := by decide +kernel
theorem dX7_mark_84 : decode cX7_mark 84 = .ok (.putfield 210, 3) := by decide +kernel
theorem dX7_mark_87 : decode cX7_mark 87 = .ok (.iload_n 1, 1) := by decide +kernel
theorem dX7_mark_88 : decode cX7_mark 88 = .ok (.tableswitch 99 0 4 #[36, 42, 54, 66, 80], 36) := by decide +kernel
theorem dX7_mark_124 : decode cX7_mark 124 = .ok (.aload_n 0, 1) := by decide +kernel
theorem dX7_mark_125 : decode cX7_mark 125 = .ok (.iload_n 2, 1) := by decide +kernel
theorem dX7_mark_126 : decode cX7_mark 126 = .ok (.invokevirtual 122, 3) := by decide +kernel
theorem dX7_mark_129 : decode cX7_mark 129 = .ok (.ireturn, 1) := by decide +kernel
theorem dX7_mark_130 : decode cX7_mark 130 = .ok (.aload_n 0, 1) := by decide +kernel
theorem dX7_mark_131 : decode cX7_mark 131 = .ok (.iload_n 2, 1) := by decide +kernel
theorem dX7_mark_132 : decode cX7_mark 132 = .ok (.invokevirtual 122, 3) := by decide +kernel
theorem dX7_mark_135 : decode cX7_mark 135 = .ok (.aload_n 0, 1) := by decide +kernel
theorem dX7_mark_136 : decode cX7_mark 136 = .ok (.iload_n 2, 1) := by decide +kernel
theorem dX7_mark_137 : decode cX7_mark 137 = .ok (.invokevirtual 152, 3) := by decide +kernel
theorem dX7_mark_140 : decode cX7_mark 140 = .ok (.iadd, 1) := by decide +kernel
theorem dX7_mark_141 : decode cX7_mark 141 = .ok (.ireturn, 1) := by decide +kernel
theorem dX7_mark_142 : decode cX7_mark 142 = .ok (.aload_n 0, 1) := by decide +kernel
theorem dX7_mark_143 : decode cX7_mark 143 = .ok (.iload_n 2, 1) := by decide +kernel
theorem dX7_mark_144 : decode cX7_mark 144 = .ok (.invokevirtual 122, 3) := by decide +kernel
theorem dX7_mark_147 : decode cX7_mark 147 = .ok (.aload_n 0, 1) := by decide +kernel
theorem dX7_mark_148 : decode cX7_mark 148 = .ok (.iload_n 2, 1) := by decide +kernel
theorem dX7_mark_149 : decode cX7_mark 149 = .ok (.invokevirtual 129, 3) := by decide +kernel
theorem dX7_mark_152 : decode cX7_mark 152 = .ok (.isub, 1) := by decide +kernel
theorem dX7_mark_153 : decode cX7_mark 153 = .ok (.ireturn, 1) := by decide +kernel
theorem dX7_mark_154 : decode cX7_mark 154 = .ok (.iconst 2, 1) := by decide +kernel
theorem dX7_mark_155 : decode cX7_mark 155 = .ok (.aload_n 0, 1) := by decide +kernel
theorem dX7_mark_156 : decode cX7_mark 156 = .ok (.iload_n 2, 1) := by decide +kernel
theorem dX7_mark_157 : decode cX7_mark 157 = .ok (.invokevirtual 122, 3) := by decide +kernel
theorem dX7_mark_160 : decode cX7_mark 160 = .ok (.aload_n 0, 1) := by decide +kernel
theorem dX7_mark_161 : decode cX7_mark 161 = .ok (.iload_n 2, 1) := by decide +kernel
theorem dX7_mark_162 : decode cX7_mark 162 = .ok (.invokevirtual 152, 3) := by decide +kernel
theorem dX7_mark_165 : decode cX7_mark 165 = .ok (.iadd, 1) := by decide +kernel
theorem dX7_mark_166 : decode cX7_mark 166 = .ok (.imul, 1) := by decide +kernel
theorem dX7_mark_167 : decode cX7_mark 167 = .ok (.ireturn, 1) := by decide +kernel
theorem dX7_mark_168 : decode cX7_mark 168 = .ok (.aload_n 0, 1) := by decide +kernel
theorem dX7_mark_169 : decode cX7_mark 169 = .ok (.iload_n 2, 1) := by decide +kernel
theorem dX7_mark_170 : decode cX7_mark 170 = .ok (.invokevirtual 122, 3) := by decide +kernel
theorem dX7_mark_173 : decode cX7_mark 173 = .ok (.aload_n 0, 1) := by decide +kernel
theorem dX7_mark_174 : decode cX7_mark 174 = .ok (.iload_n 2, 1) := by decide +kernel
theorem dX7_mark_175 : decode cX7_mark 175 = .ok (.invokevirtual 129, 3) := by decide +kernel
theorem dX7_mark_178 : decode cX7_mark 178 = .ok (.isub, 1) := by decide +kernel
theorem dX7_mark_179 : decode cX7_mark 179 = .ok (.aload_n 0, 1) := by decide +kernel
theorem dX7_mark_180 : decode cX7_mark 180 = .ok (.getfield 16, 3) := by decide +kernel
theorem dX7_mark_183 : decode cX7_mark 183 = .ok (.iconst 3, 1) := by decide +kernel
theorem dX7_mark_184 : decode cX7_mark 184 = .ok (.iaload, 1) := by decide +kernel
theorem dX7_mark_185 : decode cX7_mark 185 = .ok (.iadd, 1) := by decide +kernel
theorem dX7_mark_186 : decode cX7_mark 186 = .ok (.ireturn, 1) := by decide +kernel
theorem dX7_mark_187 : decode cX7_mark 187 = .ok (.aload_n 0, 1) := by decide +kernel
theorem dX7_mark_188 : decode cX7_mark 188 = .ok (.iload_n 2, 1) := by decide +kernel
theorem dX7_mark_189 : decode cX7_mark 189 = .ok (.invokevirtual 122, 3) := by decide +kernel
theorem dX7_mark_192 : decode cX7_mark 192 = .ok (.aload_n 0, 1) := by decide +kernel
theorem dX7_mark_193 : decode cX7_mark 193 = .ok (.getfield 19, 3) := by decide +kernel
theorem dX7_mark_196 : decode cX7_mark 196 = .ok (.iconst 0, 1) := by decide +kernel
theorem dX7_mark_197 : decode cX7_mark 197 = .ok (.iaload, 1) := by decide +kernel
theorem dX7_mark_198 : decode cX7_mark 198 = .ok (.iadd, 1) := by decide +kernel
theorem dX7_mark_199 : decode cX7_mark 199 = .ok (.ireturn, 1) := by decide +kernel
theorem dX7_trace_0 : decode cX7_trace 0 = .ok (.aload_n 0, 1) := by decide +kernel
theorem dX7_trace_1 : decode cX7_trace 1 = .ok (.getfield 210, 3) := by decide +kernel
theorem dX7_trace_4 : decode cX7_trace 4 = .ok (.lreturn, 1) := by decide +kernel
set_option maxRecDepth 20000 in
theorem ggX7_keep_X7_in : GoodIn wsX7_keep wsX7_in := goodIn_r _ [8] (by decide +kernel) (by decide +kernel)
set_option maxRecDepth 20000 in
theorem gX7_keep_X7_in : GoodIn wsX7_keep (va_wsS RX7 48 yX7_in wsX7_in) := goodIn_app (goodIn_of _ (by decide +kernel)) ggX7_keep_X7_in
theorem dX7_keep_0 : decode cX7_keep 0 = .ok (.iload_n 1, 1) := by decide +kernel
theorem dX7_keep_1 : decode cX7_keep 1 = .ok (.i2l, 1) := by decide +kernel
theorem dX7_keep_2 : decode cX7_keep 2 = .ok (.lconst 0, 1) := by decide +kernel
theorem dX7_keep_3 : decode cX7_keep 3 = .ok (.lconst 1, 1) := by decide +kernel
theorem dX7_keep_4 : decode cX7_keep 4 = .ok (.invokestatic 48, 3) := by decide +kernel
theorem dX7_keep_7 : decode cX7_keep 7 = .ok (.ifCond .ne 5, 3) := by decide +kernel
theorem dX7_keep_10 : decode cX7_keep 10 = .ok (.iconst (-1), 1) := by decide +kernel
theorem dX7_keep_11 : decode cX7_keep 11 = .ok (.ireturn, 1) := by decide +kernel
theorem dX7_keep_12 : decode cX7_keep 12 = .ok (.sipush 167, 3) := by decide +kernel
theorem dX7_keep_15 : decode cX7_keep 15 = .ok (.iload_n 1, 1) := by decide +kernel
theorem dX7_keep_16 : decode cX7_keep 16 = .ok (.imul, 1) := by decide +kernel
theorem dX7_keep_17 : decode cX7_keep 17 = .ok (.istore_n 2, 1) := by decide +kernel
theorem dX7_keep_18 : decode cX7_keep 18 = .ok (.aload_n 0, 1) := by decide +kernel
theorem dX7_keep_19 : decode cX7_keep 19 = .ok (.getfield 37, 3) := by decide +kernel
theorem dX7_keep_22 : decode cX7_keep 22 = .ok (.iload_n 2, 1) := by decide +kernel
theorem dX7_keep_23 : decode cX7_keep 23 = .ok (.iconst 1, 1) := by decide +kernel
theorem dX7_keep_24 : decode cX7_keep 24 = .ok (.iastore, 1) := by decide +kernel
theorem dX7_keep_25 : decode cX7_keep 25 = .ok (.aload_n 0, 1) := by decide +kernel
theorem dX7_keep_26 : decode cX7_keep 26 = .ok (.getfield 37, 3) := by decide +kernel
theorem dX7_keep_29 : decode cX7_keep 29 = .ok (.iload_n 2, 1) := by decide +kernel
theorem dX7_keep_30 : decode cX7_keep 30 = .ok (.iconst 1, 1) := by decide +kernel
theorem dX7_keep_31 : decode cX7_keep 31 = .ok (.iadd, 1) := by decide +kernel
theorem dX7_keep_32 : decode cX7_keep 32 = .ok (.aload_n 0, 1) := by decide +kernel
theorem dX7_keep_33 : decode cX7_keep 33 = .ok (.getfield 119, 3) := by decide +kernel
theorem dX7_keep_36 : decode cX7_keep 36 = .ok (.iastore, 1) := by decide +kernel
theorem dX7_keep_37 : decode cX7_keep 37 = .ok (.iconst 0, 1) := by decide +kernel
theorem dX7_keep_38 : decode cX7_keep 38 = .ok (.istore_n 3, 1) := by decide +kernel
theorem dX7_keep_39 : decode cX7_keep 39 = .ok (.iload_n 3, 1) := by decide +kernel
theorem dX7_keep_40 : decode cX7_keep 40 = .ok (.bipush 15, 2) := by decide +kernel
theorem dX7_keep_42 : decode cX7_keep 42 = .ok (.if_icmp .ge 25, 3) := by decide +kernel
theorem dX7_keep_45 : decode cX7_keep 45 = .ok (.aload_n 0, 1) := by decide +kernel
theorem dX7_keep_46 : decode cX7_keep 46 = .ok (.getfield 37, 3) := by decide +kernel
theorem dX7_keep_49 : decode cX7_keep 49 = .ok (.iload_n 2, 1) := by decide +kernel
theorem dX7_keep_50 : decode cX7_keep 50 = .ok (.iconst 2, 1) := by decide +kernel
theorem dX7_keep_51 : decode cX7_keep 51 = .ok (.iadd, 1) := by decide +kernel
theorem dX7_keep_52 : decode cX7_keep 52 = .ok (.iload_n 3, 1) := by decide +kernel
theorem dX7_keep_53 : decode cX7_keep 53 = .ok (.iadd, 1) := by decide +kernel
theorem dX7_keep_54 : decode cX7_keep 54 = .ok (.aload_n 0, 1) := by decide +kernel
theorem dX7_keep_55 : decode cX7_keep 55 = .ok (.getfield 19, 3) := by decide +kernel
theorem dX7_keep_58 : decode cX7_keep 58 = .ok (.iload_n 3, 1) := by decide +kernel
theorem dX7_keep_59 : decode cX7_keep 59 = .ok (.iaload, 1) := by decide +kernel
theorem dX7_keep_60 : decode cX7_keep 60 = .ok (.iastore, 1) := by decide +kernel
theorem dX7_keep_61 : decode cX7_keep 61 = .ok (.iinc 3 1, 3) := by decide +kernel
theorem dX7_keep_64 : decode cX7_keep 64 = .ok (.goto (-25), 3) := by decide +kernel
theorem dX7_keep_67 : decode cX7_keep 67 = .ok (.iconst 0, 1) := by decide +kernel
theorem dX7_keep_68 : decode cX7_keep 68 = .ok (.istore_n 3, 1) := by decide +kernel
theorem dX7_keep_69 : decode cX7_keep 69 = .ok (.iload_n 3, 1) := by decide +kernel
theorem dX7_keep_70 : decode cX7_keep 70 = .ok (.sipush 150, 3) := by decide +kernel
theorem dX7_keep_73 : decode cX7_keep 73 = .ok (.if_icmp .ge 26, 3) := by decide +kernel
theorem dX7_keep_76 : decode cX7_keep 76 = .ok (.aload_n 0, 1) := by decide +kernel
theorem dX7_keep_77 : decode cX7_keep 77 = .ok (.getfield 37, 3) := by decide +kernel
theorem dX7_keep_80 : decode cX7_keep 80 = .ok (.iload_n 2, 1) := by decide +kernel
theorem dX7_keep_81 : decode cX7_keep 81 = .ok (.bipush 17, 2) := by decide +kernel
theorem dX7_keep_83 : decode cX7_keep 83 = .ok (.iadd, 1) := by decide +kernel
theorem dX7_keep_84 : decode cX7_keep 84 = .ok (.iload_n 3, 1) := by decide +kernel
theorem dX7_keep_85 : decode cX7_keep 85 = .ok (.iadd, 1) := by decide +kernel
theorem dX7_keep_86 : decode cX7_keep 86 = .ok (.aload_n 0, 1) := by decide +kernel
theorem dX7_keep_87 : decode cX7_keep 87 = .ok (.getfield 22, 3) := by decide +kernel
theorem dX7_keep_90 : decode cX7_keep 90 = .ok (.iload_n 3, 1) := by decide +kernel
theorem dX7_keep_91 : decode cX7_keep 91 = .ok (.iaload, 1) := by decide +kernel
theorem dX7_keep_92 : decode cX7_keep 92 = .ok (.iastore, 1) := by decide +kernel
theorem dX7_keep_93 : decode cX7_keep 93 = .ok (.iinc 3 1, 3) := by decide +kernel
theorem dX7_keep_96 : decode cX7_keep 96 = .ok (.goto (-27), 3) := by decide +kernel
theorem dX7_keep_99 : decode cX7_keep 99 = .ok (.aload_n 0, 1) := by decide +kernel
theorem dX7_keep_100 : decode cX7_keep 100 = .ok (.getfield 19, 3) := by decide +kernel
theorem dX7_keep_103 : decode cX7_keep 103 = .ok (.iconst 0, 1) := by decide +kernel
theorem dX7_keep_104 : decode cX7_keep 104 = .ok (.iaload, 1) := by decide +kernel
theorem dX7_keep_105 : decode cX7_keep 105 = .ok (.ireturn, 1) := by decide +kernel
set_option maxRecDepth 20000 in
theorem ggX7_back_X7_in : GoodIn wsX7_back wsX7_in := goodIn_r _ [8] (by decide +kernel) (by decide +kernel)
set_option maxRecDepth 20000 in
theorem gX7_back_X7_in : GoodIn wsX7_back (va_wsS RX7 48 yX7_in wsX7_in) := goodIn_app (goodIn_of _ (by decide +kernel)) ggX7_back_X7_in
theorem dX7_back_0 : decode cX7_back 0 = .ok (.iload_n 1, 1) := by decide +kernel
theorem dX7_back_1 : decode cX7_back 1 = .ok (.i2l, 1) := by decide +kernel
theorem dX7_back_2 : decode cX7_back 2 = .ok (.lconst 0, 1) := by decide +kernel
theorem dX7_back_3 : decode cX7_back 3 = .ok (.lconst 1, 1) := by decide +kernel
theorem dX7_back_4 : decode cX7_back 4 = .ok (.invokestatic 48, 3) := by decide +kernel
theorem dX7_back_7 : decode cX7_back 7 = .ok (.ifCond .ne 5, 3) := by decide +kernel
theorem dX7_back_10 : decode cX7_back 10 = .ok (.iconst (-1), 1) := by decide +kernel
theorem dX7_back_11 : decode cX7_back 11 = .ok (.ireturn, 1) := by decide +kernel
theorem dX7_back_12 : decode cX7_back 12 = .ok (.sipush 167, 3) := by decide +kernel
theorem dX7_back_15 : decode cX7_back 15 = .ok (.iload_n 1, 1) := by decide +kernel
theorem dX7_back_16 : decode cX7_back 16 = .ok (.imul, 1) := by decide +kernel
theorem dX7_back_17 : decode cX7_back 17 = .ok (.istore_n 2, 1) := by decide +kernel
theorem dX7_back_18 : decode cX7_back 18 = .ok (.aload_n 0, 1) := by decide +kernel
theorem dX7_back_19 : decode cX7_back 19 = .ok (.getfield 37, 3) := by decide +kernel
theorem dX7_back_22 : decode cX7_back 22 = .ok (.iload_n 2, 1) := by decide +kernel
theorem dX7_back_23 : decode cX7_back 23 = .ok (.iaload, 1) := by decide +kernel
theorem dX7_back_24 : decode cX7_back 24 = .ok (.ifCond .ne 6, 3) := by decide +kernel
theorem dX7_back_27 : decode cX7_back 27 = .ok (.bipush (-2), 2) := by decide +kernel
theorem dX7_back_29 : decode cX7_back 29 = .ok (.ireturn, 1) := by decide +kernel
theorem dX7_back_30 : decode cX7_back 30 = .ok (.aload_n 0, 1) := by decide +kernel
theorem dX7_back_31 : decode cX7_back 31 = .ok (.aload_n 0, 1) := by decide +kernel
theorem dX7_back_32 : decode cX7_back 32 = .ok (.getfield 37, 3) := by decide +kernel
theorem dX7_back_35 : decode cX7_back 35 = .ok (.iload_n 2, 1) := by decide +kernel
theorem dX7_back_36 : decode cX7_back 36 = .ok (.iconst 1, 1) := by decide +kernel
theorem dX7_back_37 : decode cX7_back 37 = .ok (.iadd, 1) := by decide +kernel
theorem dX7_back_38 : decode cX7_back 38 = .ok (.iaload, 1) := by decide +kernel
theorem dX7_back_39 : decode cX7_back 39 = .ok (.putfield 119, 3) := by decide +kernel
theorem dX7_back_42 : decode cX7_back 42 = .ok (.iconst 0, 1) := by decide +kernel
theorem dX7_back_43 : decode cX7_back 43 = .ok (.istore_n 3, 1) := by decide +kernel
theorem dX7_back_44 : decode cX7_back 44 = .ok (.iload_n 3, 1) := by decide +kernel
theorem dX7_back_45 : decode cX7_back 45 = .ok (.bipush 15, 2) := by decide +kernel
theorem dX7_back_47 : decode cX7_back 47 = .ok (.if_icmp .ge 25, 3) := by decide +kernel
theorem dX7_back_50 : decode cX7_back 50 = .ok (.aload_n 0, 1) := by decide +kernel
theorem dX7_back_51 : decode cX7_back 51 = .ok (.getfield 19, 3) := by decide +kernel
theorem dX7_back_54 : decode cX7_back 54 = .ok (.iload_n 3, 1) := by decide +kernel
theorem dX7_back_55 : decode cX7_back 55 = .ok (.aload_n 0, 1) := by decide +kernel
theorem dX7_back_56 : decode cX7_back 56 = .ok (.getfield 37, 3) := by decide +kernel
theorem dX7_back_59 : decode cX7_back 59 = .ok (.iload_n 2, 1) := by decide +kernel
theorem dX7_back_60 : decode cX7_back 60 = .ok (.iconst 2, 1) := by decide +kernel
theorem dX7_back_61 : decode cX7_back 61 = .ok (.iadd, 1) := by decide +kernel
theorem dX7_back_62 : decode cX7_back 62 = .ok (.iload_n 3, 1) := by decide +kernel
theorem dX7_back_63 : decode cX7_back 63 = .ok (.iadd, 1) := by decide +kernel
theorem dX7_back_64 : decode cX7_back 64 = .ok (.iaload, 1) := by decide +kernel
theorem dX7_back_65 : decode cX7_back 65 = .ok (.iastore, 1) := by decide +kernel
theorem dX7_back_66 : decode cX7_back 66 = .ok (.iinc 3 1, 3) := by decide +kernel
theorem dX7_back_69 : decode cX7_back 69 = .ok (.goto (-25), 3) := by decide +kernel
theorem dX7_back_72 : decode cX7_back 72 = .ok (.iconst 0, 1) := by decide +kernel
theorem dX7_back_73 : decode cX7_back 73 = .ok (.istore_n 3, 1) := by decide +kernel
theorem dX7_back_74 : decode cX7_back 74 = .ok (.iload_n 3, 1) := by decide +kernel
theorem dX7_back_75 : decode cX7_back 75 = .ok (.sipush 150, 3) := by decide +kernel
theorem dX7_back_78 : decode cX7_back 78 = .ok (.if_icmp .ge 26, 3) := by decide +kernel
theorem dX7_back_81 : decode cX7_back 81 = .ok (.aload_n 0, 1) := by decide +kernel
theorem dX7_back_82 : decode cX7_back 82 = .ok (.getfield 22, 3) := by decide +kernel
theorem dX7_back_85 : decode cX7_back 85 = .ok (.iload_n 3, 1) := by decide +kernel
theorem dX7_back_86 : decode cX7_back 86 = .ok (.aload_n 0, 1) := by decide +kernel
theorem dX7_back_87 : decode cX7_back 87 = .ok (.getfield 37, 3) := by decide +kernel
theorem dX7_back_90 : decode cX7_back 90 = .ok (.iload_n 2, 1) := by decide +kernel
theorem dX7_back_91 : decode cX7_back 91 = .ok (.bipush 17, 2) := by decide +kernel
theorem dX7_back_93 : decode cX7_back 93 = .ok (.iadd, 1) := by decide +kernel
theorem dX7_back_94 : decode cX7_back 94 = .ok (.iload_n 3, 1) := by decide +kernel
theorem dX7_back_95 : decode cX7_back 95 = .ok (.iadd, 1) := by decide +kernel
theorem dX7_back_96 : decode cX7_back 96 = .ok (.iaload, 1) := by decide +kernel
theorem dX7_back_97 : decode cX7_back 97 = .ok (.iastore, 1) := by decide +kernel
theorem dX7_back_98 : decode cX7_back 98 = .ok (.iinc 3 1, 3) := by decide +kernel
theorem dX7_back_101 : decode cX7_back 101 = .ok (.goto (-27), 3) := by decide +kernel
theorem dX7_back_104 : decode cX7_back 104 = .ok (.aload_n 0, 1) := by decide +kernel
theorem dX7_back_105 : decode cX7_back 105 = .ok (.getfield 19, 3) := by decide +kernel
theorem dX7_back_108 : decode cX7_back 108 = .ok (.iconst 0, 1) := by decide +kernel
theorem dX7_back_109 : decode cX7_back 109 = .ok (.iaload, 1) := by decide +kernel
theorem dX7_back_110 : decode cX7_back 110 = .ok (.ireturn, 1) := by decide +kernel
theorem dX7_count_0 : decode cX7_count 0 = .ok (.iload_n 1, 1) := by decide +kernel
theorem dX7_count_1 : decode cX7_count 1 = .ok (.tableswitch 69 0 7 #[47, 47, 47, 47, 47, 54, 59, 64], 47) := by decide +kernel
theorem dX7_count_48 : decode cX7_count 48 = .ok (.aload_n 0, 1) := by decide +kernel
theorem dX7_count_49 : decode cX7_count 49 = .ok (.getfield 16, 3) := by decide +kernel
theorem dX7_count_52 : decode cX7_count 52 = .ok (.iload_n 1, 1) := by decide +kernel
theorem dX7_count_53 : decode cX7_count 53 = .ok (.iaload, 1) := by decide +kernel
theorem dX7_count_54 : decode cX7_count 54 = .ok (.ireturn, 1) := by decide +kernel
theorem dX7_count_55 : decode cX7_count 55 = .ok (.aload_n 0, 1) := by decide +kernel
theorem dX7_count_56 : decode cX7_count 56 = .ok (.getfield 116, 3) := by decide +kernel
theorem dX7_count_59 : decode cX7_count 59 = .ok (.ireturn, 1) := by decide +kernel
theorem dX7_count_60 : decode cX7_count 60 = .ok (.aload_n 0, 1) := by decide +kernel
theorem dX7_count_61 : decode cX7_count 61 = .ok (.getfield 119, 3) := by decide +kernel
theorem dX7_count_64 : decode cX7_count 64 = .ok (.ireturn, 1) := by decide +kernel
theorem dX7_count_65 : decode cX7_count 65 = .ok (.aload_n 0, 1) := by decide +kernel
theorem dX7_count_66 : decode cX7_count 66 = .ok (.getfield 52, 3) := by decide +kernel
theorem dX7_count_69 : decode cX7_count 69 = .ok (.ireturn, 1) := by decide +kernel
theorem dX7_count_70 : decode cX7_count 70 = .ok (.iconst (-1), 1) := by decide +kernel
theorem dX7_count_71 : decode cX7_count 71 = .ok (.ireturn, 1) := by decide +kernel
theorem dJ6_bitCount_0f7a4_0 : decode cJ6_bitCount_0f7a4 0 = .ok (.iload_n 0, 1) := by decide +kernel
theorem dJ6_bitCount_0f7a4_1 : decode cJ6_bitCount_0f7a4 1 = .ok (.iload_n 0, 1) := by decide +kernel
theorem dJ6_bitCount_0f7a4_2 : decode cJ6_bitCount_0f7a4 2 = .ok (.iconst 1, 1) := by decide +kernel
theorem dJ6_bitCount_0f7a4_3 : decode cJ6_bitCount_0f7a4 3 = .ok (.iushr, 1) := by decide +kernel
theorem dJ6_bitCount_0f7a4_4 : decode cJ6_bitCount_0f7a4 4 = .ok (.ldc_w 265, 3) := by decide +kernel
theorem dJ6_bitCount_0f7a4_7 : decode cJ6_bitCount_0f7a4 7 = .ok (.iand, 1) := by decide +kernel
theorem dJ6_bitCount_0f7a4_8 : decode cJ6_bitCount_0f7a4 8 = .ok (.isub, 1) := by decide +kernel
theorem dJ6_bitCount_0f7a4_9 : decode cJ6_bitCount_0f7a4 9 = .ok (.istore_n 0, 1) := by decide +kernel
theorem dJ6_bitCount_0f7a4_10 : decode cJ6_bitCount_0f7a4 10 = .ok (.iload_n 0, 1) := by decide +kernel
theorem dJ6_bitCount_0f7a4_11 : decode cJ6_bitCount_0f7a4 11 = .ok (.ldc_w 266, 3) := by decide +kernel
theorem dJ6_bitCount_0f7a4_14 : decode cJ6_bitCount_0f7a4 14 = .ok (.iand, 1) := by decide +kernel
theorem dJ6_bitCount_0f7a4_15 : decode cJ6_bitCount_0f7a4 15 = .ok (.iload_n 0, 1) := by decide +kernel
theorem dJ6_bitCount_0f7a4_16 : decode cJ6_bitCount_0f7a4 16 = .ok (.iconst 2, 1) := by decide +kernel
theorem dJ6_bitCount_0f7a4_17 : decode cJ6_bitCount_0f7a4 17 = .ok (.iushr, 1) := by decide +kernel
theorem dJ6_bitCount_0f7a4_18 : decode cJ6_bitCount_0f7a4 18 = .ok (.ldc_w 266, 3) := by decide +kernel
theorem dJ6_bitCount_0f7a4_21 : decode cJ6_bitCount_0f7a4 21 = .ok (.iand, 1) := by decide +kernel
theorem dJ6_bitCount_0f7a4_22 : decode cJ6_bitCount_0f7a4 22 = .ok (.iadd, 1) := by decide +kernel
theorem dJ6_bitCount_0f7a4_23 : decode cJ6_bitCount_0f7a4 23 = .ok (.istore_n 0, 1) := by decide +kernel
theorem dJ6_bitCount_0f7a4_24 : decode cJ6_bitCount_0f7a4 24 = .ok (.iload_n 0, 1) := by decide +kernel
theorem dJ6_bitCount_0f7a4_25 : decode cJ6_bitCount_0f7a4 25 = .ok (.iload_n 0, 1) := by decide +kernel
theorem dJ6_bitCount_0f7a4_26 : decode cJ6_bitCount_0f7a4 26 = .ok (.iconst 4, 1) := by decide +kernel
theorem dJ6_bitCount_0f7a4_27 : decode cJ6_bitCount_0f7a4 27 = .ok (.iushr, 1) := by decide +kernel
theorem dJ6_bitCount_0f7a4_28 : decode cJ6_bitCount_0f7a4 28 = .ok (.iadd, 1) := by decide +kernel
theorem dJ6_bitCount_0f7a4_29 : decode cJ6_bitCount_0f7a4 29 = .ok (.ldc_w 267, 3) := by decide +kernel
theorem dJ6_bitCount_0f7a4_32 : decode cJ6_bitCount_0f7a4 32 = .ok (.iand, 1) := by decide +kernel
theorem dJ6_bitCount_0f7a4_33 : decode cJ6_bitCount_0f7a4 33 = .ok (.istore_n 0, 1) := by decide +kernel
theorem dJ6_bitCount_0f7a4_34 : decode cJ6_bitCount_0f7a4 34 = .ok (.iload_n 0, 1) := by decide +kernel
theorem dJ6_bitCount_0f7a4_35 : decode cJ6_bitCount_0f7a4 35 = .ok (.iload_n 0, 1) := by decide +kernel
theorem dJ6_bitCount_0f7a4_36 : decode cJ6_bitCount_0f7a4 36 = .ok (.bipush 8, 2) := by decide +kernel
theorem dJ6_bitCount_0f7a4_38 : decode cJ6_bitCount_0f7a4 38 = .ok (.iushr, 1) := by decide +kernel
theorem dJ6_bitCount_0f7a4_39 : decode cJ6_bitCount_0f7a4 39 = .ok (.iadd, 1) := by decide +kernel
theorem dJ6_bitCount_0f7a4_40 : decode cJ6_bitCount_0f7a4 40 = .ok (.istore_n 0, 1) := by decide +kernel
theorem dJ6_bitCount_0f7a4_41 : decode cJ6_bitCount_0f7a4 41 = .ok (.iload_n 0, 1) := by decide +kernel
theorem dJ6_bitCount_0f7a4_42 : decode cJ6_bitCount_0f7a4 42 = .ok (.iload_n 0, 1) := by decide +kernel
theorem dJ6_bitCount_0f7a4_43 : decode cJ6_bitCount_0f7a4 43 = .ok (.bipush 16, 2) := by decide +kernel
theorem dJ6_bitCount_0f7a4_45 : decode cJ6_bitCount_0f7a4 45 = .ok (.iushr, 1) := by decide +kernel
theorem dJ6_bitCount_0f7a4_46 : decode cJ6_bitCount_0f7a4 46 = .ok (.iadd, 1) := by decide +kernel
theorem dJ6_bitCount_0f7a4_47 : decode cJ6_bitCount_0f7a4 47 = .ok (.istore_n 0, 1) := by decide +kernel
theorem dJ6_bitCount_0f7a4_48 : decode cJ6_bitCount_0f7a4 48 = .ok (.iload_n 0, 1) := by decide +kernel
theorem dJ6_bitCount_0f7a4_49 : decode cJ6_bitCount_0f7a4 49 = .ok (.bipush 63, 2) := by decide +kernel
theorem dJ6_bitCount_0f7a4_51 : decode cJ6_bitCount_0f7a4 51 = .ok (.iand, 1) := by decide +kernel
theorem dJ6_bitCount_0f7a4_52 : decode cJ6_bitCount_0f7a4 52 = .ok (.ireturn, 1) := by decide +kernel
theorem dJ9_max_7cf53_0 : decode cJ9_max_7cf53 0 = .ok (.iload_n 0, 1) := by decide +kernel
theorem dJ9_max_7cf53_1 : decode cJ9_max_7cf53 1 = .ok (.iload_n 1, 1) := by decide +kernel
theorem dJ9_max_7cf53_2 : decode cJ9_max_7cf53 2 = .ok (.if_icmp .lt 7, 3) := by decide +kernel
theorem dJ9_max_7cf53_5 : decode cJ9_max_7cf53 5 = .ok (.iload_n 0, 1) := by decide +kernel
theorem dJ9_max_7cf53_6 : decode cJ9_max_7cf53 6 = .ok (.goto 4, 3) := by decide +kernel
theorem dJ9_max_7cf53_9 : decode cJ9_max_7cf53 9 = .ok (.iload_n 1, 1) := by decide +kernel
theorem dJ9_max_7cf53_10 : decode cJ9_max_7cf53 10 = .ok (.ireturn, 1) := by decide +kernel
theorem dJ9_min_7cf53_0 : decode cJ9_min_7cf53 0 = .ok (.iload_n 0, 1) := by decide +kernel
theorem dJ9_min_7cf53_1 : decode cJ9_min_7cf53 1 = .ok (.iload_n 1, 1) := by decide +kernel
theorem dJ9_min_7cf53_2 : decode cJ9_min_7cf53 2 = .ok (.if_icmp .gt 7, 3) := by decide +kernel
theorem dJ9_min_7cf53_5 : decode cJ9_min_7cf53 5 = .ok (.iload_n 0, 1) := by decide +kernel
theorem dJ9_min_7cf53_6 : decode cJ9_min_7cf53 6 = .ok (.goto 4, 3) := by decide +kernel
theorem dJ9_min_7cf53_9 : decode cJ9_min_7cf53 9 = .ok (.iload_n 1, 1) := by decide +kernel
theorem dJ9_min_7cf53_10 : decode cJ9_min_7cf53 10 = .ok (.ireturn, 1) := by decide +kernel
set_option maxRecDepth 20000 in
theorem ggL_law_X6_init : GoodIn wsL_law wsX6_init := goodIn_r _ [8, 9, 10, 11, 12, 13, 14, 15, 16, 17, 18, 19, 20, 21, 22, 23, 24, 25, 26, 27, 28, 29, 30, 31, 32, 33, 34, 35, 36, 37, 38, 39, 40, 41, 42, 43, 44, 45, 46, 47, 48, 49, 50, 51, 52, 53, 54, 55, 56, 57, 58, 59, 60, 61, 62, 63, 64, 65, 66, 67, 68, 69, 70, 71, 72, 73, 74, 75, 76, 77, 78, 79, 883, 884, 885, 886, 854, 855, 856, 857, 858, 859, 860, 861, 862, 863, 887, 888, 889, 890, 891, 892, 893, 894, 895, 896, 897, 898, 899, 900, 901, 902, 903, 904, 905, 906, 907, 908, 909, 910, 911, 912, 913, 914, 915, 916, 917, 918] (by decide +kernel) (by decide +kernel)
set_option maxRecDepth 20000 in
theorem gL_law_X6_init : GoodIn wsL_law (wsX6_init) := ggL_law_X6_init
set_option maxRecDepth 20000 in
theorem ggL_law_X7_init : GoodIn wsL_law wsX7_init := goodIn_r _ [82, 83, 10, 11, 52, 84, 85, 86, 87, 88, 89, 90, 91, 92, 93, 94, 95, 96, 5, 97, 98, 99, 100, 101, 102, 103, 864, 865, 866, 867, 868, 869, 870, 871, 872, 873, 874, 875, 876, 877, 878, 879, 880, 881, 882] (by decide +kernel) (by decide +kernel)
set_option maxRecDepth 20000 in
theorem gL_law_X7_init : GoodIn wsL_law (wsX7_init) := ggL_law_X7_init
set_option maxRecDepth 20000 in
theorem ggL_law_X6_type : GoodIn wsL_law wsX6_type := goodIn_r _ [107, 15, 108, 109, 2, 110, 111, 112, 113, 14, 114, 115, 42, 854, 855, 856, 857, 858, 859, 860, 861, 862, 863, 883, 884, 885, 886] (by decide +kernel) (by decide +kernel)
set_option maxRecDepth 20000 in
theorem gL_law_X6_type : GoodIn wsL_law (wsV RL 13 RX6 yX6_type wsX6_type) := goodIn_app (goodIn_of _ (by decide +kernel)) ggL_law_X6_type
set_option maxRecDepth 20000 in
theorem ggL_law_X7_type : GoodIn wsL_law wsX7_type := goodIn_r _ [119, 120, 121, 84, 122, 123, 5, 124, 864, 865, 866, 867, 868, 869, 870, 871, 872, 873, 874, 875, 876, 877, 878, 879, 880, 881, 882] (by decide +kernel) (by decide +kernel)
set_option maxRecDepth 20000 in
theorem gL_law_X7_type : GoodIn wsL_law (wsV RL 17 RX7 yX7_type wsX7_type) := goodIn_app (goodIn_of _ (by decide +kernel)) ggL_law_X7_type
set_option maxRecDepth 20000 in
theorem ggL_law_X6_clear : GoodIn wsL_law wsX6_clear := goodIn_r _ [128, 15, 854, 855, 856, 857, 858, 859, 860, 861, 862, 863, 883, 884, 885, 886] (by decide +kernel) (by decide +kernel)
set_option maxRecDepth 20000 in
theorem gL_law_X6_clear : GoodIn wsL_law (wsV RL 18 RX6 yX6_clear wsX6_clear) := goodIn_app (goodIn_of _ (by decide +kernel)) ggL_law_X6_clear
set_option maxRecDepth 20000 in
theorem ggL_law_X7_clear : GoodIn wsL_law wsX7_clear := goodIn_r _ [132, 121, 864, 865, 866, 867, 868, 869, 870, 871, 872, 873, 874, 875, 876, 877, 878, 879, 880, 881, 882] (by decide +kernel) (by decide +kernel)
set_option maxRecDepth 20000 in
theorem gL_law_X7_clear : GoodIn wsL_law (wsV RL 22 RX7 yX7_clear wsX7_clear) := goodIn_app (goodIn_of _ (by decide +kernel)) ggL_law_X7_clear
set_option maxRecDepth 20000 in
theorem ggL_law_X6_hill : GoodIn wsL_law wsX6_hill := goodIn_r _ [136, 15, 20, 19, 24, 36, 32, 28, 137, 138, 139, 14, 140, 141, 142, 115, 143, 144, 145, 18, 146, 49, 147, 148, 149, 50, 51, 150, 151, 152, 153, 48, 154, 155, 156, 60, 157, 158, 159, 160, 161, 162, 163, 164, 165, 166, 167, 168, 42, 169, 170, 171, 172, 173, 174, 175, 176, 177, 178, 179, 180, 109, 2, 110, 181, 182, 183, 184, 185, 186, 187, 188, 189, 190, 191, 192, 193, 194, 195, 196, 197, 198, 199, 200, 201, 202, 203, 204, 205, 206, 207, 208, 209, 210, 211, 212, 213, 214, 215, 216, 23, 217, 64, 218, 219, 220, 221, 222, 223, 224, 225, 226, 227, 228, 229, 35, 230, 231, 79, 232, 233, 234, 31, 235, 72, 854, 855, 856, 857, 858, 859, 860, 861, 862, 863, 883, 884, 885, 886, 887, 888, 889, 890, 891, 892, 893, 894, 895, 896, 897, 912, 913, 914, 915, 916, 917, 918, 898, 899, 905, 906, 907, 908, 909, 910, 911, 900, 901, 902, 903, 904] (by decide +kernel) (by decide +kernel)
set_option maxRecDepth 20000 in
theorem gL_law_X6_hill : GoodIn wsL_law (wsV RL 23 RX6 yX6_hill wsX6_hill) := goodIn_app (goodIn_of _ (by decide +kernel)) ggL_law_X6_hill
set_option maxRecDepth 20000 in
theorem ggL_law_X7_hill : GoodIn wsL_law wsX7_hill := goodIn_r _ [239, 240, 241, 242, 121, 94, 95, 96, 5, 97, 85, 243, 244, 245, 246, 84, 247, 248, 249, 250, 251, 252, 253, 254, 255, 122, 123, 124, 256, 257, 258, 259, 260, 261, 262, 263, 264, 265, 266, 267, 268, 269, 270, 271, 272, 273, 274, 275, 276, 277, 278, 279, 280, 281, 282, 283, 284, 285, 286, 287, 288, 289, 290, 291, 292, 293, 98, 99, 100, 101, 86, 87, 102, 103, 93, 864, 865, 866, 867, 868, 869, 870, 871, 872, 873, 874, 875, 876, 877, 878, 879, 880, 881, 882] (by decide +kernel) (by decide +kernel)
set_option maxRecDepth 20000 in
theorem gL_law_X7_hill : GoodIn wsL_law (wsV RL 26 RX7 yX7_hill wsX7_hill) := goodIn_app (goodIn_of _ (by decide +kernel)) ggL_law_X7_hill
set_option maxRecDepth 20000 in
theorem ggL_law_X6_cell : GoodIn wsL_law wsX6_cell := goodIn_r _ [297, 19, 24, 298, 299, 300, 48, 301, 155, 156, 109, 2, 110, 302, 162, 163, 164, 303, 304, 305, 306, 60, 307, 308, 309, 23, 310, 64, 311, 312, 313, 314, 315, 316, 317, 318, 319, 320, 321, 157, 158, 322, 323, 324, 325, 159, 160, 854, 855, 856, 857, 858, 859, 860, 861, 862, 863, 887, 888, 889, 890, 891, 892, 893, 894, 895, 896, 897, 912, 913, 914, 915, 916, 917, 918, 898, 899] (by decide +kernel) (by decide +kernel)
set_option maxRecDepth 20000 in
theorem gL_law_X6_cell : GoodIn wsL_law (wsV RL 27 RX6 yX6_cell wsX6_cell) := goodIn_app (goodIn_of _ (by decide +kernel)) ggL_law_X6_cell
set_option maxRecDepth 20000 in
theorem ggL_law_X7_cell : GoodIn wsL_law wsX7_cell := goodIn_r _ [329, 330, 86, 87, 331, 332, 333, 5, 334, 122, 123, 124, 335, 336, 337, 338, 339, 340, 341, 342, 864, 865, 866, 867, 868, 869, 870, 871, 872, 873, 874, 875, 876, 877, 878, 879, 880, 881, 882] (by decide +kernel) (by decide +kernel)
set_option maxRecDepth 20000 in
theorem gL_law_X7_cell : GoodIn wsL_law (wsV RL 31 RX7 yX7_cell wsX7_cell) := goodIn_app (goodIn_of _ (by decide +kernel)) ggL_law_X7_cell
set_option maxRecDepth 20000 in
theorem ggL_law_X6_thing : GoodIn wsL_law wsX6_thing := goodIn_r _ [346, 24, 19, 347, 348, 349, 2, 350, 108, 109, 110, 351, 352, 353, 23, 354, 64, 355, 356, 357, 358, 359, 360, 361, 362, 363, 364, 365, 366, 367, 368, 369, 370, 371, 372, 373, 374, 311, 312, 313, 854, 855, 856, 857, 858, 859, 860, 861, 862, 863, 887, 888, 889, 890, 891, 892, 893, 894, 895, 896, 897, 898, 899] (by decide +kernel) (by decide +kernel)
set_option maxRecDepth 20000 in
theorem gL_law_X6_thing : GoodIn wsL_law (wsV RL 32 RX6 yX6_thing wsX6_thing) := goodIn_app (goodIn_of _ (by decide +kernel)) ggL_law_X6_thing
set_option maxRecDepth 20000 in
theorem ggL_law_X7_thing : GoodIn wsL_law wsX7_thing := goodIn_r _ [378, 379, 380, 381, 382, 5, 383, 86, 122, 123, 124, 384, 385, 386, 387, 87, 388, 389, 390, 391, 392, 393, 394, 395, 396, 397, 398, 399, 400, 401, 402, 403, 404, 405, 406, 407, 864, 865, 866, 867, 868, 869, 870, 871, 872, 873, 874, 875, 876, 877, 878, 879, 880, 881, 882] (by decide +kernel) (by decide +kernel)
set_option maxRecDepth 20000 in
theorem gL_law_X7_thing : GoodIn wsL_law (wsV RL 36 RX7 yX7_thing wsX7_thing) := goodIn_app (goodIn_of _ (by decide +kernel)) ggL_law_X7_thing
set_option maxRecDepth 20000 in
theorem ggL_law_X6_digs : GoodIn wsL_law wsX6_digs := goodIn_r _ [411, 19, 24, 298, 299, 300, 48, 301, 155, 156, 109, 2, 110, 302, 162, 163, 164, 314, 315, 316, 317, 307, 308, 309, 23, 310, 64, 318, 319, 320, 321, 157, 158, 322, 323, 324, 325, 159, 160, 412, 413, 414, 415, 416, 417, 418, 419, 218, 420, 421, 369, 422, 423, 424, 425, 426, 303, 304, 305, 306, 60, 427, 428, 429, 430, 431, 432, 433, 434, 854, 855, 856, 857, 858, 859, 860, 861, 862, 863, 887, 888, 889, 890, 891, 892, 893, 894, 895, 896, 897, 912, 913, 914, 915, 916, 917, 918, 898, 899] (by decide +kernel) (by decide +kernel)
set_option maxRecDepth 20000 in
theorem gL_law_X6_digs : GoodIn wsL_law (wsV RL 37 RX6 yX6_digs wsX6_digs) := goodIn_app (goodIn_of _ (by decide +kernel)) ggL_law_X6_digs
set_option maxRecDepth 20000 in
theorem ggL_law_X7_digs : GoodIn wsL_law wsX7_digs := goodIn_r _ [438, 86, 87, 331, 332, 333, 5, 334, 122, 123, 124, 335, 336, 337, 338, 339, 340, 341, 342, 439, 440, 441, 442, 103, 88, 864, 865, 866, 867, 868, 869, 870, 871, 872, 873, 874, 875, 876, 877, 878, 879, 880, 881, 882] (by decide +kernel) (by decide +kernel)
set_option maxRecDepth 20000 in
theorem gL_law_X7_digs : GoodIn wsL_law (wsV RL 40 RX7 yX7_digs wsX7_digs) := goodIn_app (goodIn_of _ (by decide +kernel)) ggL_law_X7_digs
set_option maxRecDepth 20000 in
theorem ggL_law_X6_scrapes : GoodIn wsL_law wsX6_scrapes := goodIn_r _ [446, 24, 347, 348, 349, 2, 350, 19, 108, 109, 110, 351, 352, 353, 23, 354, 64, 447, 448, 449, 450, 412, 413, 414, 415, 416, 417, 418, 419, 218, 420, 421, 369, 422, 427, 428, 429, 430, 451, 220, 221, 222, 452, 224, 225, 226, 854, 855, 856, 857, 858, 859, 860, 861, 862, 863, 887, 888, 889, 890, 891, 892, 893, 894, 895, 896, 897, 898, 899] (by decide +kernel) (by decide +kernel)
set_option maxRecDepth 20000 in
theorem gL_law_X6_scrapes : GoodIn wsL_law (wsV RL 41 RX6 yX6_scrapes wsX6_scrapes) := goodIn_app (goodIn_of _ (by decide +kernel)) ggL_law_X6_scrapes
set_option maxRecDepth 20000 in
theorem ggL_law_X7_scrapes : GoodIn wsL_law wsX7_scrapes := goodIn_r _ [456, 87, 380, 381, 382, 5, 383, 86, 122, 123, 124, 384, 385, 386, 387, 439, 440, 441, 442, 103, 88, 457, 458, 459, 460, 864, 865, 866, 867, 868, 869, 870, 871, 872, 873, 874, 875, 876, 877, 878, 879, 880, 881, 882] (by decide +kernel) (by decide +kernel)
set_option maxRecDepth 20000 in
theorem gL_law_X7_scrapes : GoodIn wsL_law (wsV RL 44 RX7 yX7_scrapes wsX7_scrapes) := goodIn_app (goodIn_of _ (by decide +kernel)) ggL_law_X7_scrapes
set_option maxRecDepth 20000 in
theorem ggL_law_X6_paints : GoodIn wsL_law wsX6_paints := goodIn_r _ [464, 24, 347, 348, 349, 2, 350, 19, 108, 109, 110, 431, 432, 433, 23, 434, 64, 351, 352, 353, 354, 412, 413, 414, 415, 416, 417, 418, 419, 218, 420, 421, 369, 422, 427, 428, 429, 430, 451, 220, 221, 222, 854, 855, 856, 857, 858, 859, 860, 861, 862, 863, 887, 888, 889, 890, 891, 892, 893, 894, 895, 896, 897, 898, 899] (by decide +kernel) (by decide +kernel)
set_option maxRecDepth 20000 in
theorem gL_law_X6_paints : GoodIn wsL_law (wsV RL 45 RX6 yX6_paints wsX6_paints) := goodIn_app (goodIn_of _ (by decide +kernel)) ggL_law_X6_paints
set_option maxRecDepth 20000 in
theorem ggL_law_X7_paints : GoodIn wsL_law wsX7_paints := goodIn_r _ [468, 469, 87, 380, 381, 382, 5, 383, 86, 122, 123, 124, 384, 385, 386, 387, 439, 440, 441, 442, 103, 88, 864, 865, 866, 867, 868, 869, 870, 871, 872, 873, 874, 875, 876, 877, 878, 879, 880, 881, 882] (by decide +kernel) (by decide +kernel)
set_option maxRecDepth 20000 in
theorem gL_law_X7_paints : GoodIn wsL_law (wsV RL 48 RX7 yX7_paints wsX7_paints) := goodIn_app (goodIn_of _ (by decide +kernel)) ggL_law_X7_paints
set_option maxRecDepth 20000 in
theorem ggL_law_X6_stretches : GoodIn wsL_law wsX6_stretches := goodIn_r _ [473, 24, 347, 348, 349, 2, 350, 19, 108, 109, 110, 355, 356, 357, 23, 358, 64, 412, 413, 414, 415, 416, 417, 418, 419, 218, 420, 421, 369, 422, 452, 224, 225, 226, 854, 855, 856, 857, 858, 859, 860, 861, 862, 863, 887, 888, 889, 890, 891, 892, 893, 894, 895, 896, 897, 898, 899] (by decide +kernel) (by decide +kernel)
set_option maxRecDepth 20000 in
theorem gL_law_X6_stretches : GoodIn wsL_law (wsV RL 49 RX6 yX6_stretches wsX6_stretches) := goodIn_app (goodIn_of _ (by decide +kernel)) ggL_law_X6_stretches
set_option maxRecDepth 20000 in
theorem ggL_law_X7_stretches : GoodIn wsL_law wsX7_stretches := goodIn_r _ [477, 469, 87, 380, 381, 382, 5, 383, 86, 122, 123, 124, 388, 389, 390, 391, 439, 440, 441, 442, 103, 88, 864, 865, 866, 867, 868, 869, 870, 871, 872, 873, 874, 875, 876, 877, 878, 879, 880, 881, 882] (by decide +kernel) (by decide +kernel)
set_option maxRecDepth 20000 in
theorem gL_law_X7_stretches : GoodIn wsL_law (wsV RL 52 RX7 yX7_stretches wsX7_stretches) := goodIn_app (goodIn_of _ (by decide +kernel)) ggL_law_X7_stretches
set_option maxRecDepth 20000 in
theorem ggL_law_X6_years : GoodIn wsL_law wsX6_years := goodIn_r _ [481, 24, 19, 108, 109, 2, 110, 482, 483, 484, 23, 485, 64, 412, 413, 414, 415, 416, 417, 418, 419, 218, 420, 421, 369, 422, 363, 364, 365, 366, 367, 368, 370, 351, 352, 353, 354, 451, 220, 221, 222, 486, 487, 488, 489, 490, 491, 492, 493, 359, 360, 361, 362, 355, 356, 357, 358, 371, 372, 373, 374, 494, 495, 496, 497, 498, 499, 500, 854, 855, 856, 857, 858, 859, 860, 861, 862, 863, 887, 888, 889, 890, 891, 892, 893, 894, 895, 896, 897, 898, 899] (by decide +kernel) (by decide +kernel)
set_option maxRecDepth 20000 in
theorem gL_law_X6_years : GoodIn wsL_law (wsV RL 53 RX6 yX6_years wsX6_years) := goodIn_app (goodIn_of _ (by decide +kernel)) ggL_law_X6_years
set_option maxRecDepth 20000 in
theorem ggL_law_X7_years : GoodIn wsL_law wsX7_years := goodIn_r _ [504, 469, 87, 86, 122, 123, 5, 124, 439, 440, 441, 442, 103, 88, 384, 385, 386, 387, 392, 393, 394, 395, 505, 506, 507, 508, 400, 401, 402, 403, 388, 389, 390, 391, 404, 405, 406, 407, 509, 510, 511, 864, 865, 866, 867, 868, 869, 870, 871, 872, 873, 874, 875, 876, 877, 878, 879, 880, 881, 882] (by decide +kernel) (by decide +kernel)
set_option maxRecDepth 20000 in
theorem gL_law_X7_years : GoodIn wsL_law (wsV RL 56 RX7 yX7_years wsX7_years) := goodIn_app (goodIn_of _ (by decide +kernel)) ggL_law_X7_years
set_option maxRecDepth 20000 in
theorem ggL_law_X6_undo : GoodIn wsL_law wsX6_undo := goodIn_r _ [515, 24, 516, 517, 518, 23, 519, 64, 416, 417, 418, 419, 218, 520, 368, 369, 370, 854, 855, 856, 857, 858, 859, 860, 861, 862, 863, 898, 899] (by decide +kernel) (by decide +kernel)
set_option maxRecDepth 20000 in
theorem gL_law_X6_undo : GoodIn wsL_law (wsV RL 57 RX6 yX6_undo wsX6_undo) := goodIn_app (goodIn_of _ (by decide +kernel)) ggL_law_X6_undo
set_option maxRecDepth 20000 in
theorem ggL_law_X7_undo : GoodIn wsL_law wsX7_undo := goodIn_r _ [524, 103, 87, 88, 864, 865, 866, 867, 868, 869, 870, 871, 872, 873, 874, 875, 876, 877, 878, 879, 880, 881, 882] (by decide +kernel) (by decide +kernel)
set_option maxRecDepth 20000 in
theorem gL_law_X7_undo : GoodIn wsL_law (wsV RL 60 RX7 yX7_undo wsX7_undo) := goodIn_app (goodIn_of _ (by decide +kernel)) ggL_law_X7_undo
set_option maxRecDepth 20000 in
theorem ggL_law_X6_now : GoodIn wsL_law wsX6_now := goodIn_r _ [528, 24, 19, 482, 483, 484, 23, 485, 64, 431, 432, 433, 434, 307, 308, 309, 310, 490, 491, 492, 2, 493, 359, 360, 361, 362, 363, 364, 365, 366, 367, 368, 369, 370, 351, 352, 353, 354, 355, 356, 357, 358, 371, 372, 373, 374, 529, 530, 531, 532, 533, 534, 535, 536, 303, 304, 305, 48, 306, 60, 854, 855, 856, 857, 858, 859, 860, 861, 862, 863, 887, 888, 889, 890, 891, 892, 893, 894, 895, 896, 897, 912, 913, 914, 915, 916, 917, 918, 898, 899] (by decide +kernel) (by decide +kernel)
set_option maxRecDepth 20000 in
theorem gL_law_X6_now : GoodIn wsL_law (wsV RL 61 RX6 yX6_now wsX6_now) := goodIn_app (goodIn_of _ (by decide +kernel)) ggL_law_X6_now
set_option maxRecDepth 20000 in
theorem ggL_law_X7_now : GoodIn wsL_law wsX7_now := goodIn_r _ [540, 86, 87, 505, 506, 507, 5, 508, 400, 401, 402, 403, 384, 385, 386, 387, 392, 393, 394, 395, 388, 389, 390, 391, 404, 405, 406, 407, 396, 397, 398, 399, 339, 340, 341, 342, 864, 865, 866, 867, 868, 869, 870, 871, 872, 873, 874, 875, 876, 877, 878, 879, 880, 881, 882] (by decide +kernel) (by decide +kernel)
set_option maxRecDepth 20000 in
theorem gL_law_X7_now : GoodIn wsL_law (wsV RL 64 RX7 yX7_now wsX7_now) := goodIn_app (goodIn_of _ (by decide +kernel)) ggL_law_X7_now
set_option maxRecDepth 20000 in
theorem ggL_law_X6_lasts : GoodIn wsL_law wsX6_lasts := goodIn_r _ [544, 347, 348, 349, 2, 350, 19, 108, 109, 110, 545, 546, 547, 548, 359, 360, 361, 362, 24, 363, 364, 365, 366, 367, 368, 369, 370, 351, 352, 353, 23, 354, 64, 355, 356, 357, 358, 371, 372, 373, 374, 549, 550, 551, 552, 553, 554, 555, 556, 557, 558, 559, 854, 855, 856, 857, 858, 859, 860, 861, 862, 863, 887, 888, 889, 890, 891, 892, 893, 894, 895, 896, 897, 898, 899] (by decide +kernel) (by decide +kernel)
set_option maxRecDepth 20000 in
theorem gL_law_X6_lasts : GoodIn wsL_law (wsV RL 65 RX6 yX6_lasts wsX6_lasts) := goodIn_app (goodIn_of _ (by decide +kernel)) ggL_law_X6_lasts
set_option maxRecDepth 20000 in
theorem ggL_law_X7_lasts : GoodIn wsL_law wsX7_lasts := goodIn_r _ [563, 380, 381, 382, 5, 383, 86, 122, 123, 124, 564, 565, 566, 567, 400, 401, 402, 403, 384, 385, 386, 387, 87, 392, 393, 394, 395, 388, 389, 390, 391, 404, 405, 406, 407, 864, 865, 866, 867, 868, 869, 870, 871, 872, 873, 874, 875, 876, 877, 878, 879, 880, 881, 882] (by decide +kernel) (by decide +kernel)
set_option maxRecDepth 20000 in
theorem gL_law_X7_lasts : GoodIn wsL_law (wsV RL 68 RX7 yX7_lasts wsX7_lasts) := goodIn_app (goodIn_of _ (by decide +kernel)) ggL_law_X7_lasts
set_option maxRecDepth 20000 in
theorem ggL_law_X6_first : GoodIn wsL_law wsX6_first := goodIn_r _ [571, 19, 545, 546, 547, 2, 548, 359, 360, 361, 362, 24, 363, 364, 365, 366, 367, 368, 369, 370, 351, 352, 353, 23, 354, 64, 355, 356, 357, 358, 371, 372, 373, 374, 549, 550, 551, 552, 553, 554, 555, 556, 557, 558, 559, 854, 855, 856, 857, 858, 859, 860, 861, 862, 863, 887, 888, 889, 890, 891, 892, 893, 894, 895, 896, 897, 898, 899] (by decide +kernel) (by decide +kernel)
set_option maxRecDepth 20000 in
theorem gL_law_X6_first : GoodIn wsL_law (wsV RL 69 RX6 yX6_first wsX6_first) := goodIn_app (goodIn_of _ (by decide +kernel)) ggL_law_X6_first
set_option maxRecDepth 20000 in
theorem ggL_law_X7_first : GoodIn wsL_law wsX7_first := goodIn_r _ [575, 86, 564, 565, 566, 5, 567, 400, 401, 402, 403, 384, 385, 386, 387, 87, 392, 393, 394, 395, 388, 389, 390, 391, 404, 405, 406, 407, 864, 865, 866, 867, 868, 869, 870, 871, 872, 873, 874, 875, 876, 877, 878, 879, 880, 881, 882] (by decide +kernel) (by decide +kernel)
set_option maxRecDepth 20000 in
theorem gL_law_X7_first : GoodIn wsL_law (wsV RL 72 RX7 yX7_first wsX7_first) := goodIn_app (goodIn_of _ (by decide +kernel)) ggL_law_X7_first
set_option maxRecDepth 20000 in
theorem ggL_law_X6_needs : GoodIn wsL_law wsX6_needs := goodIn_r _ [579, 347, 348, 349, 2, 350, 19, 108, 109, 110, 580, 581, 582, 583, 24, 367, 368, 369, 370, 553, 554, 555, 556, 355, 356, 357, 23, 358, 64, 557, 558, 559, 351, 352, 353, 354, 854, 855, 856, 857, 858, 859, 860, 861, 862, 863, 887, 888, 889, 890, 891, 892, 893, 894, 895, 896, 897, 898, 899] (by decide +kernel) (by decide +kernel)
set_option maxRecDepth 20000 in
theorem gL_law_X6_needs : GoodIn wsL_law (wsV RL 73 RX6 yX6_needs wsX6_needs) := goodIn_app (goodIn_of _ (by decide +kernel)) ggL_law_X6_needs
set_option maxRecDepth 20000 in
theorem ggL_law_X7_needs : GoodIn wsL_law wsX7_needs := goodIn_r _ [587, 469, 380, 381, 382, 5, 383, 86, 122, 123, 124, 588, 589, 590, 591, 384, 385, 386, 387, 87, 400, 401, 402, 403, 392, 393, 394, 395, 388, 389, 390, 391, 404, 405, 406, 407, 864, 865, 866, 867, 868, 869, 870, 871, 872, 873, 874, 875, 876, 877, 878, 879, 880, 881, 882] (by decide +kernel) (by decide +kernel)
set_option maxRecDepth 20000 in
theorem gL_law_X7_needs : GoodIn wsL_law (wsV RL 76 RX7 yX7_needs wsX7_needs) := goodIn_app (goodIn_of _ (by decide +kernel)) ggL_law_X7_needs
set_option maxRecDepth 20000 in
theorem ggL_law_X6_kept : GoodIn wsL_law wsX6_kept := goodIn_r _ [595, 108, 109, 2, 110, 596, 597, 598, 599, 19, 529, 530, 531, 532, 600, 601, 602, 603, 580, 581, 582, 583, 24, 367, 368, 369, 370, 553, 554, 555, 556, 355, 356, 357, 23, 358, 64, 557, 558, 559, 351, 352, 353, 354, 604, 605, 606, 607, 431, 432, 433, 434, 447, 448, 449, 450, 854, 855, 856, 857, 858, 859, 860, 861, 862, 863, 887, 888, 889, 890, 891, 892, 893, 894, 895, 896, 897, 898, 899] (by decide +kernel) (by decide +kernel)
set_option maxRecDepth 20000 in
theorem gL_law_X6_kept : GoodIn wsL_law (wsV RL 77 RX6 yX6_kept wsX6_kept) := goodIn_app (goodIn_of _ (by decide +kernel)) ggL_law_X6_kept
set_option maxRecDepth 20000 in
theorem ggL_law_X7_kept : GoodIn wsL_law wsX7_kept := goodIn_r _ [611, 469, 330, 86, 89, 87, 122, 123, 5, 124, 588, 589, 590, 591, 384, 385, 386, 387, 400, 401, 402, 403, 392, 393, 394, 395, 388, 389, 390, 391, 404, 405, 406, 407, 457, 458, 459, 460, 396, 397, 398, 399, 864, 865, 866, 867, 868, 869, 870, 871, 872, 873, 874, 875, 876, 877, 878, 879, 880, 881, 882] (by decide +kernel) (by decide +kernel)
set_option maxRecDepth 20000 in
theorem gL_law_X7_kept : GoodIn wsL_law (wsV RL 80 RX7 yX7_kept wsX7_kept) := goodIn_app (goodIn_of _ (by decide +kernel)) ggL_law_X7_kept
set_option maxRecDepth 20000 in
theorem ggL_law_X6_bestDig : GoodIn wsL_law wsX6_bestDig := goodIn_r _ [615, 32, 19, 24, 108, 109, 2, 110, 307, 308, 309, 23, 310, 64, 616, 617, 618, 31, 619, 72, 70, 71, 68, 69, 620, 621, 622, 623, 624, 625, 626, 627, 628, 495, 496, 497, 498, 499, 500, 629, 630, 631, 48, 632, 633, 319, 320, 321, 157, 158, 322, 323, 324, 325, 159, 160, 155, 634, 635, 636, 637, 854, 855, 856, 857, 858, 859, 860, 861, 862, 863, 887, 888, 889, 890, 891, 892, 893, 894, 895, 896, 897, 900, 901, 902, 903, 904, 898, 899, 912, 913, 914, 915, 916, 917, 918] (by decide +kernel) (by decide +kernel)
