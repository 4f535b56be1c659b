set_option maxRecDepth 20000 in
theorem ggX7_paints_X7_isThing : GoodIn wsX7_paints wsX7_isThing := goodIn_r _ [7, 8, 9, 10, 6, 11, 22, 23, 24, 25, 26, 27, 28, 29, 30, 31, 32, 33, 34, 35, 36, 37, 38, 39, 40] (by decide +kernel) (by decide +kernel)
set_option maxRecDepth 20000 in
theorem gX7_paints_X7_isThing : GoodIn wsX7_paints (wsV RX7 147 RX7 yX7_isThing wsX7_isThing) := goodIn_app (goodIn_of _ (by decide +kernel)) ggX7_paints_X7_isThing
set_option maxRecDepth 20000 in
theorem ggX7_paints_X7_in : GoodIn wsX7_paints wsX7_in := goodIn_r _ [11] (by decide +kernel) (by decide +kernel)
set_option maxRecDepth 20000 in
theorem gX7_paints_X7_in : GoodIn wsX7_paints (va_wsS RX7 48 yX7_in wsX7_in) := goodIn_app (goodIn_of _ (by decide +kernel)) ggX7_paints_X7_in
set_option maxRecDepth 20000 in
theorem ggX7_paints_X7_yellow : GoodIn wsX7_paints wsX7_yellow := goodIn_r _ [15, 2, 22, 23, 24, 25, 26, 27, 28, 29, 30, 31, 32, 33, 34, 35, 36, 37, 38, 39, 40] (by decide +kernel) (by decide +kernel)
set_option maxRecDepth 20000 in
theorem gX7_paints_X7_yellow : GoodIn wsX7_paints (wsV RX7 122 RX7 yX7_yellow wsX7_yellow) := goodIn_app (goodIn_of _ (by decide +kernel)) ggX7_paints_X7_yellow
set_option maxRecDepth 20000 in
theorem ggX7_paints_X7_notes : GoodIn wsX7_paints wsX7_notes := goodIn_r _ [19, 20, 21, 2, 22, 23, 24, 25, 26, 27, 28, 29, 30, 31, 32, 33, 34, 35, 36, 37, 38, 39, 40] (by decide +kernel) (by decide +kernel)
set_option maxRecDepth 20000 in
theorem gX7_paints_X7_notes : GoodIn wsX7_paints (wsV RX7 158 RX7 yX7_notes wsX7_notes) := goodIn_app (goodIn_of _ (by decide +kernel)) ggX7_paints_X7_notes
theorem dX7_paints_0 : decode cX7_paints 0 = .ok (.aload_n 0, 1) := by decide +kernel
theorem dX7_paints_1 : decode cX7_paints 1 = .ok (.iload_n 1, 1) := by decide +kernel
theorem dX7_paints_2 : decode cX7_paints 2 = .ok (.invokevirtual 147, 3) := by decide +kernel
theorem dX7_paints_5 : decode cX7_paints 5 = .ok (.ifCond .eq 15, 3) := by decide +kernel
theorem dX7_paints_8 : decode cX7_paints 8 = .ok (.iload_n 2, 1) := by decide +kernel
theorem dX7_paints_9 : decode cX7_paints 9 = .ok (.i2l, 1) := by decide +kernel
theorem dX7_paints_10 : decode cX7_paints 10 = .ok (.lconst 1, 1) := by decide +kernel
theorem dX7_paints_11 : decode cX7_paints 11 = .ok (.ldc2_w 164, 3) := by decide +kernel
theorem dX7_paints_14 : decode cX7_paints 14 = .ok (.invokestatic 48, 3) := by decide +kernel
theorem dX7_paints_17 : decode cX7_paints 17 = .ok (.ifCond .ne 5, 3) := by decide +kernel
theorem dX7_paints_20 : decode cX7_paints 20 = .ok (.iconst (-1), 1) := by decide +kernel
theorem dX7_paints_21 : decode cX7_paints 21 = .ok (.ireturn, 1) := by decide +kernel
theorem dX7_paints_22 : decode cX7_paints 22 = .ok (.aload_n 0, 1) := by decide +kernel
theorem dX7_paints_23 : decode cX7_paints 23 = .ok (.getfield 19, 3) := by decide +kernel
theorem dX7_paints_26 : decode cX7_paints 26 = .ok (.iconst 1, 1) := by decide +kernel
theorem dX7_paints_27 : decode cX7_paints 27 = .ok (.iaload, 1) := by decide +kernel
theorem dX7_paints_28 : decode cX7_paints 28 = .ok (.iload_n 2, 1) := by decide +kernel
theorem dX7_paints_29 : decode cX7_paints 29 = .ok (.if_icmp .ge 6, 3) := by decide +kernel
theorem dX7_paints_32 : decode cX7_paints 32 = .ok (.bipush (-2), 2) := by decide +kernel
theorem dX7_paints_34 : decode cX7_paints 34 = .ok (.ireturn, 1) := by decide +kernel
theorem dX7_paints_35 : decode cX7_paints 35 = .ok (.aload_n 0, 1) := by decide +kernel
theorem dX7_paints_36 : decode cX7_paints 36 = .ok (.iload_n 1, 1) := by decide +kernel
theorem dX7_paints_37 : decode cX7_paints 37 = .ok (.invokevirtual 122, 3) := by decide +kernel
theorem dX7_paints_40 : decode cX7_paints 40 = .ok (.iload_n 2, 1) := by decide +kernel
theorem dX7_paints_41 : decode cX7_paints 41 = .ok (.iadd, 1) := by decide +kernel
theorem dX7_paints_42 : decode cX7_paints 42 = .ok (.sipush 999, 3) := by decide +kernel
theorem dX7_paints_45 : decode cX7_paints 45 = .ok (.if_icmp .le 6, 3) := by decide +kernel
theorem dX7_paints_48 : decode cX7_paints 48 = .ok (.bipush (-3), 2) := by decide +kernel
theorem dX7_paints_50 : decode cX7_paints 50 = .ok (.ireturn, 1) := by decide +kernel
theorem dX7_paints_51 : decode cX7_paints 51 = .ok (.aload_n 0, 1) := by decide +kernel
theorem dX7_paints_52 : decode cX7_paints 52 = .ok (.invokevirtual 158, 3) := by decide +kernel
theorem dX7_paints_55 : decode cX7_paints 55 = .ok (.aload_n 0, 1) := by decide +kernel
theorem dX7_paints_56 : decode cX7_paints 56 = .ok (.getfield 19, 3) := by decide +kernel
theorem dX7_paints_59 : decode cX7_paints 59 = .ok (.iconst 1, 1) := by decide +kernel
theorem dX7_paints_60 : decode cX7_paints 60 = .ok (.dup2, 1) := by decide +kernel
theorem dX7_paints_61 : decode cX7_paints 61 = .ok (.iaload, 1) := by decide +kernel
theorem dX7_paints_62 : decode cX7_paints 62 = .ok (.iload_n 2, 1) := by decide +kernel
theorem dX7_paints_63 : decode cX7_paints 63 = .ok (.isub, 1) := by decide +kernel
theorem dX7_paints_64 : decode cX7_paints 64 = .ok (.iastore, 1) := by decide +kernel
theorem dX7_paints_65 : decode cX7_paints 65 = .ok (.aload_n 0, 1) := by decide +kernel
theorem dX7_paints_66 : decode cX7_paints 66 = .ok (.getfield 19, 3) := by decide +kernel
theorem dX7_paints_69 : decode cX7_paints 69 = .ok (.iconst 3, 1) := by decide +kernel
theorem dX7_paints_70 : decode cX7_paints 70 = .ok (.iconst 2, 1) := by decide +kernel
theorem dX7_paints_71 : decode cX7_paints 71 = .ok (.iload_n 1, 1) := by decide +kernel
theorem dX7_paints_72 : decode cX7_paints 72 = .ok (.imul, 1) := by decide +kernel
theorem dX7_paints_73 : decode cX7_paints 73 = .ok (.iadd, 1) := by decide +kernel
theorem dX7_paints_74 : decode cX7_paints 74 = .ok (.dup2, 1) := by decide +kernel
theorem dX7_paints_75 : decode cX7_paints 75 = .ok (.iaload, 1) := by decide +kernel
theorem dX7_paints_76 : decode cX7_paints 76 = .ok (.iload_n 2, 1) := by decide +kernel
theorem dX7_paints_77 : decode cX7_paints 77 = .ok (.iadd, 1) := by decide +kernel
theorem dX7_paints_78 : decode cX7_paints 78 = .ok (.iastore, 1) := by decide +kernel
theorem dX7_paints_79 : decode cX7_paints 79 = .ok (.aload_n 0, 1) := by decide +kernel
theorem dX7_paints_80 : decode cX7_paints 80 = .ok (.iload_n 1, 1) := by decide +kernel
theorem dX7_paints_81 : decode cX7_paints 81 = .ok (.invokevirtual 122, 3) := by decide +kernel
theorem dX7_paints_84 : decode cX7_paints 84 = .ok (.ireturn, 1) := by decide +kernel
set_option maxRecDepth 20000 in
theorem ggX7_stretches_X7_isThing : GoodIn wsX7_stretches wsX7_isThing := goodIn_r _ [7, 8, 9, 10, 6, 11, 22, 23, 24, 25, 26, 27, 28, 29, 30, 31, 32, 33, 34, 35, 36, 37, 38, 39, 40] (by decide +kernel) (by decide +kernel)
set_option maxRecDepth 20000 in
theorem gX7_stretches_X7_isThing : GoodIn wsX7_stretches (wsV RX7 147 RX7 yX7_isThing wsX7_isThing) := goodIn_app (goodIn_of _ (by decide +kernel)) ggX7_stretches_X7_isThing
set_option maxRecDepth 20000 in
theorem ggX7_stretches_X7_in : GoodIn wsX7_stretches wsX7_in := goodIn_r _ [11] (by decide +kernel) (by decide +kernel)
set_option maxRecDepth 20000 in
theorem gX7_stretches_X7_in : GoodIn wsX7_stretches (va_wsS RX7 48 yX7_in wsX7_in) := goodIn_app (goodIn_of _ (by decide +kernel)) ggX7_stretches_X7_in
set_option maxRecDepth 20000 in
theorem ggX7_stretches_X7_white : GoodIn wsX7_stretches wsX7_white := goodIn_r _ [15, 2, 22, 23, 24, 25, 26, 27, 28, 29, 30, 31, 32, 33, 34, 35, 36, 37, 38, 39, 40] (by decide +kernel) (by decide +kernel)
set_option maxRecDepth 20000 in
theorem gX7_stretches_X7_white : GoodIn wsX7_stretches (wsV RX7 129 RX7 yX7_white wsX7_white) := goodIn_app (goodIn_of _ (by decide +kernel)) ggX7_stretches_X7_white
set_option maxRecDepth 20000 in
theorem ggX7_stretches_X7_notes : GoodIn wsX7_stretches wsX7_notes := goodIn_r _ [19, 20, 21, 2, 22, 23, 24, 25, 26, 27, 28, 29, 30, 31, 32, 33, 34, 35, 36, 37, 38, 39, 40] (by decide +kernel) (by decide +kernel)
set_option maxRecDepth 20000 in
theorem gX7_stretches_X7_notes : GoodIn wsX7_stretches (wsV RX7 158 RX7 yX7_notes wsX7_notes) := goodIn_app (goodIn_of _ (by decide +kernel)) ggX7_stretches_X7_notes
theorem dX7_stretches_0 : decode cX7_stretches 0 = .ok (.aload_n 0, 1) := by decide +kernel
theorem dX7_stretches_1 : decode cX7_stretches 1 = .ok (.iload_n 1, 1) := by decide +kernel
theorem dX7_stretches_2 : decode cX7_stretches 2 = .ok (.invokevirtual 147, 3) := by decide +kernel
theorem dX7_stretches_5 : decode cX7_stretches 5 = .ok (.ifCond .eq 15, 3) := by decide +kernel
theorem dX7_stretches_8 : decode cX7_stretches 8 = .ok (.iload_n 2, 1) := by decide +kernel
theorem dX7_stretches_9 : decode cX7_stretches 9 = .ok (.i2l, 1) := by decide +kernel
theorem dX7_stretches_10 : decode cX7_stretches 10 = .ok (.lconst 1, 1) := by decide +kernel
theorem dX7_stretches_11 : decode cX7_stretches 11 = .ok (.ldc2_w 164, 3) := by decide +kernel
theorem dX7_stretches_14 : decode cX7_stretches 14 = .ok (.invokestatic 48, 3) := by decide +kernel
theorem dX7_stretches_17 : decode cX7_stretches 17 = .ok (.ifCond .ne 5, 3) := by decide +kernel
theorem dX7_stretches_20 : decode cX7_stretches 20 = .ok (.iconst (-1), 1) := by decide +kernel
theorem dX7_stretches_21 : decode cX7_stretches 21 = .ok (.ireturn, 1) := by decide +kernel
theorem dX7_stretches_22 : decode cX7_stretches 22 = .ok (.aload_n 0, 1) := by decide +kernel
theorem dX7_stretches_23 : decode cX7_stretches 23 = .ok (.iload_n 1, 1) := by decide +kernel
theorem dX7_stretches_24 : decode cX7_stretches 24 = .ok (.invokevirtual 129, 3) := by decide +kernel
theorem dX7_stretches_27 : decode cX7_stretches 27 = .ok (.iload_n 2, 1) := by decide +kernel
theorem dX7_stretches_28 : decode cX7_stretches 28 = .ok (.iadd, 1) := by decide +kernel
theorem dX7_stretches_29 : decode cX7_stretches 29 = .ok (.sipush 999, 3) := by decide +kernel
theorem dX7_stretches_32 : decode cX7_stretches 32 = .ok (.if_icmp .le 6, 3) := by decide +kernel
theorem dX7_stretches_35 : decode cX7_stretches 35 = .ok (.bipush (-3), 2) := by decide +kernel
theorem dX7_stretches_37 : decode cX7_stretches 37 = .ok (.ireturn, 1) := by decide +kernel
theorem dX7_stretches_38 : decode cX7_stretches 38 = .ok (.aload_n 0, 1) := by decide +kernel
theorem dX7_stretches_39 : decode cX7_stretches 39 = .ok (.invokevirtual 158, 3) := by decide +kernel
theorem dX7_stretches_42 : decode cX7_stretches 42 = .ok (.aload_n 0, 1) := by decide +kernel
theorem dX7_stretches_43 : decode cX7_stretches 43 = .ok (.getfield 19, 3) := by decide +kernel
theorem dX7_stretches_46 : decode cX7_stretches 46 = .ok (.iconst 4, 1) := by decide +kernel
theorem dX7_stretches_47 : decode cX7_stretches 47 = .ok (.iconst 2, 1) := by decide +kernel
theorem dX7_stretches_48 : decode cX7_stretches 48 = .ok (.iload_n 1, 1) := by decide +kernel
theorem dX7_stretches_49 : decode cX7_stretches 49 = .ok (.imul, 1) := by decide +kernel
theorem dX7_stretches_50 : decode cX7_stretches 50 = .ok (.iadd, 1) := by decide +kernel
theorem dX7_stretches_51 : decode cX7_stretches 51 = .ok (.dup2, 1) := by decide +kernel
theorem dX7_stretches_52 : decode cX7_stretches 52 = .ok (.iaload, 1) := by decide +kernel
theorem dX7_stretches_53 : decode cX7_stretches 53 = .ok (.iload_n 2, 1) := by decide +kernel
theorem dX7_stretches_54 : decode cX7_stretches 54 = .ok (.iadd, 1) := by decide +kernel
theorem dX7_stretches_55 : decode cX7_stretches 55 = .ok (.iastore, 1) := by decide +kernel
theorem dX7_stretches_56 : decode cX7_stretches 56 = .ok (.aload_n 0, 1) := by decide +kernel
theorem dX7_stretches_57 : decode cX7_stretches 57 = .ok (.iload_n 1, 1) := by decide +kernel
theorem dX7_stretches_58 : decode cX7_stretches 58 = .ok (.invokevirtual 129, 3) := by decide +kernel
theorem dX7_stretches_61 : decode cX7_stretches 61 = .ok (.ireturn, 1) := by decide +kernel
set_option maxRecDepth 20000 in
theorem ggX7_called_X7_isThen : GoodIn wsX7_called wsX7_isThen := goodIn_r _ [6, 7, 8, 9, 5, 10, 11, 12, 13, 14, 15, 1, 16, 17, 18, 19, 20, 21, 22, 23, 24, 25, 26, 27, 28, 29, 30, 31, 32, 33, 34, 35, 36, 37, 38, 39, 40, 41, 42] (by decide +kernel) (by decide +kernel)
set_option maxRecDepth 20000 in
theorem gX7_called_X7_isThen : GoodIn wsX7_called (wsV RX7 155 RX7 yX7_isThen wsX7_isThen) := goodIn_app (goodIn_of _ (by decide +kernel)) ggX7_called_X7_isThen
theorem dX7_called_0 : decode cX7_called 0 = .ok (.iconst 0, 1) := by decide +kernel
theorem dX7_called_1 : decode cX7_called 1 = .ok (.istore_n 1, 1) := by decide +kernel
theorem dX7_called_2 : decode cX7_called 2 = .ok (.iconst 0, 1) := by decide +kernel
theorem dX7_called_3 : decode cX7_called 3 = .ok (.istore_n 2, 1) := by decide +kernel
theorem dX7_called_4 : decode cX7_called 4 = .ok (.iload_n 2, 1) := by decide +kernel
theorem dX7_called_5 : decode cX7_called 5 = .ok (.aload_n 0, 1) := by decide +kernel
theorem dX7_called_6 : decode cX7_called 6 = .ok (.getfield 16, 3) := by decide +kernel
theorem dX7_called_9 : decode cX7_called 9 = .ok (.iconst 2, 1) := by decide +kernel
theorem dX7_called_10 : decode cX7_called 10 = .ok (.iaload, 1) := by decide +kernel
theorem dX7_called_11 : decode cX7_called 11 = .ok (.if_icmp .ge 29, 3) := by decide +kernel
theorem dX7_called_14 : decode cX7_called 14 = .ok (.iload_n 1, 1) := by decide +kernel
theorem dX7_called_15 : decode cX7_called 15 = .ok (.aload_n 0, 1) := by decide +kernel
theorem dX7_called_16 : decode cX7_called 16 = .ok (.iload_n 2, 1) := by decide +kernel
theorem dX7_called_17 : decode cX7_called 17 = .ok (.iconst 0, 1) := by decide +kernel
theorem dX7_called_18 : decode cX7_called 18 = .ok (.iconst 0, 1) := by decide +kernel
theorem dX7_called_19 : decode cX7_called 19 = .ok (.invokevirtual 155, 3) := by decide +kernel
theorem dX7_called_22 : decode cX7_called 22 = .ok (.ifCond .eq 9, 3) := by decide +kernel
theorem dX7_called_25 : decode cX7_called 25 = .ok (.iconst 1, 1) := by decide +kernel
theorem dX7_called_26 : decode cX7_called 26 = .ok (.iload_n 2, 1) := by decide +kernel
theorem dX7_called_27 : decode cX7_called 27 = .ok (.ishl, 1) := by decide +kernel
theorem dX7_called_28 : decode cX7_called 28 = .ok (.goto 4, 3) := by decide +kernel
theorem dX7_called_31 : decode cX7_called 31 = .ok (.iconst 0, 1) := by decide +kernel
theorem dX7_called_32 : decode cX7_called 32 = .ok (.ior, 1) := by decide +kernel
theorem dX7_called_33 : decode cX7_called 33 = .ok (.istore_n 1, 1) := by decide +kernel
theorem dX7_called_34 : decode cX7_called 34 = .ok (.iinc 2 1, 3) := by decide +kernel
theorem dX7_called_37 : decode cX7_called 37 = .ok (.goto (-33), 3) := by decide +kernel
theorem dX7_called_40 : decode cX7_called 40 = .ok (.iload_n 1, 1) := by decide +kernel
theorem dX7_called_41 : decode cX7_called 41 = .ok (.ireturn, 1) := by decide +kernel
theorem dX7_many_0 : decode cX7_many 0 = .ok (.iconst 0, 1) := by decide +kernel
theorem dX7_many_1 : decode cX7_many 1 = .ok (.istore_n 1, 1) := by decide +kernel
theorem dX7_many_2 : decode cX7_many 2 = .ok (.iload_n 0, 1) := by decide +kernel
theorem dX7_many_3 : decode cX7_many 3 = .ok (.istore_n 2, 1) := by decide +kernel
theorem dX7_many_4 : decode cX7_many 4 = .ok (.iload_n 2, 1) := by decide +kernel
theorem dX7_many_5 : decode cX7_many 5 = .ok (.ifCond .eq 15, 3) := by decide +kernel
theorem dX7_many_8 : decode cX7_many 8 = .ok (.iinc 1 1, 3) := by decide +kernel
theorem dX7_many_11 : decode cX7_many 11 = .ok (.iload_n 2, 1) := by decide +kernel
theorem dX7_many_12 : decode cX7_many 12 = .ok (.iload_n 2, 1) := by decide +kernel
theorem dX7_many_13 : decode cX7_many 13 = .ok (.iconst 1, 1) := by decide +kernel
theorem dX7_many_14 : decode cX7_many 14 = .ok (.isub, 1) := by decide +kernel
theorem dX7_many_15 : decode cX7_many 15 = .ok (.iand, 1) := by decide +kernel
theorem dX7_many_16 : decode cX7_many 16 = .ok (.istore_n 2, 1) := by decide +kernel
theorem dX7_many_17 : decode cX7_many 17 = .ok (.goto (-13), 3) := by decide +kernel
theorem dX7_many_20 : decode cX7_many 20 = .ok (.iload_n 1, 1) := by decide +kernel
theorem dX7_many_21 : decode cX7_many 21 = .ok (.ireturn, 1) := by decide +kernel
set_option maxRecDepth 20000 in
theorem ggX7_years_X7_in : GoodIn wsX7_years wsX7_in := goodIn_r _ [7] (by decide +kernel) (by decide +kernel)
set_option maxRecDepth 20000 in
theorem gX7_years_X7_in : GoodIn wsX7_years (va_wsS RX7 48 yX7_in wsX7_in) := goodIn_app (goodIn_of _ (by decide +kernel)) ggX7_years_X7_in
set_option maxRecDepth 20000 in
theorem ggX7_years_X7_notes : GoodIn wsX7_years wsX7_notes := goodIn_r _ [11, 12, 13, 2, 41, 42, 43, 44, 45, 46, 47, 48, 49, 50, 51, 52, 53, 54, 55, 56, 57, 58, 59] (by decide +kernel) (by decide +kernel)
set_option maxRecDepth 20000 in
theorem gX7_years_X7_notes : GoodIn wsX7_years (wsV RX7 158 RX7 yX7_notes wsX7_notes) := goodIn_app (goodIn_of _ (by decide +kernel)) ggX7_years_X7_notes
set_option maxRecDepth 20000 in
theorem ggX7_years_X7_yellow : GoodIn wsX7_years wsX7_yellow := goodIn_r _ [17, 2, 41, 42, 43, 44, 45, 46, 47, 48, 49, 50, 51, 52, 53, 54, 55, 56, 57, 58, 59] (by decide +kernel) (by decide +kernel)
set_option maxRecDepth 20000 in
theorem gX7_years_X7_yellow : GoodIn wsX7_years (wsV RX7 122 RX7 yX7_yellow wsX7_yellow) := goodIn_app (goodIn_of _ (by decide +kernel)) ggX7_years_X7_yellow
set_option maxRecDepth 20000 in
theorem ggX7_years_X7_fades : GoodIn wsX7_years wsX7_fades := goodIn_r _ [21, 3, 41, 42, 43, 44, 45, 46, 47, 48, 49, 50, 51, 52, 53, 54, 55, 56, 57, 58, 59] (by decide +kernel) (by decide +kernel)
set_option maxRecDepth 20000 in
theorem gX7_years_X7_fades : GoodIn wsX7_years (wsV RX7 126 RX7 yX7_fades wsX7_fades) := goodIn_app (goodIn_of _ (by decide +kernel)) ggX7_years_X7_fades
set_option maxRecDepth 20000 in
theorem ggX7_years_X7_called : GoodIn wsX7_years wsX7_called := goodIn_r _ [25, 3, 26, 27, 28, 6, 29, 14, 15, 16, 17, 2, 18, 19, 20, 21, 30, 31, 32, 33, 34, 35, 36, 37, 41, 42, 43, 44, 45, 46, 47, 48, 49, 50, 51, 52, 53, 54, 55, 56, 57, 58, 59] (by decide +kernel) (by decide +kernel)
set_option maxRecDepth 20000 in
theorem gX7_years_X7_called : GoodIn wsX7_years (wsV RX7 166 RX7 yX7_called wsX7_called) := goodIn_app (goodIn_of _ (by decide +kernel)) ggX7_years_X7_called
set_option maxRecDepth 20000 in
theorem ggX7_years_X7_many : GoodIn wsX7_years wsX7_many := goodIn_r _ [40] (by decide +kernel) (by decide +kernel)
set_option maxRecDepth 20000 in
theorem gX7_years_X7_many : GoodIn wsX7_years (va_wsS RX7 169 yX7_many wsX7_many) := goodIn_app (goodIn_of _ (by decide +kernel)) ggX7_years_X7_many
theorem dX7_years_0 : decode cX7_years 0 = .ok (.iload_n 1, 1) := by decide +kernel
theorem dX7_years_1 : decode cX7_years 1 = .ok (.i2l, 1) := by decide +kernel
theorem dX7_years_2 : decode cX7_years 2 = .ok (.lconst 1, 1) := by decide +kernel
theorem dX7_years_3 : decode cX7_years 3 = .ok (.ldc2_w 164, 3) := by decide +kernel
theorem dX7_years_6 : decode cX7_years 6 = .ok (.invokestatic 48, 3) := by decide +kernel
theorem dX7_years_9 : decode cX7_years 9 = .ok (.ifCond .ne 5, 3) := by decide +kernel
theorem dX7_years_12 : decode cX7_years 12 = .ok (.iconst (-1), 1) := by decide +kernel
theorem dX7_years_13 : decode cX7_years 13 = .ok (.ireturn, 1) := by decide +kernel
theorem dX7_years_14 : decode cX7_years 14 = .ok (.aload_n 0, 1) := by decide +kernel
theorem dX7_years_15 : decode cX7_years 15 = .ok (.getfield 19, 3) := by decide +kernel
theorem dX7_years_18 : decode cX7_years 18 = .ok (.iconst 0, 1) := by decide +kernel
theorem dX7_years_19 : decode cX7_years 19 = .ok (.iaload, 1) := by decide +kernel
theorem dX7_years_20 : decode cX7_years 20 = .ok (.iload_n 1, 1) := by decide +kernel
theorem dX7_years_21 : decode cX7_years 21 = .ok (.iadd, 1) := by decide +kernel
theorem dX7_years_22 : decode cX7_years 22 = .ok (.sipush 999, 3) := by decide +kernel
theorem dX7_years_25 : decode cX7_years 25 = .ok (.if_icmp .le 6, 3) := by decide +kernel
theorem dX7_years_28 : decode cX7_years 28 = .ok (.bipush (-2), 2) := by decide +kernel
theorem dX7_years_30 : decode cX7_years 30 = .ok (.ireturn, 1) := by decide +kernel
theorem dX7_years_31 : decode cX7_years 31 = .ok (.aload_n 0, 1) := by decide +kernel
theorem dX7_years_32 : decode cX7_years 32 = .ok (.invokevirtual 158, 3) := by decide +kernel
theorem dX7_years_35 : decode cX7_years 35 = .ok (.iconst 0, 1) := by decide +kernel
theorem dX7_years_36 : decode cX7_years 36 = .ok (.istore_n 2, 1) := by decide +kernel
theorem dX7_years_37 : decode cX7_years 37 = .ok (.iload_n 2, 1) := by decide +kernel
theorem dX7_years_38 : decode cX7_years 38 = .ok (.aload_n 0, 1) := by decide +kernel
theorem dX7_years_39 : decode cX7_years 39 = .ok (.getfield 16, 3) := by decide +kernel
theorem dX7_years_42 : decode cX7_years 42 = .ok (.iconst 2, 1) := by decide +kernel
theorem dX7_years_43 : decode cX7_years 43 = .ok (.iaload, 1) := by decide +kernel
theorem dX7_years_44 : decode cX7_years 44 = .ok (.if_icmp .ge 42, 3) := by decide +kernel
theorem dX7_years_47 : decode cX7_years 47 = .ok (.aload_n 0, 1) := by decide +kernel
theorem dX7_years_48 : decode cX7_years 48 = .ok (.iload_n 2, 1) := by decide +kernel
theorem dX7_years_49 : decode cX7_years 49 = .ok (.invokevirtual 122, 3) := by decide +kernel
theorem dX7_years_52 : decode cX7_years 52 = .ok (.iload_n 1, 1) := by decide +kernel
theorem dX7_years_53 : decode cX7_years 53 = .ok (.aload_n 0, 1) := by decide +kernel
theorem dX7_years_54 : decode cX7_years 54 = .ok (.iload_n 2, 1) := by decide +kernel
theorem dX7_years_55 : decode cX7_years 55 = .ok (.invokevirtual 126, 3) := by decide +kernel
theorem dX7_years_58 : decode cX7_years 58 = .ok (.imul, 1) := by decide +kernel
theorem dX7_years_59 : decode cX7_years 59 = .ok (.isub, 1) := by decide +kernel
theorem dX7_years_60 : decode cX7_years 60 = .ok (.istore_n 3, 1) := by decide +kernel
theorem dX7_years_61 : decode cX7_years 61 = .ok (.aload_n 0, 1) := by decide +kernel
theorem dX7_years_62 : decode cX7_years 62 = .ok (.getfield 19, 3) := by decide +kernel
theorem dX7_years_65 : decode cX7_years 65 = .ok (.iconst 3, 1) := by decide +kernel
theorem dX7_years_66 : decode cX7_years 66 = .ok (.iconst 2, 1) := by decide +kernel
theorem dX7_years_67 : decode cX7_years 67 = .ok (.iload_n 2, 1) := by decide +kernel
theorem dX7_years_68 : decode cX7_years 68 = .ok (.imul, 1) := by decide +kernel
theorem dX7_years_69 : decode cX7_years 69 = .ok (.iadd, 1) := by decide +kernel
theorem dX7_years_70 : decode cX7_years 70 = .ok (.iload_n 3, 1) := by decide +kernel
theorem dX7_years_71 : decode cX7_years 71 = .ok (.ifCond .ge 7, 3) := by decide +kernel
theorem dX7_years_74 : decode cX7_years 74 = .ok (.iconst 0, 1) := by decide +kernel
theorem dX7_years_75 : decode cX7_years 75 = .ok (.goto 4, 3) := by decide +kernel
theorem dX7_years_78 : decode cX7_years 78 = .ok (.iload_n 3, 1) := by decide +kernel
theorem dX7_years_79 : decode cX7_years 79 = .ok (.iastore, 1) := by decide +kernel
theorem dX7_years_80 : decode cX7_years 80 = .ok (.iinc 2 1, 3) := by decide +kernel
theorem dX7_years_83 : decode cX7_years 83 = .ok (.goto (-46), 3) := by decide +kernel
theorem dX7_years_86 : decode cX7_years 86 = .ok (.aload_n 0, 1) := by decide +kernel
theorem dX7_years_87 : decode cX7_years 87 = .ok (.getfield 19, 3) := by decide +kernel
theorem dX7_years_90 : decode cX7_years 90 = .ok (.iconst 0, 1) := by decide +kernel
theorem dX7_years_91 : decode cX7_years 91 = .ok (.dup2, 1) := by decide +kernel
theorem dX7_years_92 : decode cX7_years 92 = .ok (.iaload, 1) := by decide +kernel
theorem dX7_years_93 : decode cX7_years 93 = .ok (.iload_n 1, 1) := by decide +kernel
theorem dX7_years_94 : decode cX7_years 94 = .ok (.iadd, 1) := by decide +kernel
theorem dX7_years_95 : decode cX7_years 95 = .ok (.iastore, 1) := by decide +kernel
theorem dX7_years_96 : decode cX7_years 96 = .ok (.aload_n 0, 1) := by decide +kernel
theorem dX7_years_97 : decode cX7_years 97 = .ok (.invokevirtual 166, 3) := by decide +kernel
theorem dX7_years_100 : decode cX7_years 100 = .ok (.invokestatic 169, 3) := by decide +kernel
theorem dX7_years_103 : decode cX7_years 103 = .ok (.ireturn, 1) := by decide +kernel
theorem dX7_undo_0 : decode cX7_undo 0 = .ok (.aload_n 0, 1) := by decide +kernel
theorem dX7_undo_1 : decode cX7_undo 1 = .ok (.getfield 119, 3) := by decide +kernel
theorem dX7_undo_4 : decode cX7_undo 4 = .ok (.ifCond .ne 6, 3) := by decide +kernel
theorem dX7_undo_7 : decode cX7_undo 7 = .ok (.bipush (-2), 2) := by decide +kernel
theorem dX7_undo_9 : decode cX7_undo 9 = .ok (.ireturn, 1) := by decide +kernel
theorem dX7_undo_10 : decode cX7_undo 10 = .ok (.aload_n 0, 1) := by decide +kernel
theorem dX7_undo_11 : decode cX7_undo 11 = .ok (.dup, 1) := by decide +kernel
theorem dX7_undo_12 : decode cX7_undo 12 = .ok (.getfield 119, 3) := by decide +kernel
theorem dX7_undo_15 : decode cX7_undo 15 = .ok (.iconst 1, 1) := by decide +kernel
theorem dX7_undo_16 : decode cX7_undo 16 = .ok (.isub, 1) := by decide +kernel
theorem dX7_undo_17 : decode cX7_undo 17 = .ok (.putfield 119, 3) := by decide +kernel
theorem dX7_undo_20 : decode cX7_undo 20 = .ok (.iconst 0, 1) := by decide +kernel
theorem dX7_undo_21 : decode cX7_undo 21 = .ok (.istore_n 1, 1) := by decide +kernel
theorem dX7_undo_22 : decode cX7_undo 22 = .ok (.iload_n 1, 1) := by decide +kernel
theorem dX7_undo_23 : decode cX7_undo 23 = .ok (.bipush 15, 2) := by decide +kernel
theorem dX7_undo_25 : decode cX7_undo 25 = .ok (.if_icmp .ge 29, 3) := by decide +kernel
theorem dX7_undo_28 : decode cX7_undo 28 = .ok (.aload_n 0, 1) := by decide +kernel
theorem dX7_undo_29 : decode cX7_undo 29 = .ok (.getfield 19, 3) := by decide +kernel
theorem dX7_undo_32 : decode cX7_undo 32 = .ok (.iload_n 1, 1) := by decide +kernel
theorem dX7_undo_33 : decode cX7_undo 33 = .ok (.aload_n 0, 1) := by decide +kernel
theorem dX7_undo_34 : decode cX7_undo 34 = .ok (.getfield 22, 3) := by decide +kernel
theorem dX7_undo_37 : decode cX7_undo 37 = .ok (.bipush 15, 2) := by decide +kernel
theorem dX7_undo_39 : decode cX7_undo 39 = .ok (.aload_n 0, 1) := by decide +kernel
theorem dX7_undo_40 : decode cX7_undo 40 = .ok (.getfield 119, 3) := by decide +kernel
theorem dX7_undo_43 : decode cX7_undo 43 = .ok (.imul, 1) := by decide +kernel
theorem dX7_undo_44 : decode cX7_undo 44 = .ok (.iload_n 1, 1) := by decide +kernel
theorem dX7_undo_45 : decode cX7_undo 45 = .ok (.iadd, 1) := by decide +kernel
theorem dX7_undo_46 : decode cX7_undo 46 = .ok (.iaload, 1) := by decide +kernel
theorem dX7_undo_47 : decode cX7_undo 47 = .ok (.iastore, 1) := by decide +kernel
theorem dX7_undo_48 : decode cX7_undo 48 = .ok (.iinc 1 1, 3) := by decide +kernel
theorem dX7_undo_51 : decode cX7_undo 51 = .ok (.goto (-29), 3) := by decide +kernel
theorem dX7_undo_54 : decode cX7_undo 54 = .ok (.aload_n 0, 1) := by decide +kernel
theorem dX7_undo_55 : decode cX7_undo 55 = .ok (.getfield 119, 3) := by decide +kernel
theorem dX7_undo_58 : decode cX7_undo 58 = .ok (.ireturn, 1) := by decide +kernel
set_option maxRecDepth 20000 in
theorem ggX7_now_X7_called : GoodIn wsX7_now wsX7_called := goodIn_r _ [7, 1, 8, 9, 10, 6, 11, 12, 13, 14, 15, 2, 16, 17, 18, 19, 20, 21, 22, 23, 24, 25, 26, 27, 36, 37, 38, 39, 40, 41, 42, 43, 44, 45, 46, 47, 48, 49, 50, 51, 52, 53, 54] (by decide +kernel) (by decide +kernel)
set_option maxRecDepth 20000 in
theorem gX7_now_X7_called : GoodIn wsX7_now (wsV RX7 166 RX7 yX7_called wsX7_called) := goodIn_app (goodIn_of _ (by decide +kernel)) ggX7_now_X7_called
set_option maxRecDepth 20000 in
theorem ggX7_now_X7_worth : GoodIn wsX7_now wsX7_worth := goodIn_r _ [31, 1, 36, 37, 38, 39, 40, 41, 42, 43, 44, 45, 46, 47, 48, 49, 50, 51, 52, 53, 54] (by decide +kernel) (by decide +kernel)
set_option maxRecDepth 20000 in
theorem gX7_now_X7_worth : GoodIn wsX7_now (wsV RX7 152 RX7 yX7_worth wsX7_worth) := goodIn_app (goodIn_of _ (by decide +kernel)) ggX7_now_X7_worth
set_option maxRecDepth 20000 in
theorem ggX7_now_X7_yellow : GoodIn wsX7_now wsX7_yellow := goodIn_r _ [15, 2, 36, 37, 38, 39, 40, 41, 42, 43, 44, 45, 46, 47, 48, 49, 50, 51, 52, 53, 54] (by decide +kernel) (by decide +kernel)
set_option maxRecDepth 20000 in
theorem gX7_now_X7_yellow : GoodIn wsX7_now (wsV RX7 122 RX7 yX7_yellow wsX7_yellow) := goodIn_app (goodIn_of _ (by decide +kernel)) ggX7_now_X7_yellow
set_option maxRecDepth 20000 in
theorem ggX7_now_X7_cells : GoodIn wsX7_now wsX7_cells := goodIn_r _ [35, 1, 36, 37, 38, 39, 40, 41, 42, 43, 44, 45, 46, 47, 48, 49, 50, 51, 52, 53, 54] (by decide +kernel) (by decide +kernel)
set_option maxRecDepth 20000 in
theorem gX7_now_X7_cells : GoodIn wsX7_now (wsV RX7 135 RX7 yX7_cells wsX7_cells) := goodIn_app (goodIn_of _ (by decide +kernel)) ggX7_now_X7_cells
theorem dX7_now_0 : decode cX7_now 0 = .ok (.aload_n 0, 1) := by decide +kernel
theorem dX7_now_1 : decode cX7_now 1 = .ok (.invokevirtual 166, 3) := by decide +kernel
theorem dX7_now_4 : decode cX7_now 4 = .ok (.istore_n 2, 1) := by decide +kernel
theorem dX7_now_5 : decode cX7_now 5 = .ok (.iconst 0, 1) := by decide +kernel
theorem dX7_now_6 : decode cX7_now 6 = .ok (.istore_n 3, 1) := by decide +kernel
theorem dX7_now_7 : decode cX7_now 7 = .ok (.iconst 0, 1) := by decide +kernel
theorem dX7_now_8 : decode cX7_now 8 = .ok (.istore 4, 2) := by decide +kernel
theorem dX7_now_10 : decode cX7_now 10 = .ok (.iconst 0, 1) := by decide +kernel
theorem dX7_now_11 : decode cX7_now 11 = .ok (.istore 5, 2) := by decide +kernel
theorem dX7_now_13 : decode cX7_now 13 = .ok (.iconst 0, 1) := by decide +kernel
theorem dX7_now_14 : decode cX7_now 14 = .ok (.istore 6, 2) := by decide +kernel
theorem dX7_now_16 : decode cX7_now 16 = .ok (.iload 6, 2) := by decide +kernel
theorem dX7_now_18 : decode cX7_now 18 = .ok (.aload_n 0, 1) := by decide +kernel
theorem dX7_now_19 : decode cX7_now 19 = .ok (.getfield 16, 3) := by decide +kernel
theorem dX7_now_22 : decode cX7_now 22 = .ok (.iconst 2, 1) := by decide +kernel
theorem dX7_now_23 : decode cX7_now 23 = .ok (.iaload, 1) := by decide +kernel
theorem dX7_now_24 : decode cX7_now 24 = .ok (.if_icmp .ge 43, 3) := by decide +kernel
theorem dX7_now_27 : decode cX7_now 27 = .ok (.iload_n 3, 1) := by decide +kernel
theorem dX7_now_28 : decode cX7_now 28 = .ok (.iload_n 2, 1) := by decide +kernel
theorem dX7_now_29 : decode cX7_now 29 = .ok (.iload 6, 2) := by decide +kernel
theorem dX7_now_31 : decode cX7_now 31 = .ok (.ishr, 1) := by decide +kernel
theorem dX7_now_32 : decode cX7_now 32 = .ok (.iconst 1, 1) := by decide +kernel
theorem dX7_now_33 : decode cX7_now 33 = .ok (.iand, 1) := by decide +kernel
theorem dX7_now_34 : decode cX7_now 34 = .ok (.iconst 1, 1) := by decide +kernel
theorem dX7_now_35 : decode cX7_now 35 = .ok (.if_icmp .ne 12, 3) := by decide +kernel
theorem dX7_now_38 : decode cX7_now 38 = .ok (.aload_n 0, 1) := by decide +kernel
theorem dX7_now_39 : decode cX7_now 39 = .ok (.iload 6, 2) := by decide +kernel
theorem dX7_now_41 : decode cX7_now 41 = .ok (.invokevirtual 152, 3) := by decide +kernel
theorem dX7_now_44 : decode cX7_now 44 = .ok (.goto 4, 3) := by decide +kernel
theorem dX7_now_47 : decode cX7_now 47 = .ok (.iconst 0, 1) := by decide +kernel
theorem dX7_now_48 : decode cX7_now 48 = .ok (.iadd, 1) := by decide +kernel
theorem dX7_now_49 : decode cX7_now 49 = .ok (.istore_n 3, 1) := by decide +kernel
theorem dX7_now_50 : decode cX7_now 50 = .ok (.iload 4, 2) := by decide +kernel
theorem dX7_now_52 : decode cX7_now 52 = .ok (.aload_n 0, 1) := by decide +kernel
theorem dX7_now_53 : decode cX7_now 53 = .ok (.iload 6, 2) := by decide +kernel
theorem dX7_now_55 : decode cX7_now 55 = .ok (.invokevirtual 122, 3) := by decide +kernel
theorem dX7_now_58 : decode cX7_now 58 = .ok (.iadd, 1) := by decide +kernel
theorem dX7_now_59 : decode cX7_now 59 = .ok (.istore 4, 2) := by decide +kernel
theorem dX7_now_61 : decode cX7_now 61 = .ok (.iinc 6 1, 3) := by decide +kernel
theorem dX7_now_64 : decode cX7_now 64 = .ok (.goto (-48), 3) := by decide +kernel
theorem dX7_now_67 : decode cX7_now 67 = .ok (.iconst 0, 1) := by decide +kernel
theorem dX7_now_68 : decode cX7_now 68 = .ok (.istore 6, 2) := by decide +kernel
theorem dX7_now_70 : decode cX7_now 70 = .ok (.iload 6, 2) := by decide +kernel
theorem dX7_now_72 : decode cX7_now 72 = .ok (.aload_n 0, 1) := by decide +kernel
theorem dX7_now_73 : decode cX7_now 73 = .ok (.invokevirtual 135, 3) := by decide +kernel
theorem dX7_now_76 : decode cX7_now 76 = .ok (.if_icmp .ge 42, 3) := by decide +kernel
theorem dX7_now_79 : decode cX7_now 79 = .ok (.iload 5, 2) := by decide +kernel
theorem dX7_now_81 : decode cX7_now 81 = .ok (.aload_n 0, 1) := by decide +kernel
theorem dX7_now_82 : decode cX7_now 82 = .ok (.getfield 19, 3) := by decide +kernel
theorem dX7_now_85 : decode cX7_now 85 = .ok (.iconst 2, 1) := by decide +kernel
theorem dX7_now_86 : decode cX7_now 86 = .ok (.iaload, 1) := by decide +kernel
theorem dX7_now_87 : decode cX7_now 87 = .ok (.iload 6, 2) := by decide +kernel
theorem dX7_now_89 : decode cX7_now 89 = .ok (.ishr, 1) := by decide +kernel
theorem dX7_now_90 : decode cX7_now 90 = .ok (.iconst 1, 1) := by decide +kernel
theorem dX7_now_91 : decode cX7_now 91 = .ok (.iand, 1) := by decide +kernel
theorem dX7_now_92 : decode cX7_now 92 = .ok (.ifCond .ne 16, 3) := by decide +kernel
theorem dX7_now_95 : decode cX7_now 95 = .ok (.aload_n 0, 1) := by decide +kernel
theorem dX7_now_96 : decode cX7_now 96 = .ok (.getfield 16, 3) := by decide +kernel
theorem dX7_now_99 : decode cX7_now 99 = .ok (.bipush 6, 2) := by decide +kernel
theorem dX7_now_101 : decode cX7_now 101 = .ok (.iload 6, 2) := by decide +kernel
theorem dX7_now_103 : decode cX7_now 103 = .ok (.iadd, 1) := by decide +kernel
theorem dX7_now_104 : decode cX7_now 104 = .ok (.iaload, 1) := by decide +kernel
theorem dX7_now_105 : decode cX7_now 105 = .ok (.goto 4, 3) := by decide +kernel
theorem dX7_now_108 : decode cX7_now 108 = .ok (.iconst 0, 1) := by decide +kernel
theorem dX7_now_109 : decode cX7_now 109 = .ok (.iadd, 1) := by decide +kernel
theorem dX7_now_110 : decode cX7_now 110 = .ok (.istore 5, 2) := by decide +kernel
theorem dX7_now_112 : decode cX7_now 112 = .ok (.iinc 6 1, 3) := by decide +kernel
theorem dX7_now_115 : decode cX7_now 115 = .ok (.goto (-45), 3) := by decide +kernel
theorem dX7_now_118 : decode cX7_now 118 = .ok (.iload_n 1, 1) := by decide +kernel
theorem dX7_now_119 : decode cX7_now 119 = .ok (.tableswitch 58 0 6 #[41, 41, 41, 48, 50, 52, 55], 41) := by decide +kernel
theorem dX7_now_160 : decode cX7_now 160 = .ok (.aload_n 0, 1) := by decide +kernel
theorem dX7_now_161 : decode cX7_now 161 = .ok (.getfield 19, 3) := by decide +kernel
theorem dX7_now_164 : decode cX7_now 164 = .ok (.iload_n 1, 1) := by decide +kernel
theorem dX7_now_165 : decode cX7_now 165 = .ok (.iaload, 1) := by decide +kernel
theorem dX7_now_166 : decode cX7_now 166 = .ok (.ireturn, 1) := by decide +kernel
theorem dX7_now_167 : decode cX7_now 167 = .ok (.iload_n 2, 1) := by decide +kernel
theorem dX7_now_168 : decode cX7_now 168 = .ok (.ireturn, 1) := by decide +kernel
theorem dX7_now_169 : decode cX7_now 169 = .ok (.iload_n 3, 1) := by decide +kernel
theorem dX7_now_170 : decode cX7_now 170 = .ok (.ireturn, 1) := by decide +kernel
theorem dX7_now_171 : decode cX7_now 171 = .ok (.iload 4, 2) := by decide +kernel
theorem dX7_now_173 : decode cX7_now 173 = .ok (.ireturn, 1) := by decide +kernel
theorem dX7_now_174 : decode cX7_now 174 = .ok (.iload 5, 2) := by decide +kernel
theorem dX7_now_176 : decode cX7_now 176 = .ok (.ireturn, 1) := by decide +kernel
theorem dX7_now_177 : decode cX7_now 177 = .ok (.iconst (-1), 1) := by decide +kernel
theorem dX7_now_178 : decode cX7_now 178 = .ok (.ireturn, 1) := by decide +kernel
set_option maxRecDepth 20000 in
theorem ggX7_lastsOf_X7_isThen : GoodIn wsX7_lastsOf wsX7_isThen := goodIn_r _ [5, 6, 7, 8, 4, 9, 10, 11, 12, 13, 14, 15, 16, 17, 18, 19, 20, 21, 22, 23, 24, 25, 26, 27, 28, 29, 30, 31, 32, 33, 34, 35, 36, 37, 38, 39, 40, 41, 42] (by decide +kernel) (by decide +kernel)
set_option maxRecDepth 20000 in
theorem gX7_lastsOf_X7_isThen : GoodIn wsX7_lastsOf (wsV RX7 155 RX7 yX7_isThen wsX7_isThen) := goodIn_app (goodIn_of _ (by decide +kernel)) ggX7_lastsOf_X7_isThen
set_option maxRecDepth 20000 in
theorem ggX7_lastsOf_X7_fades : GoodIn wsX7_lastsOf wsX7_fades := goodIn_r _ [14, 15, 24, 25, 26, 27, 28, 29, 30, 31, 32, 33, 34, 35, 36, 37, 38, 39, 40, 41, 42] (by decide +kernel) (by decide +kernel)
set_option maxRecDepth 20000 in
theorem gX7_lastsOf_X7_fades : GoodIn wsX7_lastsOf (wsV RX7 126 RX7 yX7_fades wsX7_fades) := goodIn_app (goodIn_of _ (by decide +kernel)) ggX7_lastsOf_X7_fades
theorem dX7_lastsOf_0 : decode cX7_lastsOf 0 = .ok (.iconst 0, 1) := by decide +kernel
theorem dX7_lastsOf_1 : decode cX7_lastsOf 1 = .ok (.istore_n 2, 1) := by decide +kernel
theorem dX7_lastsOf_2 : decode cX7_lastsOf 2 = .ok (.aload_n 0, 1) := by decide +kernel
theorem dX7_lastsOf_3 : decode cX7_lastsOf 3 = .ok (.iload_n 1, 1) := by decide +kernel
theorem dX7_lastsOf_4 : decode cX7_lastsOf 4 = .ok (.iload_n 2, 1) := by decide +kernel
theorem dX7_lastsOf_5 : decode cX7_lastsOf 5 = .ok (.iconst 0, 1) := by decide +kernel
theorem dX7_lastsOf_6 : decode cX7_lastsOf 6 = .ok (.invokevirtual 155, 3) := by decide +kernel
theorem dX7_lastsOf_9 : decode cX7_lastsOf 9 = .ok (.ifCond .eq 20, 3) := by decide +kernel
theorem dX7_lastsOf_12 : decode cX7_lastsOf 12 = .ok (.aload_n 0, 1) := by decide +kernel
theorem dX7_lastsOf_13 : decode cX7_lastsOf 13 = .ok (.iload_n 1, 1) := by decide +kernel
theorem dX7_lastsOf_14 : decode cX7_lastsOf 14 = .ok (.invokevirtual 126, 3) := by decide +kernel
theorem dX7_lastsOf_17 : decode cX7_lastsOf 17 = .ok (.ifCond .ne 6, 3) := by decide +kernel
theorem dX7_lastsOf_20 : decode cX7_lastsOf 20 = .ok (.bipush (-9), 2) := by decide +kernel
theorem dX7_lastsOf_22 : decode cX7_lastsOf 22 = .ok (.ireturn, 1) := by decide +kernel
theorem dX7_lastsOf_23 : decode cX7_lastsOf 23 = .ok (.iinc 2 1, 3) := by decide +kernel
theorem dX7_lastsOf_26 : decode cX7_lastsOf 26 = .ok (.goto (-24), 3) := by decide +kernel
theorem dX7_lastsOf_29 : decode cX7_lastsOf 29 = .ok (.iload_n 2, 1) := by decide +kernel
theorem dX7_lastsOf_30 : decode cX7_lastsOf 30 = .ok (.ireturn, 1) := by decide +kernel
set_option maxRecDepth 20000 in
theorem ggX7_lasts_X7_isThing : GoodIn wsX7_lasts wsX7_isThing := goodIn_r _ [5, 6, 7, 8, 4, 9, 35, 36, 37, 38, 39, 40, 41, 42, 43, 44, 45, 46, 47, 48, 49, 50, 51, 52, 53] (by decide +kernel) (by decide +kernel)
set_option maxRecDepth 20000 in
theorem gX7_lasts_X7_isThing : GoodIn wsX7_lasts (wsV RX7 147 RX7 yX7_isThing wsX7_isThing) := goodIn_app (goodIn_of _ (by decide +kernel)) ggX7_lasts_X7_isThing
set_option maxRecDepth 20000 in
theorem ggX7_lasts_X7_lastsOf : GoodIn wsX7_lasts wsX7_lastsOf := goodIn_r _ [13, 14, 15, 16, 4, 17, 18, 19, 20, 21, 22, 23, 24, 25, 26, 6, 27, 28, 29, 30, 31, 32, 33, 34, 35, 36, 37, 38, 39, 40, 41, 42, 43, 44, 45, 46, 47, 48, 49, 50, 51, 52, 53] (by decide +kernel) (by decide +kernel)
set_option maxRecDepth 20000 in
theorem gX7_lasts_X7_lastsOf : GoodIn wsX7_lasts (wsV RX7 172 RX7 yX7_lastsOf wsX7_lastsOf) := goodIn_app (goodIn_of _ (by decide +kernel)) ggX7_lasts_X7_lastsOf
theorem dX7_lasts_0 : decode cX7_lasts 0 = .ok (.aload_n 0, 1) := by decide +kernel
theorem dX7_lasts_1 : decode cX7_lasts 1 = .ok (.iload_n 1, 1) := by decide +kernel
theorem dX7_lasts_2 : decode cX7_lasts 2 = .ok (.invokevirtual 147, 3) := by decide +kernel
theorem dX7_lasts_5 : decode cX7_lasts 5 = .ok (.ifCond .eq 11, 3) := by decide +kernel
theorem dX7_lasts_8 : decode cX7_lasts 8 = .ok (.aload_n 0, 1) := by decide +kernel
theorem dX7_lasts_9 : decode cX7_lasts 9 = .ok (.iload_n 1, 1) := by decide +kernel
theorem dX7_lasts_10 : decode cX7_lasts 10 = .ok (.invokevirtual 172, 3) := by decide +kernel
theorem dX7_lasts_13 : decode cX7_lasts 13 = .ok (.goto 4, 3) := by decide +kernel
theorem dX7_lasts_16 : decode cX7_lasts 16 = .ok (.iconst (-1), 1) := by decide +kernel
theorem dX7_lasts_17 : decode cX7_lasts 17 = .ok (.ireturn, 1) := by decide +kernel
set_option maxRecDepth 20000 in
theorem ggX7_first_X7_lastsOf : GoodIn wsX7_first wsX7_lastsOf := goodIn_r _ [6, 7, 8, 9, 5, 10, 11, 12, 13, 14, 15, 16, 17, 18, 19, 1, 20, 21, 22, 23, 24, 25, 26, 27, 28, 29, 30, 31, 32, 33, 34, 35, 36, 37, 38, 39, 40, 41, 42, 43, 44, 45, 46] (by decide +kernel) (by decide +kernel)
set_option maxRecDepth 20000 in
theorem gX7_first_X7_lastsOf : GoodIn wsX7_first (wsV RX7 172 RX7 yX7_lastsOf wsX7_lastsOf) := goodIn_app (goodIn_of _ (by decide +kernel)) ggX7_first_X7_lastsOf
theorem dX7_first_0 : decode cX7_first 0 = .ok (.bipush (-9), 2) := by decide +kernel
theorem dX7_first_2 : decode cX7_first 2 = .ok (.istore_n 1, 1) := by decide +kernel
theorem dX7_first_3 : decode cX7_first 3 = .ok (.iconst 0, 1) := by decide +kernel
theorem dX7_first_4 : decode cX7_first 4 = .ok (.istore_n 2, 1) := by decide +kernel
theorem dX7_first_5 : decode cX7_first 5 = .ok (.iload_n 2, 1) := by decide +kernel
theorem dX7_first_6 : decode cX7_first 6 = .ok (.aload_n 0, 1) := by decide +kernel
theorem dX7_first_7 : decode cX7_first 7 = .ok (.getfield 16, 3) := by decide +kernel
theorem dX7_first_10 : decode cX7_first 10 = .ok (.iconst 2, 1) := by decide +kernel
theorem dX7_first_11 : decode cX7_first 11 = .ok (.iaload, 1) := by decide +kernel
theorem dX7_first_12 : decode cX7_first 12 = .ok (.if_icmp .ge 40, 3) := by decide +kernel
theorem dX7_first_15 : decode cX7_first 15 = .ok (.aload_n 0, 1) := by decide +kernel
theorem dX7_first_16 : decode cX7_first 16 = .ok (.iload_n 2, 1) := by decide +kernel
theorem dX7_first_17 : decode cX7_first 17 = .ok (.invokevirtual 172, 3) := by decide +kernel
theorem dX7_first_20 : decode cX7_first 20 = .ok (.istore_n 3, 1) := by decide +kernel
theorem dX7_first_21 : decode cX7_first 21 = .ok (.iload_n 3, 1) := by decide +kernel
theorem dX7_first_22 : decode cX7_first 22 = .ok (.ifCond .le 22, 3) := by decide +kernel
theorem dX7_first_25 : decode cX7_first 25 = .ok (.iload_n 1, 1) := by decide +kernel
theorem dX7_first_26 : decode cX7_first 26 = .ok (.bipush (-9), 2) := by decide +kernel
theorem dX7_first_28 : decode cX7_first 28 = .ok (.if_icmp .eq 12, 3) := by decide +kernel
theorem dX7_first_31 : decode cX7_first 31 = .ok (.iload_n 3, 1) := by decide +kernel
theorem dX7_first_32 : decode cX7_first 32 = .ok (.aload_n 0, 1) := by decide +kernel
theorem dX7_first_33 : decode cX7_first 33 = .ok (.iload_n 1, 1) := by decide +kernel
theorem dX7_first_34 : decode cX7_first 34 = .ok (.invokevirtual 172, 3) := by decide +kernel
theorem dX7_first_37 : decode cX7_first 37 = .ok (.if_icmp .ge 7, 3) := by decide +kernel
theorem dX7_first_40 : decode cX7_first 40 = .ok (.iload_n 2, 1) := by decide +kernel
theorem dX7_first_41 : decode cX7_first 41 = .ok (.goto 4, 3) := by decide +kernel
theorem dX7_first_44 : decode cX7_first 44 = .ok (.iload_n 1, 1) := by decide +kernel
theorem dX7_first_45 : decode cX7_first 45 = .ok (.istore_n 1, 1) := by decide +kernel
theorem dX7_first_46 : decode cX7_first 46 = .ok (.iinc 2 1, 3) := by decide +kernel
theorem dX7_first_49 : decode cX7_first 49 = .ok (.goto (-44), 3) := by decide +kernel
theorem dX7_first_52 : decode cX7_first 52 = .ok (.iload_n 1, 1) := by decide +kernel
theorem dX7_first_53 : decode cX7_first 53 = .ok (.ireturn, 1) := by decide +kernel
set_option maxRecDepth 20000 in
theorem ggX7_needsOf_X7_yellow : GoodIn wsX7_needsOf wsX7_yellow := goodIn_r _ [5, 6, 24, 25, 26, 27, 28, 29, 30, 31, 32, 33, 34, 35, 36, 37, 38, 39, 40, 41, 42] (by decide +kernel) (by decide +kernel)
set_option maxRecDepth 20000 in
theorem gX7_needsOf_X7_yellow : GoodIn wsX7_needsOf (wsV RX7 122 RX7 yX7_yellow wsX7_yellow) := goodIn_app (goodIn_of _ (by decide +kernel)) ggX7_needsOf_X7_yellow
set_option maxRecDepth 20000 in
theorem ggX7_needsOf_X7_isThen : GoodIn wsX7_needsOf wsX7_isThen := goodIn_r _ [10, 1, 2, 3, 4, 5, 6, 11, 12, 13, 14, 15, 16, 17, 18, 19, 20, 21, 22, 23, 24, 25, 26, 27, 28, 29, 30, 31, 32, 33, 34, 35, 36, 37, 38, 39, 40, 41, 42] (by decide +kernel) (by decide +kernel)
set_option maxRecDepth 20000 in
theorem gX7_needsOf_X7_isThen : GoodIn wsX7_needsOf (wsV RX7 155 RX7 yX7_isThen wsX7_isThen) := goodIn_app (goodIn_of _ (by decide +kernel)) ggX7_needsOf_X7_isThen
theorem dX7_needsOf_0 : decode cX7_needsOf 0 = .ok (.iconst 0, 1) := by decide +kernel
theorem dX7_needsOf_1 : decode cX7_needsOf 1 = .ok (.istore_n 3, 1) := by decide +kernel
theorem dX7_needsOf_2 : decode cX7_needsOf 2 = .ok (.aload_n 0, 1) := by decide +kernel
theorem dX7_needsOf_3 : decode cX7_needsOf 3 = .ok (.iload_n 1, 1) := by decide +kernel
theorem dX7_needsOf_4 : decode cX7_needsOf 4 = .ok (.invokevirtual 122, 3) := by decide +kernel
theorem dX7_needsOf_7 : decode cX7_needsOf 7 = .ok (.iload_n 3, 1) := by decide +kernel
theorem dX7_needsOf_8 : decode cX7_needsOf 8 = .ok (.iadd, 1) := by decide +kernel
theorem dX7_needsOf_9 : decode cX7_needsOf 9 = .ok (.sipush 1000, 3) := by decide +kernel
theorem dX7_needsOf_12 : decode cX7_needsOf 12 = .ok (.if_icmp .ge 21, 3) := by decide +kernel
theorem dX7_needsOf_15 : decode cX7_needsOf 15 = .ok (.aload_n 0, 1) := by decide +kernel
theorem dX7_needsOf_16 : decode cX7_needsOf 16 = .ok (.iload_n 1, 1) := by decide +kernel
theorem dX7_needsOf_17 : decode cX7_needsOf 17 = .ok (.iload_n 2, 1) := by decide +kernel
theorem dX7_needsOf_18 : decode cX7_needsOf 18 = .ok (.iload_n 3, 1) := by decide +kernel
theorem dX7_needsOf_19 : decode cX7_needsOf 19 = .ok (.invokevirtual 155, 3) := by decide +kernel
theorem dX7_needsOf_22 : decode cX7_needsOf 22 = .ok (.ifCond .eq 5, 3) := by decide +kernel
theorem dX7_needsOf_25 : decode cX7_needsOf 25 = .ok (.iload_n 3, 1) := by decide +kernel
theorem dX7_needsOf_26 : decode cX7_needsOf 26 = .ok (.ireturn, 1) := by decide +kernel
theorem dX7_needsOf_27 : decode cX7_needsOf 27 = .ok (.iinc 3 1, 3) := by decide +kernel
theorem dX7_needsOf_30 : decode cX7_needsOf 30 = .ok (.goto (-28), 3) := by decide +kernel
theorem dX7_needsOf_33 : decode cX7_needsOf 33 = .ok (.bipush (-9), 2) := by decide +kernel
theorem dX7_needsOf_35 : decode cX7_needsOf 35 = .ok (.ireturn, 1) := by decide +kernel
set_option maxRecDepth 20000 in
theorem ggX7_needs_X7_isThing : GoodIn wsX7_needs wsX7_isThing := goodIn_r _ [6, 7, 8, 9, 5, 10, 36, 37, 38, 39, 40, 41, 42, 43, 44, 45, 46, 47, 48, 49, 50, 51, 52, 53, 54] (by decide +kernel) (by decide +kernel)
set_option maxRecDepth 20000 in
theorem gX7_needs_X7_isThing : GoodIn wsX7_needs (wsV RX7 147 RX7 yX7_isThing wsX7_isThing) := goodIn_app (goodIn_of _ (by decide +kernel)) ggX7_needs_X7_isThing
set_option maxRecDepth 20000 in
theorem ggX7_needs_X7_in : GoodIn wsX7_needs wsX7_in := goodIn_r _ [10] (by decide +kernel) (by decide +kernel)
set_option maxRecDepth 20000 in
theorem gX7_needs_X7_in : GoodIn wsX7_needs (va_wsS RX7 48 yX7_in wsX7_in) := goodIn_app (goodIn_of _ (by decide +kernel)) ggX7_needs_X7_in
set_option maxRecDepth 20000 in
theorem ggX7_needs_X7_needsOf : GoodIn wsX7_needs wsX7_needsOf := goodIn_r _ [14, 15, 16, 17, 5, 18, 19, 20, 21, 22, 23, 24, 25, 26, 27, 7, 28, 29, 30, 31, 32, 33, 34, 35, 36, 37, 38, 39, 40, 41, 42, 43, 44, 45, 46, 47, 48, 49, 50, 51, 52, 53, 54] (by decide +kernel) (by decide +kernel)
set_option maxRecDepth 20000 in
theorem gX7_needs_X7_needsOf : GoodIn wsX7_needs (wsV RX7 175 RX7 yX7_needsOf wsX7_needsOf) := goodIn_app (goodIn_of _ (by decide +kernel)) ggX7_needs_X7_needsOf
theorem dX7_needs_0 : decode cX7_needs 0 = .ok (.aload_n 0, 1) := by decide +kernel
theorem dX7_needs_1 : decode cX7_needs 1 = .ok (.iload_n 1, 1) := by decide +kernel
theorem dX7_needs_2 : decode cX7_needs 2 = .ok (.invokevirtual 147, 3) := by decide +kernel
theorem dX7_needs_5 : decode cX7_needs 5 = .ok (.ifCond .eq 24, 3) := by decide +kernel
theorem dX7_needs_8 : decode cX7_needs 8 = .ok (.iload_n 2, 1) := by decide +kernel
theorem dX7_needs_9 : decode cX7_needs 9 = .ok (.i2l, 1) := by decide +kernel
theorem dX7_needs_10 : decode cX7_needs 10 = .ok (.lconst 0, 1) := by decide +kernel
theorem dX7_needs_11 : decode cX7_needs 11 = .ok (.ldc2_w 164, 3) := by decide +kernel
theorem dX7_needs_14 : decode cX7_needs 14 = .ok (.invokestatic 48, 3) := by decide +kernel
theorem dX7_needs_17 : decode cX7_needs 17 = .ok (.ifCond .eq 12, 3) := by decide +kernel
theorem dX7_needs_20 : decode cX7_needs 20 = .ok (.aload_n 0, 1) := by decide +kernel
theorem dX7_needs_21 : decode cX7_needs 21 = .ok (.iload_n 1, 1) := by decide +kernel
theorem dX7_needs_22 : decode cX7_needs 22 = .ok (.iload_n 2, 1) := by decide +kernel
theorem dX7_needs_23 : decode cX7_needs 23 = .ok (.invokevirtual 175, 3) := by decide +kernel
theorem dX7_needs_26 : decode cX7_needs 26 = .ok (.goto 4, 3) := by decide +kernel
theorem dX7_needs_29 : decode cX7_needs 29 = .ok (.iconst (-1), 1) := by decide +kernel
theorem dX7_needs_30 : decode cX7_needs 30 = .ok (.ireturn, 1) := by decide +kernel
set_option maxRecDepth 20000 in
theorem ggX7_kept_X7_in : GoodIn wsX7_kept wsX7_in := goodIn_r _ [9] (by decide +kernel) (by decide +kernel)
set_option maxRecDepth 20000 in
theorem gX7_kept_X7_in : GoodIn wsX7_kept (va_wsS RX7 48 yX7_in wsX7_in) := goodIn_app (goodIn_of _ (by decide +kernel)) ggX7_kept_X7_in
set_option maxRecDepth 20000 in
theorem ggX7_kept_X7_needsOf : GoodIn wsX7_kept wsX7_needsOf := goodIn_r _ [13, 14, 15, 16, 8, 17, 5, 18, 19, 20, 21, 22, 23, 24, 25, 3, 26, 27, 28, 29, 30, 31, 32, 33, 42, 43, 44, 45, 46, 47, 48, 49, 50, 51, 52, 53, 54, 55, 56, 57, 58, 59, 60] (by decide +kernel) (by decide +kernel)
set_option maxRecDepth 20000 in
theorem gX7_kept_X7_needsOf : GoodIn wsX7_kept (wsV RX7 175 RX7 yX7_needsOf wsX7_needsOf) := goodIn_app (goodIn_of _ (by decide +kernel)) ggX7_kept_X7_needsOf
set_option maxRecDepth 20000 in
theorem ggX7_kept_X7_scraped : GoodIn wsX7_kept wsX7_scraped := goodIn_r _ [37, 3, 14, 15, 16, 8, 17, 5, 42, 43, 44, 45, 46, 47, 48, 49, 50, 51, 52, 53, 54, 55, 56, 57, 58, 59, 60] (by decide +kernel) (by decide +kernel)
set_option maxRecDepth 20000 in
theorem gX7_kept_X7_scraped : GoodIn wsX7_kept (wsV RX7 161 RX7 yX7_scraped wsX7_scraped) := goodIn_app (goodIn_of _ (by decide +kernel)) ggX7_kept_X7_scraped
set_option maxRecDepth 20000 in
theorem ggX7_kept_X7_worth : GoodIn wsX7_kept wsX7_worth := goodIn_r _ [41, 3, 42, 43, 44, 45, 46, 47, 48, 49, 50, 51, 52, 53, 54, 55, 56, 57, 58, 59, 60] (by decide +kernel) (by decide +kernel)
set_option maxRecDepth 20000 in
theorem gX7_kept_X7_worth : GoodIn wsX7_kept (wsV RX7 152 RX7 yX7_worth wsX7_worth) := goodIn_app (goodIn_of _ (by decide +kernel)) ggX7_kept_X7_worth
theorem dX7_kept_0 : decode cX7_kept 0 = .ok (.iload_n 1, 1) := by decide +kernel
theorem dX7_kept_1 : decode cX7_kept 1 = .ok (.i2l, 1) := by decide +kernel
theorem dX7_kept_2 : decode cX7_kept 2 = .ok (.lconst 0, 1) := by decide +kernel
theorem dX7_kept_3 : decode cX7_kept 3 = .ok (.ldc2_w 164, 3) := by decide +kernel
theorem dX7_kept_6 : decode cX7_kept 6 = .ok (.invokestatic 48, 3) := by decide +kernel
theorem dX7_kept_9 : decode cX7_kept 9 = .ok (.ifCond .eq 15, 3) := by decide +kernel
theorem dX7_kept_12 : decode cX7_kept 12 = .ok (.iload_n 2, 1) := by decide +kernel
theorem dX7_kept_13 : decode cX7_kept 13 = .ok (.i2l, 1) := by decide +kernel
theorem dX7_kept_14 : decode cX7_kept 14 = .ok (.lconst 0, 1) := by decide +kernel
theorem dX7_kept_15 : decode cX7_kept 15 = .ok (.ldc2_w 142, 3) := by decide +kernel
theorem dX7_kept_18 : decode cX7_kept 18 = .ok (.invokestatic 48, 3) := by decide +kernel
theorem dX7_kept_21 : decode cX7_kept 21 = .ok (.ifCond .ne 5, 3) := by decide +kernel
theorem dX7_kept_24 : decode cX7_kept 24 = .ok (.iconst (-1), 1) := by decide +kernel
theorem dX7_kept_25 : decode cX7_kept 25 = .ok (.ireturn, 1) := by decide +kernel
theorem dX7_kept_26 : decode cX7_kept 26 = .ok (.iconst 0, 1) := by decide +kernel
theorem dX7_kept_27 : decode cX7_kept 27 = .ok (.istore_n 3, 1) := by decide +kernel
theorem dX7_kept_28 : decode cX7_kept 28 = .ok (.iload_n 3, 1) := by decide +kernel
theorem dX7_kept_29 : decode cX7_kept 29 = .ok (.aload_n 0, 1) := by decide +kernel
theorem dX7_kept_30 : decode cX7_kept 30 = .ok (.getfield 16, 3) := by decide +kernel
theorem dX7_kept_33 : decode cX7_kept 33 = .ok (.iconst 2, 1) := by decide +kernel
theorem dX7_kept_34 : decode cX7_kept 34 = .ok (.iaload, 1) := by decide +kernel
theorem dX7_kept_35 : decode cX7_kept 35 = .ok (.if_icmp .ge 21, 3) := by decide +kernel
theorem dX7_kept_38 : decode cX7_kept 38 = .ok (.aload_n 0, 1) := by decide +kernel
theorem dX7_kept_39 : decode cX7_kept 39 = .ok (.getfield 25, 3) := by decide +kernel
theorem dX7_kept_42 : decode cX7_kept 42 = .ok (.iload_n 3, 1) := by decide +kernel
theorem dX7_kept_43 : decode cX7_kept 43 = .ok (.aload_n 0, 1) := by decide +kernel
theorem dX7_kept_44 : decode cX7_kept 44 = .ok (.iload_n 3, 1) := by decide +kernel
theorem dX7_kept_45 : decode cX7_kept 45 = .ok (.iload_n 1, 1) := by decide +kernel
theorem dX7_kept_46 : decode cX7_kept 46 = .ok (.invokevirtual 175, 3) := by decide +kernel
theorem dX7_kept_49 : decode cX7_kept 49 = .ok (.iastore, 1) := by decide +kernel
theorem dX7_kept_50 : decode cX7_kept 50 = .ok (.iinc 3 1, 3) := by decide +kernel
theorem dX7_kept_53 : decode cX7_kept 53 = .ok (.goto (-25), 3) := by decide +kernel
theorem dX7_kept_56 : decode cX7_kept 56 = .ok (.iconst 0, 1) := by decide +kernel
theorem dX7_kept_57 : decode cX7_kept 57 = .ok (.istore_n 3, 1) := by decide +kernel
theorem dX7_kept_58 : decode cX7_kept 58 = .ok (.iconst (-1), 1) := by decide +kernel
theorem dX7_kept_59 : decode cX7_kept 59 = .ok (.istore 4, 2) := by decide +kernel
theorem dX7_kept_61 : decode cX7_kept 61 = .ok (.iconst 0, 1) := by decide +kernel
theorem dX7_kept_62 : decode cX7_kept 62 = .ok (.istore 5, 2) := by decide +kernel
theorem dX7_kept_64 : decode cX7_kept 64 = .ok (.iconst 0, 1) := by decide +kernel
theorem dX7_kept_65 : decode cX7_kept 65 = .ok (.istore 6, 2) := by decide +kernel
theorem dX7_kept_67 : decode cX7_kept 67 = .ok (.iload 6, 2) := by decide +kernel
theorem dX7_kept_69 : decode cX7_kept 69 = .ok (.iconst 1, 1) := by decide +kernel
theorem dX7_kept_70 : decode cX7_kept 70 = .ok (.aload_n 0, 1) := by decide +kernel
theorem dX7_kept_71 : decode cX7_kept 71 = .ok (.getfield 16, 3) := by decide +kernel
theorem dX7_kept_74 : decode cX7_kept 74 = .ok (.iconst 2, 1) := by decide +kernel
theorem dX7_kept_75 : decode cX7_kept 75 = .ok (.iaload, 1) := by decide +kernel
theorem dX7_kept_76 : decode cX7_kept 76 = .ok (.ishl, 1) := by decide +kernel
theorem dX7_kept_77 : decode cX7_kept 77 = .ok (.if_icmp .ge 201, 3) := by decide +kernel
theorem dX7_kept_80 : decode cX7_kept 80 = .ok (.aload_n 0, 1) := by decide +kernel
theorem dX7_kept_81 : decode cX7_kept 81 = .ok (.getfield 19, 3) := by decide +kernel
theorem dX7_kept_84 : decode cX7_kept 84 = .ok (.iconst 1, 1) := by decide +kernel
theorem dX7_kept_85 : decode cX7_kept 85 = .ok (.iaload, 1) := by decide +kernel
theorem dX7_kept_86 : decode cX7_kept 86 = .ok (.istore 7, 2) := by decide +kernel
theorem dX7_kept_88 : decode cX7_kept 88 = .ok (.iconst 0, 1) := by decide +kernel
theorem dX7_kept_89 : decode cX7_kept 89 = .ok (.istore 8, 2) := by decide +kernel
theorem dX7_kept_91 : decode cX7_kept 91 = .ok (.iconst 1, 1) := by decide +kernel
theorem dX7_kept_92 : decode cX7_kept 92 = .ok (.istore 9, 2) := by decide +kernel
theorem dX7_kept_94 : decode cX7_kept 94 = .ok (.iconst 0, 1) := by decide +kernel
theorem dX7_kept_95 : decode cX7_kept 95 = .ok (.istore 10, 2) := by decide +kernel
theorem dX7_kept_97 : decode cX7_kept 97 = .ok (.iload 10, 2) := by decide +kernel
theorem dX7_kept_99 : decode cX7_kept 99 = .ok (.aload_n 0, 1) := by decide +kernel
theorem dX7_kept_100 : decode cX7_kept 100 = .ok (.getfield 16, 3) := by decide +kernel
theorem dX7_kept_103 : decode cX7_kept 103 = .ok (.iconst 2, 1) := by decide +kernel
theorem dX7_kept_104 : decode cX7_kept 104 = .ok (.iaload, 1) := by decide +kernel
theorem dX7_kept_105 : decode cX7_kept 105 = .ok (.if_icmp .ge 103, 3) := by decide +kernel
theorem dX7_kept_108 : decode cX7_kept 108 = .ok (.iload 6, 2) := by decide +kernel
theorem dX7_kept_110 : decode cX7_kept 110 = .ok (.iload 10, 2) := by decide +kernel
theorem dX7_kept_112 : decode cX7_kept 112 = .ok (.ishr, 1) := by decide +kernel
theorem dX7_kept_113 : decode cX7_kept 113 = .ok (.iconst 1, 1) := by decide +kernel
theorem dX7_kept_114 : decode cX7_kept 114 = .ok (.iand, 1) := by decide +kernel
theorem dX7_kept_115 : decode cX7_kept 115 = .ok (.iconst 1, 1) := by decide +kernel
theorem dX7_kept_116 : decode cX7_kept 116 = .ok (.if_icmp .ne 7, 3) := by decide +kernel
theorem dX7_kept_119 : decode cX7_kept 119 = .ok (.iconst 1, 1) := by decide +kernel
theorem dX7_kept_120 : decode cX7_kept 120 = .ok (.goto 4, 3) := by decide +kernel
theorem dX7_kept_123 : decode cX7_kept 123 = .ok (.iconst 0, 1) := by decide +kernel
theorem dX7_kept_124 : decode cX7_kept 124 = .ok (.istore 11, 2) := by decide +kernel
theorem dX7_kept_126 : decode cX7_kept 126 = .ok (.iload 9, 2) := by decide +kernel
theorem dX7_kept_128 : decode cX7_kept 128 = .ok (.ifCond .eq 24, 3) := by decide +kernel
theorem dX7_kept_131 : decode cX7_kept 131 = .ok (.iload 11, 2) := by decide +kernel
theorem dX7_kept_133 : decode cX7_kept 133 = .ok (.ifCond .eq 15, 3) := by decide +kernel
theorem dX7_kept_136 : decode cX7_kept 136 = .ok (.aload_n 0, 1) := by decide +kernel
theorem dX7_kept_137 : decode cX7_kept 137 = .ok (.getfield 25, 3) := by decide +kernel
theorem dX7_kept_140 : decode cX7_kept 140 = .ok (.iload 10, 2) := by decide +kernel
theorem dX7_kept_142 : decode cX7_kept 142 = .ok (.iaload, 1) := by decide +kernel
theorem dX7_kept_143 : decode cX7_kept 143 = .ok (.bipush (-9), 2) := by decide +kernel
theorem dX7_kept_145 : decode cX7_kept 145 = .ok (.if_icmp .eq 7, 3) := by decide +kernel
theorem dX7_kept_148 : decode cX7_kept 148 = .ok (.iconst 1, 1) := by decide +kernel
theorem dX7_kept_149 : decode cX7_kept 149 = .ok (.goto 4, 3) := by decide +kernel
theorem dX7_kept_152 : decode cX7_kept 152 = .ok (.iconst 0, 1) := by decide +kernel
theorem dX7_kept_153 : decode cX7_kept 153 = .ok (.istore 9, 2) := by decide +kernel
theorem dX7_kept_155 : decode cX7_kept 155 = .ok (.iload 7, 2) := by decide +kernel
theorem dX7_kept_157 : decode cX7_kept 157 = .ok (.iload 11, 2) := by decide +kernel
theorem dX7_kept_159 : decode cX7_kept 159 = .ok (.ifCond .eq 14, 3) := by decide +kernel
theorem dX7_kept_162 : decode cX7_kept 162 = .ok (.aload_n 0, 1) := by decide +kernel
theorem dX7_kept_163 : decode cX7_kept 163 = .ok (.getfield 25, 3) := by decide +kernel
theorem dX7_kept_166 : decode cX7_kept 166 = .ok (.iload 10, 2) := by decide +kernel
theorem dX7_kept_168 : decode cX7_kept 168 = .ok (.iaload, 1) := by decide +kernel
theorem dX7_kept_169 : decode cX7_kept 169 = .ok (.ineg, 1) := by decide +kernel
theorem dX7_kept_170 : decode cX7_kept 170 = .ok (.goto 9, 3) := by decide +kernel
theorem dX7_kept_173 : decode cX7_kept 173 = .ok (.aload_n 0, 1) := by decide +kernel
theorem dX7_kept_174 : decode cX7_kept 174 = .ok (.iload 10, 2) := by decide +kernel
theorem dX7_kept_176 : decode cX7_kept 176 = .ok (.invokevirtual 161, 3) := by decide +kernel
theorem dX7_kept_179 : decode cX7_kept 179 = .ok (.iadd, 1) := by decide +kernel
theorem dX7_kept_180 : decode cX7_kept 180 = .ok (.istore 7, 2) := by decide +kernel
theorem dX7_kept_182 : decode cX7_kept 182 = .ok (.iload 8, 2) := by decide +kernel
theorem dX7_kept_184 : decode cX7_kept 184 = .ok (.iload 11, 2) := by decide +kernel
theorem dX7_kept_186 : decode cX7_kept 186 = .ok (.ifCond .eq 12, 3) := by decide +kernel
theorem dX7_kept_189 : decode cX7_kept 189 = .ok (.aload_n 0, 1) := by decide +kernel
theorem dX7_kept_190 : decode cX7_kept 190 = .ok (.iload 10, 2) := by decide +kernel
theorem dX7_kept_192 : decode cX7_kept 192 = .ok (.invokevirtual 152, 3) := by decide +kernel
theorem dX7_kept_195 : decode cX7_kept 195 = .ok (.goto 4, 3) := by decide +kernel
theorem dX7_kept_198 : decode cX7_kept 198 = .ok (.iconst 0, 1) := by decide +kernel
theorem dX7_kept_199 : decode cX7_kept 199 = .ok (.iadd, 1) := by decide +kernel
theorem dX7_kept_200 : decode cX7_kept 200 = .ok (.istore 8, 2) := by decide +kernel
theorem dX7_kept_202 : decode cX7_kept 202 = .ok (.iinc 10 1, 3) := by decide +kernel
theorem dX7_kept_205 : decode cX7_kept 205 = .ok (.goto (-108), 3) := by decide +kernel
theorem dX7_kept_208 : decode cX7_kept 208 = .ok (.iload 9, 2) := by decide +kernel
theorem dX7_kept_210 : decode cX7_kept 210 = .ok (.ifCond .eq 19, 3) := by decide +kernel
theorem dX7_kept_213 : decode cX7_kept 213 = .ok (.iload 7, 2) := by decide +kernel
theorem dX7_kept_215 : decode cX7_kept 215 = .ok (.ifCond .lt 14, 3) := by decide +kernel
theorem dX7_kept_218 : decode cX7_kept 218 = .ok (.iload 8, 2) := by decide +kernel
theorem dX7_kept_220 : decode cX7_kept 220 = .ok (.iload 4, 2) := by decide +kernel
theorem dX7_kept_222 : decode cX7_kept 222 = .ok (.if_icmp .le 7, 3) := by decide +kernel
theorem dX7_kept_225 : decode cX7_kept 225 = .ok (.iconst 1, 1) := by decide +kernel
theorem dX7_kept_226 : decode cX7_kept 226 = .ok (.goto 4, 3) := by decide +kernel
theorem dX7_kept_229 : decode cX7_kept 229 = .ok (.iconst 0, 1) := by decide +kernel
theorem dX7_kept_230 : decode cX7_kept 230 = .ok (.istore 10, 2) := by decide +kernel
theorem dX7_kept_232 : decode cX7_kept 232 = .ok (.iload 10, 2) := by decide +kernel
theorem dX7_kept_234 : decode cX7_kept 234 = .ok (.ifCond .eq 8, 3) := by decide +kernel
theorem dX7_kept_237 : decode cX7_kept 237 = .ok (.iload 6, 2) := by decide +kernel
theorem dX7_kept_239 : decode cX7_kept 239 = .ok (.goto 4, 3) := by decide +kernel
theorem dX7_kept_242 : decode cX7_kept 242 = .ok (.iload_n 3, 1) := by decide +kernel
theorem dX7_kept_243 : decode cX7_kept 243 = .ok (.istore_n 3, 1) := by decide +kernel
theorem dX7_kept_244 : decode cX7_kept 244 = .ok (.iload 10, 2) := by decide +kernel
theorem dX7_kept_246 : decode cX7_kept 246 = .ok (.ifCond .eq 8, 3) := by decide +kernel
theorem dX7_kept_249 : decode cX7_kept 249 = .ok (.iload 7, 2) := by decide +kernel
theorem dX7_kept_251 : decode cX7_kept 251 = .ok (.goto 5, 3) := by decide +kernel
theorem dX7_kept_254 : decode cX7_kept 254 = .ok (.iload 5, 2) := by decide +kernel
theorem dX7_kept_256 : decode cX7_kept 256 = .ok (.istore 5, 2) := by decide +kernel
theorem dX7_kept_258 : decode cX7_kept 258 = .ok (.iload 10, 2) := by decide +kernel
theorem dX7_kept_260 : decode cX7_kept 260 = .ok (.ifCond .eq 8, 3) := by decide +kernel
theorem dX7_kept_263 : decode cX7_kept 263 = .ok (.iload 8, 2) := by decide +kernel
theorem dX7_kept_265 : decode cX7_kept 265 = .ok (.goto 5, 3) := by decide +kernel
theorem dX7_kept_268 : decode cX7_kept 268 = .ok (.iload 4, 2) := by decide +kernel
theorem dX7_kept_270 : decode cX7_kept 270 = .ok (.istore 4, 2) := by decide +kernel
theorem dX7_kept_272 : decode cX7_kept 272 = .ok (.iinc 6 1, 3) := by decide +kernel
theorem dX7_kept_275 : decode cX7_kept 275 = .ok (.goto (-208), 3) := by decide +kernel
theorem dX7_kept_278 : decode cX7_kept 278 = .ok (.iload_n 2, 1) := by decide +kernel
theorem dX7_kept_279 : decode cX7_kept 279 = .ok (.ifCond .ne 7, 3) := by decide +kernel
theorem dX7_kept_282 : decode cX7_kept 282 = .ok (.iload_n 3, 1) := by decide +kernel
theorem dX7_kept_283 : decode cX7_kept 283 = .ok (.goto 15, 3) := by decide +kernel
theorem dX7_kept_286 : decode cX7_kept 286 = .ok (.iload_n 2, 1) := by decide +kernel
theorem dX7_kept_287 : decode cX7_kept 287 = .ok (.iconst 1, 1) := by decide +kernel
theorem dX7_kept_288 : decode cX7_kept 288 = .ok (.if_icmp .ne 8, 3) := by decide +kernel
theorem dX7_kept_291 : decode cX7_kept 291 = .ok (.iload 4, 2) := by decide +kernel
theorem dX7_kept_293 : decode cX7_kept 293 = .ok (.goto 5, 3) := by decide +kernel
theorem dX7_kept_296 : decode cX7_kept 296 = .ok (.iload 5, 2) := by decide +kernel
theorem dX7_kept_298 : decode cX7_kept 298 = .ok (.ireturn, 1) := by decide +kernel
set_option maxRecDepth 20000 in
theorem ggX7_isDigging_X7_cells : GoodIn wsX7_isDigging wsX7_cells := goodIn_r _ [6, 7, 12, 13, 14, 15, 16, 17, 18, 19, 20, 21, 22, 23, 24, 25, 26, 27, 28, 29, 30] (by decide +kernel) (by decide +kernel)
set_option maxRecDepth 20000 in
theorem gX7_isDigging_X7_cells : GoodIn wsX7_isDigging (wsV RX7 135 RX7 yX7_cells wsX7_cells) := goodIn_app (goodIn_of _ (by decide +kernel)) ggX7_isDigging_X7_cells
set_option maxRecDepth 20000 in
theorem ggX7_isDigging_X7_may : GoodIn wsX7_isDigging wsX7_may := goodIn_r _ [11, 7, 2, 3, 4, 5, 6, 12, 13, 14, 15, 16, 17, 18, 19, 20, 21, 22, 23, 24, 25, 26, 27, 28, 29, 30] (by decide +kernel) (by decide +kernel)
set_option maxRecDepth 20000 in
theorem gX7_isDigging_X7_may : GoodIn wsX7_isDigging (wsV RX7 144 RX7 yX7_may wsX7_may) := goodIn_app (goodIn_of _ (by decide +kernel)) ggX7_isDigging_X7_may
theorem dX7_isDigging_0 : decode cX7_isDigging 0 = .ok (.aload_n 0, 1) := by decide +kernel
theorem dX7_isDigging_1 : decode cX7_isDigging 1 = .ok (.getfield 19, 3) := by decide +kernel
theorem dX7_isDigging_4 : decode cX7_isDigging 4 = .ok (.iconst 2, 1) := by decide +kernel
theorem dX7_isDigging_5 : decode cX7_isDigging 5 = .ok (.iaload, 1) := by decide +kernel
theorem dX7_isDigging_6 : decode cX7_isDigging 6 = .ok (.istore_n 2, 1) := by decide +kernel
theorem dX7_isDigging_7 : decode cX7_isDigging 7 = .ok (.iload_n 1, 1) := by decide +kernel
theorem dX7_isDigging_8 : decode cX7_isDigging 8 = .ok (.istore_n 3, 1) := by decide +kernel
theorem dX7_isDigging_9 : decode cX7_isDigging 9 = .ok (.iconst 0, 1) := by decide +kernel
theorem dX7_isDigging_10 : decode cX7_isDigging 10 = .ok (.istore 4, 2) := by decide +kernel
theorem dX7_isDigging_12 : decode cX7_isDigging 12 = .ok (.iload 4, 2) := by decide +kernel
theorem dX7_isDigging_14 : decode cX7_isDigging 14 = .ok (.iload_n 3, 1) := by decide +kernel
theorem dX7_isDigging_15 : decode cX7_isDigging 15 = .ok (.if_icmp .eq 63, 3) := by decide +kernel
theorem dX7_isDigging_18 : decode cX7_isDigging 18 = .ok (.iload_n 3, 1) := by decide +kernel
theorem dX7_isDigging_19 : decode cX7_isDigging 19 = .ok (.istore 4, 2) := by decide +kernel
theorem dX7_isDigging_21 : decode cX7_isDigging 21 = .ok (.iconst 0, 1) := by decide +kernel
theorem dX7_isDigging_22 : decode cX7_isDigging 22 = .ok (.istore 5, 2) := by decide +kernel
theorem dX7_isDigging_24 : decode cX7_isDigging 24 = .ok (.iload 5, 2) := by decide +kernel
theorem dX7_isDigging_26 : decode cX7_isDigging 26 = .ok (.aload_n 0, 1) := by decide +kernel
theorem dX7_isDigging_27 : decode cX7_isDigging 27 = .ok (.invokevirtual 135, 3) := by decide +kernel
theorem dX7_isDigging_30 : decode cX7_isDigging 30 = .ok (.if_icmp .ge 45, 3) := by decide +kernel
theorem dX7_isDigging_33 : decode cX7_isDigging 33 = .ok (.iload_n 3, 1) := by decide +kernel
theorem dX7_isDigging_34 : decode cX7_isDigging 34 = .ok (.iload 5, 2) := by decide +kernel
theorem dX7_isDigging_36 : decode cX7_isDigging 36 = .ok (.ishr, 1) := by decide +kernel
theorem dX7_isDigging_37 : decode cX7_isDigging 37 = .ok (.iconst 1, 1) := by decide +kernel
theorem dX7_isDigging_38 : decode cX7_isDigging 38 = .ok (.iand, 1) := by decide +kernel
theorem dX7_isDigging_39 : decode cX7_isDigging 39 = .ok (.iconst 1, 1) := by decide +kernel
theorem dX7_isDigging_40 : decode cX7_isDigging 40 = .ok (.if_icmp .ne 29, 3) := by decide +kernel
theorem dX7_isDigging_43 : decode cX7_isDigging 43 = .ok (.aload_n 0, 1) := by decide +kernel
theorem dX7_isDigging_44 : decode cX7_isDigging 44 = .ok (.iload 5, 2) := by decide +kernel
theorem dX7_isDigging_46 : decode cX7_isDigging 46 = .ok (.iload_n 2, 1) := by decide +kernel
theorem dX7_isDigging_47 : decode cX7_isDigging 47 = .ok (.invokevirtual 144, 3) := by decide +kernel
theorem dX7_isDigging_50 : decode cX7_isDigging 50 = .ok (.ifCond .eq 19, 3) := by decide +kernel
theorem dX7_isDigging_53 : decode cX7_isDigging 53 = .ok (.iload_n 2, 1) := by decide +kernel
theorem dX7_isDigging_54 : decode cX7_isDigging 54 = .ok (.iconst 1, 1) := by decide +kernel
theorem dX7_isDigging_55 : decode cX7_isDigging 55 = .ok (.iload 5, 2) := by decide +kernel
theorem dX7_isDigging_57 : decode cX7_isDigging 57 = .ok (.ishl, 1) := by decide +kernel
theorem dX7_isDigging_58 : decode cX7_isDigging 58 = .ok (.ior, 1) := by decide +kernel
theorem dX7_isDigging_59 : decode cX7_isDigging 59 = .ok (.istore_n 2, 1) := by decide +kernel
theorem dX7_isDigging_60 : decode cX7_isDigging 60 = .ok (.iload_n 3, 1) := by decide +kernel
theorem dX7_isDigging_61 : decode cX7_isDigging 61 = .ok (.iconst 1, 1) := by decide +kernel
theorem dX7_isDigging_62 : decode cX7_isDigging 62 = .ok (.iload 5, 2) := by decide +kernel
theorem dX7_isDigging_64 : decode cX7_isDigging 64 = .ok (.ishl, 1) := by decide +kernel
theorem dX7_isDigging_65 : decode cX7_isDigging 65 = .ok (.iconst (-1), 1) := by decide +kernel
theorem dX7_isDigging_66 : decode cX7_isDigging 66 = .ok (.ixor, 1) := by decide +kernel
theorem dX7_isDigging_67 : decode cX7_isDigging 67 = .ok (.iand, 1) := by decide +kernel
theorem dX7_isDigging_68 : decode cX7_isDigging 68 = .ok (.istore_n 3, 1) := by decide +kernel
theorem dX7_isDigging_69 : decode cX7_isDigging 69 = .ok (.iinc 5 1, 3) := by decide +kernel
theorem dX7_isDigging_72 : decode cX7_isDigging 72 = .ok (.goto (-48), 3) := by decide +kernel
theorem dX7_isDigging_75 : decode cX7_isDigging 75 = .ok (.goto (-63), 3) := by decide +kernel
theorem dX7_isDigging_78 : decode cX7_isDigging 78 = .ok (.iload_n 3, 1) := by decide +kernel
theorem dX7_isDigging_79 : decode cX7_isDigging 79 = .ok (.ifCond .ne 7, 3) := by decide +kernel
theorem dX7_isDigging_82 : decode cX7_isDigging 82 = .ok (.iconst 1, 1) := by decide +kernel
theorem dX7_isDigging_83 : decode cX7_isDigging 83 = .ok (.goto 4, 3) := by decide +kernel
theorem dX7_isDigging_86 : decode cX7_isDigging 86 = .ok (.iconst 0, 1) := by decide +kernel
theorem dX7_isDigging_87 : decode cX7_isDigging 87 = .ok (.ireturn, 1) := by decide +kernel
set_option maxRecDepth 20000 in
theorem ggX7_bestDig_X7_in : GoodIn wsX7_bestDig wsX7_in := goodIn_r _ [7] (by decide +kernel) (by decide +kernel)
set_option maxRecDepth 20000 in
theorem gX7_bestDig_X7_in : GoodIn wsX7_bestDig (va_wsS RX7 48 yX7_in wsX7_in) := goodIn_app (goodIn_of _ (by decide +kernel)) ggX7_bestDig_X7_in
set_option maxRecDepth 20000 in
theorem ggX7_bestDig_X7_cells : GoodIn wsX7_bestDig wsX7_cells := goodIn_r _ [11, 3, 23, 24, 25, 26, 27, 28, 29, 30, 31, 32, 33, 34, 35, 36, 37, 38, 39, 40, 41] (by decide +kernel) (by decide +kernel)
set_option maxRecDepth 20000 in
theorem gX7_bestDig_X7_cells : GoodIn wsX7_bestDig (wsV RX7 135 RX7 yX7_cells wsX7_cells) := goodIn_app (goodIn_of _ (by decide +kernel)) ggX7_bestDig_X7_cells
set_option maxRecDepth 20000 in
theorem ggX7_bestDig_X7_many : GoodIn wsX7_bestDig wsX7_many := goodIn_r _ [14] (by decide +kernel) (by decide +kernel)
set_option maxRecDepth 20000 in
theorem gX7_bestDig_X7_many : GoodIn wsX7_bestDig (va_wsS RX7 169 yX7_many wsX7_many) := goodIn_app (goodIn_of _ (by decide +kernel)) ggX7_bestDig_X7_many
set_option maxRecDepth 20000 in
theorem ggX7_bestDig_X7_isDigging : GoodIn wsX7_bestDig wsX7_isDigging := goodIn_r _ [18, 2, 8, 9, 10, 6, 11, 3, 19, 20, 21, 22, 23, 24, 25, 26, 27, 28, 29, 30, 31, 32, 33, 34, 35, 36, 37, 38, 39, 40, 41] (by decide +kernel) (by decide +kernel)
set_option maxRecDepth 20000 in
theorem gX7_bestDig_X7_isDigging : GoodIn wsX7_bestDig (wsV RX7 181 RX7 yX7_isDigging wsX7_isDigging) := goodIn_app (goodIn_of _ (by decide +kernel)) ggX7_bestDig_X7_isDigging
theorem dX7_bestDig_0 : decode cX7_bestDig 0 = .ok (.iload_n 1, 1) := by decide +kernel
theorem dX7_bestDig_1 : decode cX7_bestDig 1 = .ok (.i2l, 1) := by decide +kernel
theorem dX7_bestDig_2 : decode cX7_bestDig 2 = .ok (.lconst 0, 1) := by decide +kernel
theorem dX7_bestDig_3 : decode cX7_bestDig 3 = .ok (.ldc2_w 179, 3) := by decide +kernel
theorem dX7_bestDig_6 : decode cX7_bestDig 6 = .ok (.invokestatic 48, 3) := by decide +kernel
theorem dX7_bestDig_9 : decode cX7_bestDig 9 = .ok (.ifCond .eq 13, 3) := by decide +kernel
theorem dX7_bestDig_12 : decode cX7_bestDig 12 = .ok (.iload_n 2, 1) := by decide +kernel
theorem dX7_bestDig_13 : decode cX7_bestDig 13 = .ok (.i2l, 1) := by decide +kernel
theorem dX7_bestDig_14 : decode cX7_bestDig 14 = .ok (.lconst 0, 1) := by decide +kernel
theorem dX7_bestDig_15 : decode cX7_bestDig 15 = .ok (.lconst 1, 1) := by decide +kernel
theorem dX7_bestDig_16 : decode cX7_bestDig 16 = .ok (.invokestatic 48, 3) := by decide +kernel
theorem dX7_bestDig_19 : decode cX7_bestDig 19 = .ok (.ifCond .ne 5, 3) := by decide +kernel
theorem dX7_bestDig_22 : decode cX7_bestDig 22 = .ok (.iconst (-1), 1) := by decide +kernel
theorem dX7_bestDig_23 : decode cX7_bestDig 23 = .ok (.ireturn, 1) := by decide +kernel
theorem dX7_bestDig_24 : decode cX7_bestDig 24 = .ok (.iconst 0, 1) := by decide +kernel
theorem dX7_bestDig_25 : decode cX7_bestDig 25 = .ok (.istore_n 3, 1) := by decide +kernel
theorem dX7_bestDig_26 : decode cX7_bestDig 26 = .ok (.iconst 0, 1) := by decide +kernel
theorem dX7_bestDig_27 : decode cX7_bestDig 27 = .ok (.istore 4, 2) := by decide +kernel
theorem dX7_bestDig_29 : decode cX7_bestDig 29 = .ok (.iconst 1, 1) := by decide +kernel
theorem dX7_bestDig_30 : decode cX7_bestDig 30 = .ok (.istore 5, 2) := by decide +kernel
theorem dX7_bestDig_32 : decode cX7_bestDig 32 = .ok (.iload 5, 2) := by decide +kernel
theorem dX7_bestDig_34 : decode cX7_bestDig 34 = .ok (.iconst 1, 1) := by decide +kernel
theorem dX7_bestDig_35 : decode cX7_bestDig 35 = .ok (.aload_n 0, 1) := by decide +kernel
theorem dX7_bestDig_36 : decode cX7_bestDig 36 = .ok (.invokevirtual 135, 3) := by decide +kernel
theorem dX7_bestDig_39 : decode cX7_bestDig 39 = .ok (.ishl, 1) := by decide +kernel
theorem dX7_bestDig_40 : decode cX7_bestDig 40 = .ok (.if_icmp .ge 135, 3) := by decide +kernel
theorem dX7_bestDig_43 : decode cX7_bestDig 43 = .ok (.iload 5, 2) := by decide +kernel
theorem dX7_bestDig_45 : decode cX7_bestDig 45 = .ok (.aload_n 0, 1) := by decide +kernel
theorem dX7_bestDig_46 : decode cX7_bestDig 46 = .ok (.getfield 19, 3) := by decide +kernel
theorem dX7_bestDig_49 : decode cX7_bestDig 49 = .ok (.iconst 2, 1) := by decide +kernel
theorem dX7_bestDig_50 : decode cX7_bestDig 50 = .ok (.iaload, 1) := by decide +kernel
theorem dX7_bestDig_51 : decode cX7_bestDig 51 = .ok (.iand, 1) := by decide +kernel
theorem dX7_bestDig_52 : decode cX7_bestDig 52 = .ok (.ifCond .ne 117, 3) := by decide +kernel
theorem dX7_bestDig_55 : decode cX7_bestDig 55 = .ok (.iload 5, 2) := by decide +kernel
theorem dX7_bestDig_57 : decode cX7_bestDig 57 = .ok (.invokestatic 169, 3) := by decide +kernel
theorem dX7_bestDig_60 : decode cX7_bestDig 60 = .ok (.iload_n 1, 1) := by decide +kernel
theorem dX7_bestDig_61 : decode cX7_bestDig 61 = .ok (.if_icmp .gt 108, 3) := by decide +kernel
theorem dX7_bestDig_64 : decode cX7_bestDig 64 = .ok (.iconst 0, 1) := by decide +kernel
theorem dX7_bestDig_65 : decode cX7_bestDig 65 = .ok (.istore 6, 2) := by decide +kernel
theorem dX7_bestDig_67 : decode cX7_bestDig 67 = .ok (.iconst 0, 1) := by decide +kernel
theorem dX7_bestDig_68 : decode cX7_bestDig 68 = .ok (.istore 7, 2) := by decide +kernel
theorem dX7_bestDig_70 : decode cX7_bestDig 70 = .ok (.iload 7, 2) := by decide +kernel
theorem dX7_bestDig_72 : decode cX7_bestDig 72 = .ok (.aload_n 0, 1) := by decide +kernel
theorem dX7_bestDig_73 : decode cX7_bestDig 73 = .ok (.invokevirtual 135, 3) := by decide +kernel
theorem dX7_bestDig_76 : decode cX7_bestDig 76 = .ok (.if_icmp .ge 39, 3) := by decide +kernel
theorem dX7_bestDig_79 : decode cX7_bestDig 79 = .ok (.iload 6, 2) := by decide +kernel
theorem dX7_bestDig_81 : decode cX7_bestDig 81 = .ok (.iload 5, 2) := by decide +kernel
theorem dX7_bestDig_83 : decode cX7_bestDig 83 = .ok (.iload 7, 2) := by decide +kernel
theorem dX7_bestDig_85 : decode cX7_bestDig 85 = .ok (.ishr, 1) := by decide +kernel
theorem dX7_bestDig_86 : decode cX7_bestDig 86 = .ok (.iconst 1, 1) := by decide +kernel
theorem dX7_bestDig_87 : decode cX7_bestDig 87 = .ok (.iand, 1) := by decide +kernel
theorem dX7_bestDig_88 : decode cX7_bestDig 88 = .ok (.iconst 1, 1) := by decide +kernel
theorem dX7_bestDig_89 : decode cX7_bestDig 89 = .ok (.if_icmp .ne 16, 3) := by decide +kernel
theorem dX7_bestDig_92 : decode cX7_bestDig 92 = .ok (.aload_n 0, 1) := by decide +kernel
theorem dX7_bestDig_93 : decode cX7_bestDig 93 = .ok (.getfield 16, 3) := by decide +kernel
theorem dX7_bestDig_96 : decode cX7_bestDig 96 = .ok (.bipush 6, 2) := by decide +kernel
theorem dX7_bestDig_98 : decode cX7_bestDig 98 = .ok (.iload 7, 2) := by decide +kernel
theorem dX7_bestDig_100 : decode cX7_bestDig 100 = .ok (.iadd, 1) := by decide +kernel
theorem dX7_bestDig_101 : decode cX7_bestDig 101 = .ok (.iaload, 1) := by decide +kernel
theorem dX7_bestDig_102 : decode cX7_bestDig 102 = .ok (.goto 4, 3) := by decide +kernel
theorem dX7_bestDig_105 : decode cX7_bestDig 105 = .ok (.iconst 0, 1) := by decide +kernel
theorem dX7_bestDig_106 : decode cX7_bestDig 106 = .ok (.iadd, 1) := by decide +kernel
theorem dX7_bestDig_107 : decode cX7_bestDig 107 = .ok (.istore 6, 2) := by decide +kernel
theorem dX7_bestDig_109 : decode cX7_bestDig 109 = .ok (.iinc 7 1, 3) := by decide +kernel
theorem dX7_bestDig_112 : decode cX7_bestDig 112 = .ok (.goto (-42), 3) := by decide +kernel
theorem dX7_bestDig_115 : decode cX7_bestDig 115 = .ok (.iload 6, 2) := by decide +kernel
theorem dX7_bestDig_117 : decode cX7_bestDig 117 = .ok (.iload 4, 2) := by decide +kernel
theorem dX7_bestDig_119 : decode cX7_bestDig 119 = .ok (.if_icmp .gt 22, 3) := by decide +kernel
theorem dX7_bestDig_122 : decode cX7_bestDig 122 = .ok (.iload 6, 2) := by decide +kernel
theorem dX7_bestDig_124 : decode cX7_bestDig 124 = .ok (.iload 4, 2) := by decide +kernel
theorem dX7_bestDig_126 : decode cX7_bestDig 126 = .ok (.if_icmp .ne 19, 3) := by decide +kernel
theorem dX7_bestDig_129 : decode cX7_bestDig 129 = .ok (.iload 5, 2) := by decide +kernel
theorem dX7_bestDig_131 : decode cX7_bestDig 131 = .ok (.invokestatic 169, 3) := by decide +kernel
theorem dX7_bestDig_134 : decode cX7_bestDig 134 = .ok (.iload_n 3, 1) := by decide +kernel
theorem dX7_bestDig_135 : decode cX7_bestDig 135 = .ok (.invokestatic 169, 3) := by decide +kernel
theorem dX7_bestDig_138 : decode cX7_bestDig 138 = .ok (.if_icmp .ge 7, 3) := by decide +kernel
theorem dX7_bestDig_141 : decode cX7_bestDig 141 = .ok (.iconst 1, 1) := by decide +kernel
theorem dX7_bestDig_142 : decode cX7_bestDig 142 = .ok (.goto 4, 3) := by decide +kernel
theorem dX7_bestDig_145 : decode cX7_bestDig 145 = .ok (.iconst 0, 1) := by decide +kernel
theorem dX7_bestDig_146 : decode cX7_bestDig 146 = .ok (.istore 7, 2) := by decide +kernel
theorem dX7_bestDig_148 : decode cX7_bestDig 148 = .ok (.iload 7, 2) := by decide +kernel
theorem dX7_bestDig_150 : decode cX7_bestDig 150 = .ok (.ifCond .eq 19, 3) := by decide +kernel
theorem dX7_bestDig_153 : decode cX7_bestDig 153 = .ok (.aload_n 0, 1) := by decide +kernel
theorem dX7_bestDig_154 : decode cX7_bestDig 154 = .ok (.iload 5, 2) := by decide +kernel
theorem dX7_bestDig_156 : decode cX7_bestDig 156 = .ok (.invokevirtual 181, 3) := by decide +kernel
theorem dX7_bestDig_159 : decode cX7_bestDig 159 = .ok (.ifCond .eq 10, 3) := by decide +kernel
theorem dX7_bestDig_162 : decode cX7_bestDig 162 = .ok (.iload 5, 2) := by decide +kernel
theorem dX7_bestDig_164 : decode cX7_bestDig 164 = .ok (.istore_n 3, 1) := by decide +kernel
theorem dX7_bestDig_165 : decode cX7_bestDig 165 = .ok (.iload 6, 2) := by decide +kernel
theorem dX7_bestDig_167 : decode cX7_bestDig 167 = .ok (.istore 4, 2) := by decide +kernel
theorem dX7_bestDig_169 : decode cX7_bestDig 169 = .ok (.iinc 5 1, 3) := by decide +kernel
theorem dX7_bestDig_172 : decode cX7_bestDig 172 = .ok (.goto (-140), 3) := by decide +kernel
theorem dX7_bestDig_175 : decode cX7_bestDig 175 = .ok (.iload_n 2, 1) := by decide +kernel
theorem dX7_bestDig_176 : decode cX7_bestDig 176 = .ok (.ifCond .ne 7, 3) := by decide +kernel
theorem dX7_bestDig_179 : decode cX7_bestDig 179 = .ok (.iload_n 3, 1) := by decide +kernel
theorem dX7_bestDig_180 : decode cX7_bestDig 180 = .ok (.goto 5, 3) := by decide +kernel
theorem dX7_bestDig_183 : decode cX7_bestDig 183 = .ok (.iload 4, 2) := by decide +kernel
theorem dX7_bestDig_185 : decode cX7_bestDig 185 = .ok (.ireturn, 1) := by decide +kernel
set_option maxRecDepth 20000 in
theorem ggX7_far_X7_isThing : GoodIn wsX7_far wsX7_isThing := goodIn_r _ [5, 6, 7, 8, 4, 9, 31, 32, 33, 34, 35, 36, 37, 38, 39, 40, 41, 42, 43, 44, 45, 46, 47, 48, 49] (by decide +kernel) (by decide +kernel)
set_option maxRecDepth 20000 in
theorem gX7_far_X7_isThing : GoodIn wsX7_far (wsV RX7 147 RX7 yX7_isThing wsX7_isThing) := goodIn_app (goodIn_of _ (by decide +kernel)) ggX7_far_X7_isThing
set_option maxRecDepth 20000 in
theorem ggX7_far_X7_isThen : GoodIn wsX7_far wsX7_isThen := goodIn_r _ [13, 14, 15, 16, 4, 17, 18, 19, 20, 21, 22, 6, 23, 24, 25, 26, 27, 28, 29, 30, 31, 32, 33, 34, 35, 36, 37, 38, 39, 40, 41, 42, 43, 44, 45, 46, 47, 48, 49] (by decide +kernel) (by decide +kernel)
set_option maxRecDepth 20000 in
theorem gX7_far_X7_isThen : GoodIn wsX7_far (wsV RX7 155 RX7 yX7_isThen wsX7_isThen) := goodIn_app (goodIn_of _ (by decide +kernel)) ggX7_far_X7_isThen
set_option maxRecDepth 20000 in
theorem ggX7_far_X7_white : GoodIn wsX7_far wsX7_white := goodIn_r _ [26, 18, 31, 32, 33, 34, 35, 36, 37, 38, 39, 40, 41, 42, 43, 44, 45, 46, 47, 48, 49] (by decide +kernel) (by decide +kernel)
set_option maxRecDepth 20000 in
theorem gX7_far_X7_white : GoodIn wsX7_far (wsV RX7 129 RX7 yX7_white wsX7_white) := goodIn_app (goodIn_of _ (by decide +kernel)) ggX7_far_X7_white
set_option maxRecDepth 20000 in
theorem ggX7_far_X7_yellow : GoodIn wsX7_far wsX7_yellow := goodIn_r _ [17, 18, 31, 32, 33, 34, 35, 36, 37, 38, 39, 40, 41, 42, 43, 44, 45, 46, 47, 48, 49] (by decide +kernel) (by decide +kernel)
set_option maxRecDepth 20000 in
theorem gX7_far_X7_yellow : GoodIn wsX7_far (wsV RX7 122 RX7 yX7_yellow wsX7_yellow) := goodIn_app (goodIn_of _ (by decide +kernel)) ggX7_far_X7_yellow
set_option maxRecDepth 20000 in
theorem ggX7_far_X7_isCalled : GoodIn wsX7_far wsX7_isCalled := goodIn_r _ [30, 6, 31, 32, 33, 34, 35, 36, 37, 38, 39, 40, 41, 42, 43, 44, 45, 46, 47, 48, 49] (by decide +kernel) (by decide +kernel)
set_option maxRecDepth 20000 in
theorem gX7_far_X7_isCalled : GoodIn wsX7_far (wsV RX7 132 RX7 yX7_isCalled wsX7_isCalled) := goodIn_app (goodIn_of _ (by decide +kernel)) ggX7_far_X7_isCalled
theorem dX7_far_0 : decode cX7_far 0 = .ok (.aload_n 0, 1) := by decide +kernel
theorem dX7_far_1 : decode cX7_far 1 = .ok (.iload_n 1, 1) := by decide +kernel
theorem dX7_far_2 : decode cX7_far 2 = .ok (.invokevirtual 147, 3) := by decide +kernel
theorem dX7_far_5 : decode cX7_far 5 = .ok (.ifCond .ne 5, 3) := by decide +kernel
theorem dX7_far_8 : decode cX7_far 8 = .ok (.iconst (-1), 1) := by decide +kernel
theorem dX7_far_9 : decode cX7_far 9 = .ok (.ireturn, 1) := by decide +kernel
theorem dX7_far_10 : decode cX7_far 10 = .ok (.aload_n 0, 1) := by decide +kernel
theorem dX7_far_11 : decode cX7_far 11 = .ok (.iload_n 1, 1) := by decide +kernel
theorem dX7_far_12 : decode cX7_far 12 = .ok (.iconst 0, 1) := by decide +kernel
theorem dX7_far_13 : decode cX7_far 13 = .ok (.iconst 0, 1) := by decide +kernel
theorem dX7_far_14 : decode cX7_far 14 = .ok (.invokevirtual 155, 3) := by decide +kernel
theorem dX7_far_17 : decode cX7_far 17 = .ok (.ifCond .ne 6, 3) := by decide +kernel
theorem dX7_far_20 : decode cX7_far 20 = .ok (.bipush (-5), 2) := by decide +kernel
theorem dX7_far_22 : decode cX7_far 22 = .ok (.ireturn, 1) := by decide +kernel
theorem dX7_far_23 : decode cX7_far 23 = .ok (.iconst 0, 1) := by decide +kernel
theorem dX7_far_24 : decode cX7_far 24 = .ok (.istore_n 2, 1) := by decide +kernel
theorem dX7_far_25 : decode cX7_far 25 = .ok (.aload_n 0, 1) := by decide +kernel
theorem dX7_far_26 : decode cX7_far 26 = .ok (.iload_n 1, 1) := by decide +kernel
theorem dX7_far_27 : decode cX7_far 27 = .ok (.invokevirtual 129, 3) := by decide +kernel
theorem dX7_far_30 : decode cX7_far 30 = .ok (.iload_n 2, 1) := by decide +kernel
theorem dX7_far_31 : decode cX7_far 31 = .ok (.iadd, 1) := by decide +kernel
theorem dX7_far_32 : decode cX7_far 32 = .ok (.sipush 999, 3) := by decide +kernel
theorem dX7_far_35 : decode cX7_far 35 = .ok (.if_icmp .ge 30, 3) := by decide +kernel
theorem dX7_far_38 : decode cX7_far 38 = .ok (.aload_n 0, 1) := by decide +kernel
theorem dX7_far_39 : decode cX7_far 39 = .ok (.aload_n 0, 1) := by decide +kernel
theorem dX7_far_40 : decode cX7_far 40 = .ok (.iload_n 1, 1) := by decide +kernel
theorem dX7_far_41 : decode cX7_far 41 = .ok (.invokevirtual 122, 3) := by decide +kernel
theorem dX7_far_44 : decode cX7_far 44 = .ok (.aload_n 0, 1) := by decide +kernel
theorem dX7_far_45 : decode cX7_far 45 = .ok (.iload_n 1, 1) := by decide +kernel
theorem dX7_far_46 : decode cX7_far 46 = .ok (.invokevirtual 129, 3) := by decide +kernel
theorem dX7_far_49 : decode cX7_far 49 = .ok (.iload_n 2, 1) := by decide +kernel
theorem dX7_far_50 : decode cX7_far 50 = .ok (.iadd, 1) := by decide +kernel
theorem dX7_far_51 : decode cX7_far 51 = .ok (.iconst 1, 1) := by decide +kernel
theorem dX7_far_52 : decode cX7_far 52 = .ok (.iadd, 1) := by decide +kernel
theorem dX7_far_53 : decode cX7_far 53 = .ok (.invokevirtual 132, 3) := by decide +kernel
theorem dX7_far_56 : decode cX7_far 56 = .ok (.ifCond .eq 9, 3) := by decide +kernel
theorem dX7_far_59 : decode cX7_far 59 = .ok (.iinc 2 1, 3) := by decide +kernel
theorem dX7_far_62 : decode cX7_far 62 = .ok (.goto (-37), 3) := by decide +kernel
theorem dX7_far_65 : decode cX7_far 65 = .ok (.iload_n 2, 1) := by decide +kernel
theorem dX7_far_66 : decode cX7_far 66 = .ok (.ireturn, 1) := by decide +kernel
set_option maxRecDepth 20000 in
theorem ggX7_sell_X7_isThing : GoodIn wsX7_sell wsX7_isThing := goodIn_r _ [7, 2, 8, 9, 6, 10, 36, 37, 38, 39, 40, 41, 42, 43, 44, 45, 46, 47, 48, 49, 50, 51, 52, 53, 54] (by decide +kernel) (by decide +kernel)
set_option maxRecDepth 20000 in
theorem gX7_sell_X7_isThing : GoodIn wsX7_sell (wsV RX7 147 RX7 yX7_isThing wsX7_isThing) := goodIn_app (goodIn_of _ (by decide +kernel)) ggX7_sell_X7_isThing
set_option maxRecDepth 20000 in
theorem ggX7_sell_X7_in : GoodIn wsX7_sell wsX7_in := goodIn_r _ [10] (by decide +kernel) (by decide +kernel)
set_option maxRecDepth 20000 in
theorem gX7_sell_X7_in : GoodIn wsX7_sell (va_wsS RX7 48 yX7_in wsX7_in) := goodIn_app (goodIn_of _ (by decide +kernel)) ggX7_sell_X7_in
set_option maxRecDepth 20000 in
theorem ggX7_sell_X7_isThen : GoodIn wsX7_sell wsX7_isThen := goodIn_r _ [14, 15, 16, 17, 6, 18, 19, 20, 21, 22, 23, 2, 24, 25, 26, 27, 28, 29, 30, 31, 36, 37, 38, 39, 40, 41, 42, 43, 44, 45, 46, 47, 48, 49, 50, 51, 52, 53, 54] (by decide +kernel) (by decide +kernel)
set_option maxRecDepth 20000 in
theorem gX7_sell_X7_isThen : GoodIn wsX7_sell (wsV RX7 155 RX7 yX7_isThen wsX7_isThen) := goodIn_app (goodIn_of _ (by decide +kernel)) ggX7_sell_X7_isThen
set_option maxRecDepth 20000 in
theorem ggX7_sell_X7_worth : GoodIn wsX7_sell wsX7_worth := goodIn_r _ [35, 2, 36, 37, 38, 39, 40, 41, 42, 43, 44, 45, 46, 47, 48, 49, 50, 51, 52, 53, 54] (by decide +kernel) (by decide +kernel)
set_option maxRecDepth 20000 in
theorem gX7_sell_X7_worth : GoodIn wsX7_sell (wsV RX7 152 RX7 yX7_worth wsX7_worth) := goodIn_app (goodIn_of _ (by decide +kernel)) ggX7_sell_X7_worth
theorem dX7_sell_0 : decode cX7_sell 0 = .ok (.aload_n 0, 1) := by decide +kernel
theorem dX7_sell_1 : decode cX7_sell 1 = .ok (.iload_n 1, 1) := by decide +kernel
theorem dX7_sell_2 : decode cX7_sell 2 = .ok (.invokevirtual 147, 3) := by decide +kernel
theorem dX7_sell_5 : decode cX7_sell 5 = .ok (.ifCond .eq 25, 3) := by decide +kernel
theorem dX7_sell_8 : decode cX7_sell 8 = .ok (.iload_n 2, 1) := by decide +kernel
theorem dX7_sell_9 : decode cX7_sell 9 = .ok (.i2l, 1) := by decide +kernel
theorem dX7_sell_10 : decode cX7_sell 10 = .ok (.lconst 0, 1) := by decide +kernel
theorem dX7_sell_11 : decode cX7_sell 11 = .ok (.ldc2_w 184, 3) := by decide +kernel
theorem dX7_sell_14 : decode cX7_sell 14 = .ok (.invokestatic 48, 3) := by decide +kernel
theorem dX7_sell_17 : decode cX7_sell 17 = .ok (.ifCond .eq 13, 3) := by decide +kernel
theorem dX7_sell_20 : decode cX7_sell 20 = .ok (.iload_n 3, 1) := by decide +kernel
theorem dX7_sell_21 : decode cX7_sell 21 = .ok (.i2l, 1) := by decide +kernel
theorem dX7_sell_22 : decode cX7_sell 22 = .ok (.lconst 0, 1) := by decide +kernel
theorem dX7_sell_23 : decode cX7_sell 23 = .ok (.lconst 1, 1) := by decide +kernel
theorem dX7_sell_24 : decode cX7_sell 24 = .ok (.invokestatic 48, 3) := by decide +kernel
theorem dX7_sell_27 : decode cX7_sell 27 = .ok (.ifCond .ne 5, 3) := by decide +kernel
theorem dX7_sell_30 : decode cX7_sell 30 = .ok (.iconst (-1), 1) := by decide +kernel
theorem dX7_sell_31 : decode cX7_sell 31 = .ok (.ireturn, 1) := by decide +kernel
theorem dX7_sell_32 : decode cX7_sell 32 = .ok (.iconst 0, 1) := by decide +kernel
theorem dX7_sell_33 : decode cX7_sell 33 = .ok (.istore 4, 2) := by decide +kernel
theorem dX7_sell_35 : decode cX7_sell 35 = .ok (.iconst (-1), 1) := by decide +kernel
theorem dX7_sell_36 : decode cX7_sell 36 = .ok (.istore 5, 2) := by decide +kernel
theorem dX7_sell_38 : decode cX7_sell 38 = .ok (.iconst 0, 1) := by decide +kernel
theorem dX7_sell_39 : decode cX7_sell 39 = .ok (.istore 6, 2) := by decide +kernel
theorem dX7_sell_41 : decode cX7_sell 41 = .ok (.iload 6, 2) := by decide +kernel
theorem dX7_sell_43 : decode cX7_sell 43 = .ok (.iload_n 2, 1) := by decide +kernel
theorem dX7_sell_44 : decode cX7_sell 44 = .ok (.if_icmp .gt 113, 3) := by decide +kernel
theorem dX7_sell_47 : decode cX7_sell 47 = .ok (.iconst 0, 1) := by decide +kernel
theorem dX7_sell_48 : decode cX7_sell 48 = .ok (.istore 7, 2) := by decide +kernel
theorem dX7_sell_50 : decode cX7_sell 50 = .ok (.iconst 0, 1) := by decide +kernel
theorem dX7_sell_51 : decode cX7_sell 51 = .ok (.istore 8, 2) := by decide +kernel
theorem dX7_sell_53 : decode cX7_sell 53 = .ok (.iload 8, 2) := by decide +kernel
theorem dX7_sell_55 : decode cX7_sell 55 = .ok (.aload_n 0, 1) := by decide +kernel
theorem dX7_sell_56 : decode cX7_sell 56 = .ok (.getfield 16, 3) := by decide +kernel
theorem dX7_sell_59 : decode cX7_sell 59 = .ok (.iconst 2, 1) := by decide +kernel
theorem dX7_sell_60 : decode cX7_sell 60 = .ok (.iaload, 1) := by decide +kernel
theorem dX7_sell_61 : decode cX7_sell 61 = .ok (.if_icmp .ge 31, 3) := by decide +kernel
