set_option maxRecDepth 20000 in
theorem gX6_stretches_X2_white : GoodIn wsX6_stretches (wsV RX6 120 RX2 yX2_white wsX2_white) := goodIn_app (goodIn_of _ (by decide +kernel)) ggX6_stretches_X2_white
set_option maxRecDepth 20000 in
theorem ggX6_stretches_X2_remember : GoodIn wsX6_stretches wsX2_remember := goodIn_r _ [20, 16, 21, 22, 23, 24, 25, 26, 27, 28, 29, 55, 56] (by decide +kernel) (by decide +kernel)
set_option maxRecDepth 20000 in
theorem gX6_stretches_X2_remember : GoodIn wsX6_stretches (wsV RX6 133 RX2 yX2_remember wsX2_remember) := goodIn_app (goodIn_of _ (by decide +kernel)) ggX6_stretches_X2_remember
set_option maxRecDepth 20000 in
theorem ggX6_stretches_X2_setWhite : GoodIn wsX6_stretches wsX2_setWhite := goodIn_r _ [33, 16, 55, 56] (by decide +kernel) (by decide +kernel)
set_option maxRecDepth 20000 in
theorem gX6_stretches_X2_setWhite : GoodIn wsX6_stretches (wsV RX6 153 RX2 yX2_setWhite wsX2_setWhite) := goodIn_app (goodIn_of _ (by decide +kernel)) ggX6_stretches_X2_setWhite
theorem dX6_stretches_0 : decode cX6_stretches 0 = .ok (.aload_n 0, 1) := by decide +kernel
theorem dX6_stretches_1 : decode cX6_stretches 1 = .ok (.iload_n 1, 1) := by decide +kernel
theorem dX6_stretches_2 : decode cX6_stretches 2 = .ok (.invokevirtual 114, 3) := by decide +kernel
theorem dX6_stretches_5 : decode cX6_stretches 5 = .ok (.ifCond .eq 13, 3) := by decide +kernel
theorem dX6_stretches_8 : decode cX6_stretches 8 = .ok (.iload_n 2, 1) := by decide +kernel
theorem dX6_stretches_9 : decode cX6_stretches 9 = .ok (.iconst 1, 1) := by decide +kernel
theorem dX6_stretches_10 : decode cX6_stretches 10 = .ok (.bipush 99, 2) := by decide +kernel
theorem dX6_stretches_12 : decode cX6_stretches 12 = .ok (.invokestatic 61, 3) := by decide +kernel
theorem dX6_stretches_15 : decode cX6_stretches 15 = .ok (.ifCond .ne 5, 3) := by decide +kernel
theorem dX6_stretches_18 : decode cX6_stretches 18 = .ok (.iconst (-1), 1) := by decide +kernel
theorem dX6_stretches_19 : decode cX6_stretches 19 = .ok (.ireturn, 1) := by decide +kernel
theorem dX6_stretches_20 : decode cX6_stretches 20 = .ok (.aload_n 0, 1) := by decide +kernel
theorem dX6_stretches_21 : decode cX6_stretches 21 = .ok (.getfield 29, 3) := by decide +kernel
theorem dX6_stretches_24 : decode cX6_stretches 24 = .ok (.iload_n 1, 1) := by decide +kernel
theorem dX6_stretches_25 : decode cX6_stretches 25 = .ok (.invokevirtual 120, 3) := by decide +kernel
theorem dX6_stretches_28 : decode cX6_stretches 28 = .ok (.iload_n 2, 1) := by decide +kernel
theorem dX6_stretches_29 : decode cX6_stretches 29 = .ok (.iadd, 1) := by decide +kernel
theorem dX6_stretches_30 : decode cX6_stretches 30 = .ok (.sipush 999, 3) := by decide +kernel
theorem dX6_stretches_33 : decode cX6_stretches 33 = .ok (.if_icmp .le 6, 3) := by decide +kernel
theorem dX6_stretches_36 : decode cX6_stretches 36 = .ok (.bipush (-3), 2) := by decide +kernel
theorem dX6_stretches_38 : decode cX6_stretches 38 = .ok (.ireturn, 1) := by decide +kernel
theorem dX6_stretches_39 : decode cX6_stretches 39 = .ok (.aload_n 0, 1) := by decide +kernel
theorem dX6_stretches_40 : decode cX6_stretches 40 = .ok (.getfield 29, 3) := by decide +kernel
theorem dX6_stretches_43 : decode cX6_stretches 43 = .ok (.invokevirtual 133, 3) := by decide +kernel
theorem dX6_stretches_46 : decode cX6_stretches 46 = .ok (.aload_n 0, 1) := by decide +kernel
theorem dX6_stretches_47 : decode cX6_stretches 47 = .ok (.getfield 29, 3) := by decide +kernel
theorem dX6_stretches_50 : decode cX6_stretches 50 = .ok (.iload_n 1, 1) := by decide +kernel
theorem dX6_stretches_51 : decode cX6_stretches 51 = .ok (.aload_n 0, 1) := by decide +kernel
theorem dX6_stretches_52 : decode cX6_stretches 52 = .ok (.getfield 29, 3) := by decide +kernel
theorem dX6_stretches_55 : decode cX6_stretches 55 = .ok (.iload_n 1, 1) := by decide +kernel
theorem dX6_stretches_56 : decode cX6_stretches 56 = .ok (.invokevirtual 120, 3) := by decide +kernel
theorem dX6_stretches_59 : decode cX6_stretches 59 = .ok (.iload_n 2, 1) := by decide +kernel
theorem dX6_stretches_60 : decode cX6_stretches 60 = .ok (.iadd, 1) := by decide +kernel
theorem dX6_stretches_61 : decode cX6_stretches 61 = .ok (.invokevirtual 153, 3) := by decide +kernel
theorem dX6_stretches_64 : decode cX6_stretches 64 = .ok (.aload_n 0, 1) := by decide +kernel
theorem dX6_stretches_65 : decode cX6_stretches 65 = .ok (.getfield 29, 3) := by decide +kernel
theorem dX6_stretches_68 : decode cX6_stretches 68 = .ok (.iload_n 1, 1) := by decide +kernel
theorem dX6_stretches_69 : decode cX6_stretches 69 = .ok (.invokevirtual 120, 3) := by decide +kernel
theorem dX6_stretches_72 : decode cX6_stretches 72 = .ok (.ireturn, 1) := by decide +kernel
set_option maxRecDepth 20000 in
theorem ggX6_years_X6_within : GoodIn wsX6_years wsX6_within := goodIn_r _ [6] (by decide +kernel) (by decide +kernel)
set_option maxRecDepth 20000 in
theorem gX6_years_X6_within : GoodIn wsX6_years (va_wsS RX6 61 yX6_within wsX6_within) := goodIn_app (goodIn_of _ (by decide +kernel)) ggX6_years_X6_within
set_option maxRecDepth 20000 in
theorem ggX6_years_X2_year : GoodIn wsX6_years wsX2_year := goodIn_r _ [11, 12, 89, 90] (by decide +kernel) (by decide +kernel)
set_option maxRecDepth 20000 in
theorem gX6_years_X2_year : GoodIn wsX6_years (wsV RX6 156 RX2 yX2_year wsX2_year) := goodIn_app (goodIn_of _ (by decide +kernel)) ggX6_years_X2_year
set_option maxRecDepth 20000 in
theorem ggX6_years_X2_remember : GoodIn wsX6_years wsX2_remember := goodIn_r _ [16, 12, 17, 18, 19, 20, 21, 22, 23, 24, 25, 89, 90] (by decide +kernel) (by decide +kernel)
set_option maxRecDepth 20000 in
theorem gX6_years_X2_remember : GoodIn wsX6_years (wsV RX6 133 RX2 yX2_remember wsX2_remember) := goodIn_app (goodIn_of _ (by decide +kernel)) ggX6_years_X2_remember
set_option maxRecDepth 20000 in
theorem ggX6_years_X6_yellowAfter : GoodIn wsX6_years wsX6_yellowAfter := goodIn_r _ [29, 1, 2, 30, 31, 24, 32, 33, 34, 35, 10, 36, 12, 68, 69, 70, 71, 72, 73, 74, 75, 76, 77, 78, 79, 80, 81, 82, 83, 84, 85, 86, 87, 88, 89, 90] (by decide +kernel) (by decide +kernel)
set_option maxRecDepth 20000 in
theorem gX6_years_X6_yellowAfter : GoodIn wsX6_years (wsV RX6 162 RX6 yX6_yellowAfter wsX6_yellowAfter) := goodIn_app (goodIn_of _ (by decide +kernel)) ggX6_years_X6_yellowAfter
set_option maxRecDepth 20000 in
theorem ggX6_years_X2_setYellow : GoodIn wsX6_years wsX2_setYellow := goodIn_r _ [40, 12, 89, 90] (by decide +kernel) (by decide +kernel)
set_option maxRecDepth 20000 in
theorem gX6_years_X2_setYellow : GoodIn wsX6_years (wsV RX6 149 RX2 yX2_setYellow wsX2_setYellow) := goodIn_app (goodIn_of _ (by decide +kernel)) ggX6_years_X2_setYellow
set_option maxRecDepth 20000 in
theorem ggX6_years_X2_setYear : GoodIn wsX6_years wsX2_setYear := goodIn_r _ [44, 12, 89, 90] (by decide +kernel) (by decide +kernel)
set_option maxRecDepth 20000 in
theorem gX6_years_X2_setYear : GoodIn wsX6_years (wsV RX6 165 RX2 yX2_setYear wsX2_setYear) := goodIn_app (goodIn_of _ (by decide +kernel)) ggX6_years_X2_setYear
set_option maxRecDepth 20000 in
theorem ggX6_years_X6_calledSet : GoodIn wsX6_years wsX6_calledSet := goodIn_r _ [48, 2, 49, 50, 51, 5, 52, 1, 26, 27, 28, 29, 30, 31, 24, 32, 33, 34, 35, 10, 36, 12, 53, 54, 55, 56, 57, 58, 59, 60, 68, 69, 70, 71, 72, 73, 74, 75, 76, 77, 78, 79, 80, 81, 82, 83, 84, 85, 86, 87, 88, 89, 90] (by decide +kernel) (by decide +kernel)
set_option maxRecDepth 20000 in
theorem gX6_years_X6_calledSet : GoodIn wsX6_years (wsV RX6 168 RX6 yX6_calledSet wsX6_calledSet) := goodIn_app (goodIn_of _ (by decide +kernel)) ggX6_years_X6_calledSet
set_option maxRecDepth 20000 in
theorem ggX6_years_J6_bitCount_0f7a4 : GoodIn wsX6_years wsJ6_bitCount_0f7a4 := goodIn_r _ [64, 65, 66, 67] (by decide +kernel) (by decide +kernel)
set_option maxRecDepth 20000 in
theorem gX6_years_J6_bitCount_0f7a4 : GoodIn wsX6_years (va_wsS RX6 171 yJ6_bitCount_0f7a4 wsJ6_bitCount_0f7a4) := goodIn_app (goodIn_of _ (by decide +kernel)) ggX6_years_J6_bitCount_0f7a4
theorem dX6_years_0 : decode cX6_years 0 = .ok (.iload_n 1, 1) := by decide +kernel
theorem dX6_years_1 : decode cX6_years 1 = .ok (.iconst 1, 1) := by decide +kernel
theorem dX6_years_2 : decode cX6_years 2 = .ok (.bipush 99, 2) := by decide +kernel
theorem dX6_years_4 : decode cX6_years 4 = .ok (.invokestatic 61, 3) := by decide +kernel
theorem dX6_years_7 : decode cX6_years 7 = .ok (.ifCond .ne 5, 3) := by decide +kernel
theorem dX6_years_10 : decode cX6_years 10 = .ok (.iconst (-1), 1) := by decide +kernel
theorem dX6_years_11 : decode cX6_years 11 = .ok (.ireturn, 1) := by decide +kernel
theorem dX6_years_12 : decode cX6_years 12 = .ok (.aload_n 0, 1) := by decide +kernel
theorem dX6_years_13 : decode cX6_years 13 = .ok (.getfield 29, 3) := by decide +kernel
theorem dX6_years_16 : decode cX6_years 16 = .ok (.invokevirtual 156, 3) := by decide +kernel
theorem dX6_years_19 : decode cX6_years 19 = .ok (.iload_n 1, 1) := by decide +kernel
theorem dX6_years_20 : decode cX6_years 20 = .ok (.iadd, 1) := by decide +kernel
theorem dX6_years_21 : decode cX6_years 21 = .ok (.sipush 999, 3) := by decide +kernel
theorem dX6_years_24 : decode cX6_years 24 = .ok (.if_icmp .le 6, 3) := by decide +kernel
theorem dX6_years_27 : decode cX6_years 27 = .ok (.bipush (-2), 2) := by decide +kernel
theorem dX6_years_29 : decode cX6_years 29 = .ok (.ireturn, 1) := by decide +kernel
theorem dX6_years_30 : decode cX6_years 30 = .ok (.aload_n 0, 1) := by decide +kernel
theorem dX6_years_31 : decode cX6_years 31 = .ok (.getfield 29, 3) := by decide +kernel
theorem dX6_years_34 : decode cX6_years 34 = .ok (.invokevirtual 133, 3) := by decide +kernel
theorem dX6_years_37 : decode cX6_years 37 = .ok (.iconst 0, 1) := by decide +kernel
theorem dX6_years_38 : decode cX6_years 38 = .ok (.istore_n 2, 1) := by decide +kernel
theorem dX6_years_39 : decode cX6_years 39 = .ok (.iload_n 2, 1) := by decide +kernel
theorem dX6_years_40 : decode cX6_years 40 = .ok (.aload_n 0, 1) := by decide +kernel
theorem dX6_years_41 : decode cX6_years 41 = .ok (.getfield 19, 3) := by decide +kernel
theorem dX6_years_44 : decode cX6_years 44 = .ok (.getfield 159, 3) := by decide +kernel
theorem dX6_years_47 : decode cX6_years 47 = .ok (.if_icmp .ge 23, 3) := by decide +kernel
theorem dX6_years_50 : decode cX6_years 50 = .ok (.aload_n 0, 1) := by decide +kernel
theorem dX6_years_51 : decode cX6_years 51 = .ok (.getfield 29, 3) := by decide +kernel
theorem dX6_years_54 : decode cX6_years 54 = .ok (.iload_n 2, 1) := by decide +kernel
theorem dX6_years_55 : decode cX6_years 55 = .ok (.aload_n 0, 1) := by decide +kernel
theorem dX6_years_56 : decode cX6_years 56 = .ok (.iload_n 2, 1) := by decide +kernel
theorem dX6_years_57 : decode cX6_years 57 = .ok (.iload_n 1, 1) := by decide +kernel
theorem dX6_years_58 : decode cX6_years 58 = .ok (.invokevirtual 162, 3) := by decide +kernel
theorem dX6_years_61 : decode cX6_years 61 = .ok (.invokevirtual 149, 3) := by decide +kernel
theorem dX6_years_64 : decode cX6_years 64 = .ok (.iinc 2 1, 3) := by decide +kernel
theorem dX6_years_67 : decode cX6_years 67 = .ok (.goto (-28), 3) := by decide +kernel
theorem dX6_years_70 : decode cX6_years 70 = .ok (.aload_n 0, 1) := by decide +kernel
theorem dX6_years_71 : decode cX6_years 71 = .ok (.getfield 29, 3) := by decide +kernel
theorem dX6_years_74 : decode cX6_years 74 = .ok (.aload_n 0, 1) := by decide +kernel
theorem dX6_years_75 : decode cX6_years 75 = .ok (.getfield 29, 3) := by decide +kernel
theorem dX6_years_78 : decode cX6_years 78 = .ok (.invokevirtual 156, 3) := by decide +kernel
theorem dX6_years_81 : decode cX6_years 81 = .ok (.iload_n 1, 1) := by decide +kernel
theorem dX6_years_82 : decode cX6_years 82 = .ok (.iadd, 1) := by decide +kernel
theorem dX6_years_83 : decode cX6_years 83 = .ok (.invokevirtual 165, 3) := by decide +kernel
theorem dX6_years_86 : decode cX6_years 86 = .ok (.aload_n 0, 1) := by decide +kernel
theorem dX6_years_87 : decode cX6_years 87 = .ok (.invokevirtual 168, 3) := by decide +kernel
theorem dX6_years_90 : decode cX6_years 90 = .ok (.invokestatic 171, 3) := by decide +kernel
theorem dX6_years_93 : decode cX6_years 93 = .ok (.ireturn, 1) := by decide +kernel
set_option maxRecDepth 20000 in
theorem ggX6_undo_X2_stepBack : GoodIn wsX6_undo wsX2_stepBack := goodIn_r _ [6, 7, 8, 9, 10, 11, 12, 13, 14, 15, 16, 27, 28] (by decide +kernel) (by decide +kernel)
set_option maxRecDepth 20000 in
theorem gX6_undo_X2_stepBack : GoodIn wsX6_undo (wsV RX6 179 RX2 yX2_stepBack wsX2_stepBack) := goodIn_app (goodIn_of _ (by decide +kernel)) ggX6_undo_X2_stepBack
theorem dX6_undo_0 : decode cX6_undo 0 = .ok (.aload_n 0, 1) := by decide +kernel
theorem dX6_undo_1 : decode cX6_undo 1 = .ok (.getfield 29, 3) := by decide +kernel
theorem dX6_undo_4 : decode cX6_undo 4 = .ok (.getfield 176, 3) := by decide +kernel
theorem dX6_undo_7 : decode cX6_undo 7 = .ok (.ifCond .ne 6, 3) := by decide +kernel
theorem dX6_undo_10 : decode cX6_undo 10 = .ok (.bipush (-2), 2) := by decide +kernel
theorem dX6_undo_12 : decode cX6_undo 12 = .ok (.ireturn, 1) := by decide +kernel
theorem dX6_undo_13 : decode cX6_undo 13 = .ok (.aload_n 0, 1) := by decide +kernel
theorem dX6_undo_14 : decode cX6_undo 14 = .ok (.getfield 29, 3) := by decide +kernel
theorem dX6_undo_17 : decode cX6_undo 17 = .ok (.invokevirtual 179, 3) := by decide +kernel
theorem dX6_undo_20 : decode cX6_undo 20 = .ok (.aload_n 0, 1) := by decide +kernel
theorem dX6_undo_21 : decode cX6_undo 21 = .ok (.getfield 29, 3) := by decide +kernel
theorem dX6_undo_24 : decode cX6_undo 24 = .ok (.getfield 176, 3) := by decide +kernel
theorem dX6_undo_27 : decode cX6_undo 27 = .ok (.ireturn, 1) := by decide +kernel
set_option maxRecDepth 20000 in
theorem ggX6_now_X2_year : GoodIn wsX6_now wsX2_year := goodIn_r _ [7, 8, 88, 89] (by decide +kernel) (by decide +kernel)
set_option maxRecDepth 20000 in
theorem gX6_now_X2_year : GoodIn wsX6_now (wsV RX6 156 RX2 yX2_year wsX2_year) := goodIn_app (goodIn_of _ (by decide +kernel)) ggX6_now_X2_year
set_option maxRecDepth 20000 in
theorem ggX6_now_X2_store : GoodIn wsX6_now wsX2_store := goodIn_r _ [12, 8, 88, 89] (by decide +kernel) (by decide +kernel)
set_option maxRecDepth 20000 in
theorem gX6_now_X2_store : GoodIn wsX6_now (wsV RX6 143 RX2 yX2_store wsX2_store) := goodIn_app (goodIn_of _ (by decide +kernel)) ggX6_now_X2_store
set_option maxRecDepth 20000 in
theorem ggX6_now_X2_dug : GoodIn wsX6_now wsX2_dug := goodIn_r _ [16, 8, 88, 89] (by decide +kernel) (by decide +kernel)
set_option maxRecDepth 20000 in
theorem gX6_now_X2_dug : GoodIn wsX6_now (wsV RX6 103 RX2 yX2_dug wsX2_dug) := goodIn_app (goodIn_of _ (by decide +kernel)) ggX6_now_X2_dug
set_option maxRecDepth 20000 in
theorem ggX6_now_X6_calledSet : GoodIn wsX6_now wsX6_calledSet := goodIn_r _ [21, 2, 22, 23, 24, 20, 25, 1, 26, 27, 28, 29, 30, 31, 32, 33, 34, 35, 36, 6, 37, 8, 38, 39, 40, 41, 42, 43, 44, 45, 60, 61, 62, 63, 64, 65, 66, 67, 68, 69, 70, 71, 72, 73, 74, 75, 76, 77, 78, 79, 80, 88, 89] (by decide +kernel) (by decide +kernel)
set_option maxRecDepth 20000 in
theorem gX6_now_X6_calledSet : GoodIn wsX6_now (wsV RX6 168 RX6 yX6_calledSet wsX6_calledSet) := goodIn_app (goodIn_of _ (by decide +kernel)) ggX6_now_X6_calledSet
set_option maxRecDepth 20000 in
theorem ggX6_now_X6_worthOf : GoodIn wsX6_now wsX6_worthOf := goodIn_r _ [49, 2, 60, 61, 62, 63, 64, 65, 66, 67, 68, 69, 70, 71, 72, 73, 74, 75, 76, 77, 78, 79, 80] (by decide +kernel) (by decide +kernel)
set_option maxRecDepth 20000 in
theorem gX6_now_X6_worthOf : GoodIn wsX6_now (wsV RX6 182 RX6 yX6_worthOf wsX6_worthOf) := goodIn_app (goodIn_of _ (by decide +kernel)) ggX6_now_X6_worthOf
set_option maxRecDepth 20000 in
theorem ggX6_now_X6_yellowOfAll : GoodIn wsX6_now wsX6_yellowOfAll := goodIn_r _ [53, 2, 1, 34, 35, 36, 6, 37, 8, 60, 61, 62, 63, 64, 65, 66, 67, 68, 69, 70, 71, 72, 73, 74, 75, 76, 77, 78, 79, 80, 88, 89] (by decide +kernel) (by decide +kernel)
set_option maxRecDepth 20000 in
theorem gX6_now_X6_yellowOfAll : GoodIn wsX6_now (wsV RX6 185 RX6 yX6_yellowOfAll wsX6_yellowOfAll) := goodIn_app (goodIn_of _ (by decide +kernel)) ggX6_now_X6_yellowOfAll
set_option maxRecDepth 20000 in
theorem ggX6_now_X4_partsIn : GoodIn wsX6_now wsX4_partsIn := goodIn_r _ [58, 59, 81, 82, 83, 84, 85, 86, 87] (by decide +kernel) (by decide +kernel)
set_option maxRecDepth 20000 in
theorem gX6_now_X4_partsIn : GoodIn wsX6_now (wsV RX6 99 RX4 yX4_partsIn wsX4_partsIn) := goodIn_app (goodIn_of _ (by decide +kernel)) ggX6_now_X4_partsIn
theorem dX6_now_0 : decode cX6_now 0 = .ok (.iload_n 1, 1) := by decide +kernel
theorem dX6_now_1 : decode cX6_now 1 = .ok (.tableswitch 117 0 6 #[43, 51, 59, 67, 72, 81, 86], 43) := by decide +kernel
theorem dX6_now_44 : decode cX6_now 44 = .ok (.aload_n 0, 1) := by decide +kernel
theorem dX6_now_45 : decode cX6_now 45 = .ok (.getfield 29, 3) := by decide +kernel
theorem dX6_now_48 : decode cX6_now 48 = .ok (.invokevirtual 156, 3) := by decide +kernel
theorem dX6_now_51 : decode cX6_now 51 = .ok (.ireturn, 1) := by decide +kernel
theorem dX6_now_52 : decode cX6_now 52 = .ok (.aload_n 0, 1) := by decide +kernel
theorem dX6_now_53 : decode cX6_now 53 = .ok (.getfield 29, 3) := by decide +kernel
theorem dX6_now_56 : decode cX6_now 56 = .ok (.invokevirtual 143, 3) := by decide +kernel
theorem dX6_now_59 : decode cX6_now 59 = .ok (.ireturn, 1) := by decide +kernel
theorem dX6_now_60 : decode cX6_now 60 = .ok (.aload_n 0, 1) := by decide +kernel
theorem dX6_now_61 : decode cX6_now 61 = .ok (.getfield 29, 3) := by decide +kernel
theorem dX6_now_64 : decode cX6_now 64 = .ok (.invokevirtual 103, 3) := by decide +kernel
theorem dX6_now_67 : decode cX6_now 67 = .ok (.ireturn, 1) := by decide +kernel
theorem dX6_now_68 : decode cX6_now 68 = .ok (.aload_n 0, 1) := by decide +kernel
theorem dX6_now_69 : decode cX6_now 69 = .ok (.invokevirtual 168, 3) := by decide +kernel
theorem dX6_now_72 : decode cX6_now 72 = .ok (.ireturn, 1) := by decide +kernel
theorem dX6_now_73 : decode cX6_now 73 = .ok (.aload_n 0, 1) := by decide +kernel
theorem dX6_now_74 : decode cX6_now 74 = .ok (.aload_n 0, 1) := by decide +kernel
theorem dX6_now_75 : decode cX6_now 75 = .ok (.invokevirtual 168, 3) := by decide +kernel
theorem dX6_now_78 : decode cX6_now 78 = .ok (.invokevirtual 182, 3) := by decide +kernel
theorem dX6_now_81 : decode cX6_now 81 = .ok (.ireturn, 1) := by decide +kernel
theorem dX6_now_82 : decode cX6_now 82 = .ok (.aload_n 0, 1) := by decide +kernel
theorem dX6_now_83 : decode cX6_now 83 = .ok (.invokevirtual 185, 3) := by decide +kernel
theorem dX6_now_86 : decode cX6_now 86 = .ok (.ireturn, 1) := by decide +kernel
theorem dX6_now_87 : decode cX6_now 87 = .ok (.aload_n 0, 1) := by decide +kernel
theorem dX6_now_88 : decode cX6_now 88 = .ok (.getfield 19, 3) := by decide +kernel
theorem dX6_now_91 : decode cX6_now 91 = .ok (.getfield 85, 3) := by decide +kernel
theorem dX6_now_94 : decode cX6_now 94 = .ok (.aload_n 0, 1) := by decide +kernel
theorem dX6_now_95 : decode cX6_now 95 = .ok (.getfield 19, 3) := by decide +kernel
theorem dX6_now_98 : decode cX6_now 98 = .ok (.getfield 85, 3) := by decide +kernel
theorem dX6_now_101 : decode cX6_now 101 = .ok (.getfield 188, 3) := by decide +kernel
theorem dX6_now_104 : decode cX6_now 104 = .ok (.aload_n 0, 1) := by decide +kernel
theorem dX6_now_105 : decode cX6_now 105 = .ok (.getfield 29, 3) := by decide +kernel
theorem dX6_now_108 : decode cX6_now 108 = .ok (.invokevirtual 103, 3) := by decide +kernel
theorem dX6_now_111 : decode cX6_now 111 = .ok (.iconst (-1), 1) := by decide +kernel
theorem dX6_now_112 : decode cX6_now 112 = .ok (.ixor, 1) := by decide +kernel
theorem dX6_now_113 : decode cX6_now 113 = .ok (.iand, 1) := by decide +kernel
theorem dX6_now_114 : decode cX6_now 114 = .ok (.invokevirtual 99, 3) := by decide +kernel
theorem dX6_now_117 : decode cX6_now 117 = .ok (.ireturn, 1) := by decide +kernel
theorem dX6_now_118 : decode cX6_now 118 = .ok (.iconst (-1), 1) := by decide +kernel
theorem dX6_now_119 : decode cX6_now 119 = .ok (.ireturn, 1) := by decide +kernel
set_option maxRecDepth 20000 in
theorem ggX6_lasts_X6_isThing : GoodIn wsX6_lasts wsX6_isThing := goodIn_r _ [5, 6, 7, 8, 4, 9, 52, 53, 54, 55, 56, 57, 58, 59, 60, 61, 62, 63, 64, 65, 66, 67, 68, 69, 70, 71, 72] (by decide +kernel) (by decide +kernel)
set_option maxRecDepth 20000 in
theorem gX6_lasts_X6_isThing : GoodIn wsX6_lasts (wsV RX6 114 RX6 yX6_isThing wsX6_isThing) := goodIn_app (goodIn_of _ (by decide +kernel)) ggX6_lasts_X6_isThing
set_option maxRecDepth 20000 in
theorem ggX6_lasts_X6_yearsCalled : GoodIn wsX6_lasts wsX6_yearsCalled := goodIn_r _ [13, 6, 14, 15, 16, 4, 17, 18, 19, 20, 21, 22, 23, 24, 25, 26, 27, 28, 29, 30, 31, 32, 33, 34, 35, 36, 37, 38, 39, 40, 41, 42, 43, 44, 45, 46, 47, 48, 49, 50, 51, 52, 53, 54, 55, 56, 57, 58, 59, 60, 61, 62, 63, 64, 65, 66, 67, 68, 69, 70, 71, 72, 73, 74] (by decide +kernel) (by decide +kernel)
set_option maxRecDepth 20000 in
theorem gX6_lasts_X6_yearsCalled : GoodIn wsX6_lasts (wsV RX6 191 RX6 yX6_yearsCalled wsX6_yearsCalled) := goodIn_app (goodIn_of _ (by decide +kernel)) ggX6_lasts_X6_yearsCalled
theorem dX6_lasts_0 : decode cX6_lasts 0 = .ok (.aload_n 0, 1) := by decide +kernel
theorem dX6_lasts_1 : decode cX6_lasts 1 = .ok (.iload_n 1, 1) := by decide +kernel
theorem dX6_lasts_2 : decode cX6_lasts 2 = .ok (.invokevirtual 114, 3) := by decide +kernel
theorem dX6_lasts_5 : decode cX6_lasts 5 = .ok (.ifCond .eq 11, 3) := by decide +kernel
theorem dX6_lasts_8 : decode cX6_lasts 8 = .ok (.aload_n 0, 1) := by decide +kernel
theorem dX6_lasts_9 : decode cX6_lasts 9 = .ok (.iload_n 1, 1) := by decide +kernel
theorem dX6_lasts_10 : decode cX6_lasts 10 = .ok (.invokevirtual 191, 3) := by decide +kernel
theorem dX6_lasts_13 : decode cX6_lasts 13 = .ok (.goto 4, 3) := by decide +kernel
theorem dX6_lasts_16 : decode cX6_lasts 16 = .ok (.iconst (-1), 1) := by decide +kernel
theorem dX6_lasts_17 : decode cX6_lasts 17 = .ok (.ireturn, 1) := by decide +kernel
set_option maxRecDepth 20000 in
theorem ggX6_first_X6_yearsCalled : GoodIn wsX6_first wsX6_yearsCalled := goodIn_r _ [6, 1, 7, 8, 9, 5, 10, 11, 12, 13, 14, 15, 16, 17, 18, 19, 20, 21, 22, 23, 24, 25, 26, 27, 28, 29, 30, 31, 32, 33, 34, 35, 36, 37, 38, 39, 40, 41, 42, 43, 44, 45, 46, 47, 48, 49, 50, 51, 52, 53, 54, 55, 56, 57, 58, 59, 60, 61, 62, 63, 64, 65, 66, 67] (by decide +kernel) (by decide +kernel)
set_option maxRecDepth 20000 in
theorem gX6_first_X6_yearsCalled : GoodIn wsX6_first (wsV RX6 191 RX6 yX6_yearsCalled wsX6_yearsCalled) := goodIn_app (goodIn_of _ (by decide +kernel)) ggX6_first_X6_yearsCalled
theorem dX6_first_0 : decode cX6_first 0 = .ok (.bipush (-9), 2) := by decide +kernel
theorem dX6_first_2 : decode cX6_first 2 = .ok (.istore_n 1, 1) := by decide +kernel
theorem dX6_first_3 : decode cX6_first 3 = .ok (.iconst 0, 1) := by decide +kernel
theorem dX6_first_4 : decode cX6_first 4 = .ok (.istore_n 2, 1) := by decide +kernel
theorem dX6_first_5 : decode cX6_first 5 = .ok (.iconst 0, 1) := by decide +kernel
theorem dX6_first_6 : decode cX6_first 6 = .ok (.istore_n 3, 1) := by decide +kernel
theorem dX6_first_7 : decode cX6_first 7 = .ok (.iload_n 3, 1) := by decide +kernel
theorem dX6_first_8 : decode cX6_first 8 = .ok (.aload_n 0, 1) := by decide +kernel
theorem dX6_first_9 : decode cX6_first 9 = .ok (.getfield 19, 3) := by decide +kernel
theorem dX6_first_12 : decode cX6_first 12 = .ok (.getfield 159, 3) := by decide +kernel
theorem dX6_first_15 : decode cX6_first 15 = .ok (.if_icmp .ge 38, 3) := by decide +kernel
theorem dX6_first_18 : decode cX6_first 18 = .ok (.aload_n 0, 1) := by decide +kernel
theorem dX6_first_19 : decode cX6_first 19 = .ok (.iload_n 3, 1) := by decide +kernel
theorem dX6_first_20 : decode cX6_first 20 = .ok (.invokevirtual 191, 3) := by decide +kernel
theorem dX6_first_23 : decode cX6_first 23 = .ok (.istore 4, 2) := by decide +kernel
theorem dX6_first_25 : decode cX6_first 25 = .ok (.iload 4, 2) := by decide +kernel
theorem dX6_first_27 : decode cX6_first 27 = .ok (.ifCond .le 20, 3) := by decide +kernel
theorem dX6_first_30 : decode cX6_first 30 = .ok (.iload_n 1, 1) := by decide +kernel
theorem dX6_first_31 : decode cX6_first 31 = .ok (.bipush (-9), 2) := by decide +kernel
theorem dX6_first_33 : decode cX6_first 33 = .ok (.if_icmp .eq 9, 3) := by decide +kernel
theorem dX6_first_36 : decode cX6_first 36 = .ok (.iload 4, 2) := by decide +kernel
theorem dX6_first_38 : decode cX6_first 38 = .ok (.iload_n 2, 1) := by decide +kernel
theorem dX6_first_39 : decode cX6_first 39 = .ok (.if_icmp .ge 8, 3) := by decide +kernel
theorem dX6_first_42 : decode cX6_first 42 = .ok (.iload_n 3, 1) := by decide +kernel
theorem dX6_first_43 : decode cX6_first 43 = .ok (.istore_n 1, 1) := by decide +kernel
theorem dX6_first_44 : decode cX6_first 44 = .ok (.iload 4, 2) := by decide +kernel
theorem dX6_first_46 : decode cX6_first 46 = .ok (.istore_n 2, 1) := by decide +kernel
theorem dX6_first_47 : decode cX6_first 47 = .ok (.iinc 3 1, 3) := by decide +kernel
theorem dX6_first_50 : decode cX6_first 50 = .ok (.goto (-43), 3) := by decide +kernel
theorem dX6_first_53 : decode cX6_first 53 = .ok (.iload_n 1, 1) := by decide +kernel
theorem dX6_first_54 : decode cX6_first 54 = .ok (.ireturn, 1) := by decide +kernel
set_option maxRecDepth 20000 in
theorem ggX6_needs_X6_isThing : GoodIn wsX6_needs wsX6_isThing := goodIn_r _ [5, 6, 7, 8, 4, 9, 36, 37, 38, 39, 40, 41, 42, 43, 44, 45, 46, 47, 48, 49, 50, 51, 52, 53, 54, 55, 56] (by decide +kernel) (by decide +kernel)
set_option maxRecDepth 20000 in
theorem gX6_needs_X6_isThing : GoodIn wsX6_needs (wsV RX6 114 RX6 yX6_isThing wsX6_isThing) := goodIn_app (goodIn_of _ (by decide +kernel)) ggX6_needs_X6_isThing
set_option maxRecDepth 20000 in
theorem ggX6_needs_X6_within : GoodIn wsX6_needs wsX6_within := goodIn_r _ [9] (by decide +kernel) (by decide +kernel)
set_option maxRecDepth 20000 in
theorem gX6_needs_X6_within : GoodIn wsX6_needs (va_wsS RX6 61 yX6_within wsX6_within) := goodIn_app (goodIn_of _ (by decide +kernel)) ggX6_needs_X6_within
set_option maxRecDepth 20000 in
theorem ggX6_needs_X6_paintFor : GoodIn wsX6_needs wsX6_paintFor := goodIn_r _ [13, 14, 6, 15, 16, 17, 18, 19, 20, 21, 4, 22, 23, 24, 25, 26, 27, 28, 29, 30, 31, 32, 33, 34, 35, 36, 37, 38, 39, 40, 41, 42, 43, 44, 45, 46, 47, 48, 49, 50, 51, 52, 53, 54, 55, 56, 57, 58] (by decide +kernel) (by decide +kernel)
set_option maxRecDepth 20000 in
theorem gX6_needs_X6_paintFor : GoodIn wsX6_needs (wsV RX6 194 RX6 yX6_paintFor wsX6_paintFor) := goodIn_app (goodIn_of _ (by decide +kernel)) ggX6_needs_X6_paintFor
theorem dX6_needs_0 : decode cX6_needs 0 = .ok (.aload_n 0, 1) := by decide +kernel
theorem dX6_needs_1 : decode cX6_needs 1 = .ok (.iload_n 1, 1) := by decide +kernel
theorem dX6_needs_2 : decode cX6_needs 2 = .ok (.invokevirtual 114, 3) := by decide +kernel
theorem dX6_needs_5 : decode cX6_needs 5 = .ok (.ifCond .eq 13, 3) := by decide +kernel
theorem dX6_needs_8 : decode cX6_needs 8 = .ok (.iload_n 2, 1) := by decide +kernel
theorem dX6_needs_9 : decode cX6_needs 9 = .ok (.iconst 0, 1) := by decide +kernel
theorem dX6_needs_10 : decode cX6_needs 10 = .ok (.bipush 99, 2) := by decide +kernel
theorem dX6_needs_12 : decode cX6_needs 12 = .ok (.invokestatic 61, 3) := by decide +kernel
theorem dX6_needs_15 : decode cX6_needs 15 = .ok (.ifCond .ne 5, 3) := by decide +kernel
theorem dX6_needs_18 : decode cX6_needs 18 = .ok (.iconst (-1), 1) := by decide +kernel
theorem dX6_needs_19 : decode cX6_needs 19 = .ok (.ireturn, 1) := by decide +kernel
theorem dX6_needs_20 : decode cX6_needs 20 = .ok (.aload_n 0, 1) := by decide +kernel
theorem dX6_needs_21 : decode cX6_needs 21 = .ok (.iload_n 1, 1) := by decide +kernel
theorem dX6_needs_22 : decode cX6_needs 22 = .ok (.iload_n 2, 1) := by decide +kernel
theorem dX6_needs_23 : decode cX6_needs 23 = .ok (.invokevirtual 194, 3) := by decide +kernel
theorem dX6_needs_26 : decode cX6_needs 26 = .ok (.ireturn, 1) := by decide +kernel
set_option maxRecDepth 20000 in
theorem ggX6_kept_X6_within : GoodIn wsX6_kept wsX6_within := goodIn_r _ [4] (by decide +kernel) (by decide +kernel)
set_option maxRecDepth 20000 in
theorem gX6_kept_X6_within : GoodIn wsX6_kept (va_wsS RX6 61 yX6_within wsX6_within) := goodIn_app (goodIn_of _ (by decide +kernel)) ggX6_kept_X6_within
set_option maxRecDepth 20000 in
theorem ggX6_kept_X6_bestKept : GoodIn wsX6_kept wsX6_bestKept := goodIn_r _ [8, 9, 10, 11, 12, 3, 13, 14, 15, 16, 17, 18, 19, 20, 21, 22, 23, 24, 25, 26, 27, 28, 29, 30, 31, 32, 33, 34, 35, 36, 37, 38, 39, 40, 41, 42, 43, 44, 45, 46, 47, 48, 49, 50, 51, 52, 53, 54, 55, 56, 57, 58, 59, 60, 61, 62, 63, 64, 65, 66, 67, 68, 69, 70, 71, 72, 73, 74, 75, 76, 77, 78] (by decide +kernel) (by decide +kernel)
set_option maxRecDepth 20000 in
theorem gX6_kept_X6_bestKept : GoodIn wsX6_kept (wsV RX6 197 RX6 yX6_bestKept wsX6_bestKept) := goodIn_app (goodIn_of _ (by decide +kernel)) ggX6_kept_X6_bestKept
set_option maxRecDepth 20000 in
theorem ggX6_kept_X6_worthOf : GoodIn wsX6_kept wsX6_worthOf := goodIn_r _ [13, 9, 56, 57, 58, 59, 60, 61, 62, 63, 64, 65, 66, 67, 68, 69, 70, 71, 72, 73, 74, 75, 76] (by decide +kernel) (by decide +kernel)
set_option maxRecDepth 20000 in
theorem gX6_kept_X6_worthOf : GoodIn wsX6_kept (wsV RX6 182 RX6 yX6_worthOf wsX6_worthOf) := goodIn_app (goodIn_of _ (by decide +kernel)) ggX6_kept_X6_worthOf
set_option maxRecDepth 20000 in
theorem ggX6_kept_X6_leftOver : GoodIn wsX6_kept wsX6_leftOver := goodIn_r _ [47, 22, 9, 48, 49, 50, 34, 51, 36, 52, 53, 54, 3, 55, 40, 41, 42, 43, 18, 19, 20, 21, 23, 24, 25, 26, 27, 28, 29, 30, 31, 32, 33, 35, 37, 38, 39, 56, 57, 58, 59, 60, 61, 62, 63, 64, 65, 66, 67, 68, 69, 70, 71, 72, 73, 74, 75, 76, 77, 78] (by decide +kernel) (by decide +kernel)
set_option maxRecDepth 20000 in
theorem gX6_kept_X6_leftOver : GoodIn wsX6_kept (wsV RX6 200 RX6 yX6_leftOver wsX6_leftOver) := goodIn_app (goodIn_of _ (by decide +kernel)) ggX6_kept_X6_leftOver
theorem dX6_kept_0 : decode cX6_kept 0 = .ok (.iload_n 1, 1) := by decide +kernel
theorem dX6_kept_1 : decode cX6_kept 1 = .ok (.iconst 0, 1) := by decide +kernel
theorem dX6_kept_2 : decode cX6_kept 2 = .ok (.bipush 99, 2) := by decide +kernel
theorem dX6_kept_4 : decode cX6_kept 4 = .ok (.invokestatic 61, 3) := by decide +kernel
theorem dX6_kept_7 : decode cX6_kept 7 = .ok (.ifCond .eq 12, 3) := by decide +kernel
theorem dX6_kept_10 : decode cX6_kept 10 = .ok (.iload_n 2, 1) := by decide +kernel
theorem dX6_kept_11 : decode cX6_kept 11 = .ok (.iconst 0, 1) := by decide +kernel
theorem dX6_kept_12 : decode cX6_kept 12 = .ok (.iconst 2, 1) := by decide +kernel
theorem dX6_kept_13 : decode cX6_kept 13 = .ok (.invokestatic 61, 3) := by decide +kernel
theorem dX6_kept_16 : decode cX6_kept 16 = .ok (.ifCond .ne 5, 3) := by decide +kernel
theorem dX6_kept_19 : decode cX6_kept 19 = .ok (.iconst (-1), 1) := by decide +kernel
theorem dX6_kept_20 : decode cX6_kept 20 = .ok (.ireturn, 1) := by decide +kernel
theorem dX6_kept_21 : decode cX6_kept 21 = .ok (.aload_n 0, 1) := by decide +kernel
theorem dX6_kept_22 : decode cX6_kept 22 = .ok (.iload_n 1, 1) := by decide +kernel
theorem dX6_kept_23 : decode cX6_kept 23 = .ok (.invokevirtual 197, 3) := by decide +kernel
theorem dX6_kept_26 : decode cX6_kept 26 = .ok (.istore_n 3, 1) := by decide +kernel
theorem dX6_kept_27 : decode cX6_kept 27 = .ok (.iload_n 2, 1) := by decide +kernel
theorem dX6_kept_28 : decode cX6_kept 28 = .ok (.lookupswitch 36 #[(0, 28), (1, 30)], 28) := by decide +kernel
theorem dX6_kept_56 : decode cX6_kept 56 = .ok (.iload_n 3, 1) := by decide +kernel
theorem dX6_kept_57 : decode cX6_kept 57 = .ok (.ireturn, 1) := by decide +kernel
theorem dX6_kept_58 : decode cX6_kept 58 = .ok (.aload_n 0, 1) := by decide +kernel
theorem dX6_kept_59 : decode cX6_kept 59 = .ok (.iload_n 3, 1) := by decide +kernel
theorem dX6_kept_60 : decode cX6_kept 60 = .ok (.invokevirtual 182, 3) := by decide +kernel
theorem dX6_kept_63 : decode cX6_kept 63 = .ok (.ireturn, 1) := by decide +kernel
theorem dX6_kept_64 : decode cX6_kept 64 = .ok (.aload_n 0, 1) := by decide +kernel
theorem dX6_kept_65 : decode cX6_kept 65 = .ok (.iload_n 3, 1) := by decide +kernel
theorem dX6_kept_66 : decode cX6_kept 66 = .ok (.iload_n 1, 1) := by decide +kernel
theorem dX6_kept_67 : decode cX6_kept 67 = .ok (.invokevirtual 200, 3) := by decide +kernel
theorem dX6_kept_70 : decode cX6_kept 70 = .ok (.ireturn, 1) := by decide +kernel
set_option maxRecDepth 20000 in
theorem ggX6_bestDig_X6_within : GoodIn wsX6_bestDig wsX6_within := goodIn_r _ [7] (by decide +kernel) (by decide +kernel)
set_option maxRecDepth 20000 in
theorem gX6_bestDig_X6_within : GoodIn wsX6_bestDig (va_wsS RX6 61 yX6_within wsX6_within) := goodIn_app (goodIn_of _ (by decide +kernel)) ggX6_bestDig_X6_within
set_option maxRecDepth 20000 in
theorem ggX6_bestDig_X2_dug : GoodIn wsX6_bestDig wsX2_dug := goodIn_r _ [12, 13, 87, 88] (by decide +kernel) (by decide +kernel)
set_option maxRecDepth 20000 in
theorem gX6_bestDig_X2_dug : GoodIn wsX6_bestDig (wsV RX6 103 RX2 yX2_dug wsX2_dug) := goodIn_app (goodIn_of _ (by decide +kernel)) ggX6_bestDig_X2_dug
set_option maxRecDepth 20000 in
theorem ggX6_bestDig_X0_lookFrom : GoodIn wsX6_bestDig wsX0_lookFrom := goodIn_r _ [18, 19, 20, 21, 22, 23, 24, 25, 26, 17, 27, 28, 29, 30, 31, 32, 33, 34, 35, 36, 37, 38, 39, 40, 41, 42, 43, 44, 45, 46, 47, 48, 49, 50, 51, 52, 53, 54, 55, 56, 82, 83, 84, 85, 86, 89, 90, 91, 92, 93, 94, 95] (by decide +kernel) (by decide +kernel)
set_option maxRecDepth 20000 in
theorem gX6_bestDig_X0_lookFrom : GoodIn wsX6_bestDig (wsV RX6 203 RX0 yX0_lookFrom wsX0_lookFrom) := goodIn_app (goodIn_of _ (by decide +kernel)) ggX6_bestDig_X0_lookFrom
set_option maxRecDepth 20000 in
theorem ggX6_bestDig_X0_bestSize : GoodIn wsX6_bestDig wsX0_bestSize := goodIn_r _ [60, 23, 82, 83, 84, 85, 86] (by decide +kernel) (by decide +kernel)
set_option maxRecDepth 20000 in
theorem gX6_bestDig_X0_bestSize : GoodIn wsX6_bestDig (wsV RX6 207 RX0 yX0_bestSize wsX0_bestSize) := goodIn_app (goodIn_of _ (by decide +kernel)) ggX6_bestDig_X0_bestSize
theorem dX6_bestDig_0 : decode cX6_bestDig 0 = .ok (.iload_n 1, 1) := by decide +kernel
theorem dX6_bestDig_1 : decode cX6_bestDig 1 = .ok (.iconst 0, 1) := by decide +kernel
theorem dX6_bestDig_2 : decode cX6_bestDig 2 = .ok (.bipush 16, 2) := by decide +kernel
theorem dX6_bestDig_4 : decode cX6_bestDig 4 = .ok (.invokestatic 61, 3) := by decide +kernel
theorem dX6_bestDig_7 : decode cX6_bestDig 7 = .ok (.ifCond .eq 12, 3) := by decide +kernel
theorem dX6_bestDig_10 : decode cX6_bestDig 10 = .ok (.iload_n 2, 1) := by decide +kernel
theorem dX6_bestDig_11 : decode cX6_bestDig 11 = .ok (.iconst 0, 1) := by decide +kernel
theorem dX6_bestDig_12 : decode cX6_bestDig 12 = .ok (.iconst 1, 1) := by decide +kernel
theorem dX6_bestDig_13 : decode cX6_bestDig 13 = .ok (.invokestatic 61, 3) := by decide +kernel
theorem dX6_bestDig_16 : decode cX6_bestDig 16 = .ok (.ifCond .ne 5, 3) := by decide +kernel
theorem dX6_bestDig_19 : decode cX6_bestDig 19 = .ok (.iconst (-1), 1) := by decide +kernel
theorem dX6_bestDig_20 : decode cX6_bestDig 20 = .ok (.ireturn, 1) := by decide +kernel
theorem dX6_bestDig_21 : decode cX6_bestDig 21 = .ok (.aload_n 0, 1) := by decide +kernel
theorem dX6_bestDig_22 : decode cX6_bestDig 22 = .ok (.getfield 46, 3) := by decide +kernel
theorem dX6_bestDig_25 : decode cX6_bestDig 25 = .ok (.aload_n 0, 1) := by decide +kernel
theorem dX6_bestDig_26 : decode cX6_bestDig 26 = .ok (.getfield 19, 3) := by decide +kernel
theorem dX6_bestDig_29 : decode cX6_bestDig 29 = .ok (.getfield 85, 3) := by decide +kernel
theorem dX6_bestDig_32 : decode cX6_bestDig 32 = .ok (.aload_n 0, 1) := by decide +kernel
theorem dX6_bestDig_33 : decode cX6_bestDig 33 = .ok (.getfield 29, 3) := by decide +kernel
theorem dX6_bestDig_36 : decode cX6_bestDig 36 = .ok (.invokevirtual 103, 3) := by decide +kernel
theorem dX6_bestDig_39 : decode cX6_bestDig 39 = .ok (.invokevirtual 203, 3) := by decide +kernel
theorem dX6_bestDig_42 : decode cX6_bestDig 42 = .ok (.aload_n 0, 1) := by decide +kernel
theorem dX6_bestDig_43 : decode cX6_bestDig 43 = .ok (.getfield 46, 3) := by decide +kernel
theorem dX6_bestDig_46 : decode cX6_bestDig 46 = .ok (.iload_n 1, 1) := by decide +kernel
theorem dX6_bestDig_47 : decode cX6_bestDig 47 = .ok (.invokevirtual 207, 3) := by decide +kernel
theorem dX6_bestDig_50 : decode cX6_bestDig 50 = .ok (.istore_n 3, 1) := by decide +kernel
theorem dX6_bestDig_51 : decode cX6_bestDig 51 = .ok (.iload_n 2, 1) := by decide +kernel
theorem dX6_bestDig_52 : decode cX6_bestDig 52 = .ok (.ifCond .ne 15, 3) := by decide +kernel
theorem dX6_bestDig_55 : decode cX6_bestDig 55 = .ok (.aload_n 0, 1) := by decide +kernel
theorem dX6_bestDig_56 : decode cX6_bestDig 56 = .ok (.getfield 46, 3) := by decide +kernel
theorem dX6_bestDig_59 : decode cX6_bestDig 59 = .ok (.getfield 210, 3) := by decide +kernel
theorem dX6_bestDig_62 : decode cX6_bestDig 62 = .ok (.iload_n 3, 1) := by decide +kernel
theorem dX6_bestDig_63 : decode cX6_bestDig 63 = .ok (.iaload, 1) := by decide +kernel
theorem dX6_bestDig_64 : decode cX6_bestDig 64 = .ok (.goto 12, 3) := by decide +kernel
theorem dX6_bestDig_67 : decode cX6_bestDig 67 = .ok (.aload_n 0, 1) := by decide +kernel
theorem dX6_bestDig_68 : decode cX6_bestDig 68 = .ok (.getfield 46, 3) := by decide +kernel
theorem dX6_bestDig_71 : decode cX6_bestDig 71 = .ok (.getfield 213, 3) := by decide +kernel
theorem dX6_bestDig_74 : decode cX6_bestDig 74 = .ok (.iload_n 3, 1) := by decide +kernel
theorem dX6_bestDig_75 : decode cX6_bestDig 75 = .ok (.iaload, 1) := by decide +kernel
theorem dX6_bestDig_76 : decode cX6_bestDig 76 = .ok (.ireturn, 1) := by decide +kernel
set_option maxRecDepth 20000 in
theorem ggX6_far_X6_isThing : GoodIn wsX6_far wsX6_isThing := goodIn_r _ [11, 2, 12, 13, 10, 14, 43, 44, 45, 46, 47, 48, 49, 50, 51, 52, 53, 54, 55, 56, 57, 58, 59, 60, 61, 62, 63] (by decide +kernel) (by decide +kernel)
set_option maxRecDepth 20000 in
theorem gX6_far_X6_isThing : GoodIn wsX6_far (wsV RX6 114 RX6 yX6_isThing wsX6_isThing) := goodIn_app (goodIn_of _ (by decide +kernel)) ggX6_far_X6_isThing
set_option maxRecDepth 20000 in
theorem ggX6_far_X6_calledAfter : GoodIn wsX6_far wsX6_calledAfter := goodIn_r _ [18, 1, 19, 20, 21, 10, 22, 2, 23, 24, 5, 25, 26, 27, 28, 29, 30, 31, 32, 33, 34, 35, 36, 37, 38, 39, 43, 44, 45, 46, 47, 48, 49, 50, 51, 52, 53, 54, 55, 56, 57, 58, 59, 60, 61, 62, 63, 64, 65] (by decide +kernel) (by decide +kernel)
set_option maxRecDepth 20000 in
theorem gX6_far_X6_calledAfter : GoodIn wsX6_far (wsV RX6 130 RX6 yX6_calledAfter wsX6_calledAfter) := goodIn_app (goodIn_of _ (by decide +kernel)) ggX6_far_X6_calledAfter
set_option maxRecDepth 20000 in
theorem ggX6_far_X2_yellow : GoodIn wsX6_far wsX2_yellow := goodIn_r _ [30, 31, 64, 65] (by decide +kernel) (by decide +kernel)
set_option maxRecDepth 20000 in
theorem gX6_far_X2_yellow : GoodIn wsX6_far (wsV RX6 117 RX2 yX2_yellow wsX2_yellow) := goodIn_app (goodIn_of _ (by decide +kernel)) ggX6_far_X2_yellow
set_option maxRecDepth 20000 in
theorem ggX6_far_X6_quotient : GoodIn wsX6_far wsX6_quotient := goodIn_r _ [42] (by decide +kernel) (by decide +kernel)
set_option maxRecDepth 20000 in
theorem gX6_far_X6_quotient : GoodIn wsX6_far (va_wsS RX6 219 yX6_quotient wsX6_quotient) := goodIn_app (goodIn_of _ (by decide +kernel)) ggX6_far_X6_quotient
set_option maxRecDepth 20000 in
theorem ggX6_far_X2_white : GoodIn wsX6_far wsX2_white := goodIn_r _ [35, 31, 64, 65] (by decide +kernel) (by decide +kernel)
set_option maxRecDepth 20000 in
theorem gX6_far_X2_white : GoodIn wsX6_far (wsV RX6 120 RX2 yX2_white wsX2_white) := goodIn_app (goodIn_of _ (by decide +kernel)) ggX6_far_X2_white
theorem dX6_far_0 : decode cX6_far 0 = .ok (.aload_n 0, 1) := by decide +kernel
theorem dX6_far_1 : decode cX6_far 1 = .ok (.iload_n 1, 1) := by decide +kernel
theorem dX6_far_2 : decode cX6_far 2 = .ok (.invokevirtual 114, 3) := by decide +kernel
theorem dX6_far_5 : decode cX6_far 5 = .ok (.ifCond .ne 5, 3) := by decide +kernel
theorem dX6_far_8 : decode cX6_far 8 = .ok (.iconst (-1), 1) := by decide +kernel
theorem dX6_far_9 : decode cX6_far 9 = .ok (.ireturn, 1) := by decide +kernel
theorem dX6_far_10 : decode cX6_far 10 = .ok (.aload_n 0, 1) := by decide +kernel
theorem dX6_far_11 : decode cX6_far 11 = .ok (.iload_n 1, 1) := by decide +kernel
theorem dX6_far_12 : decode cX6_far 12 = .ok (.iconst 0, 1) := by decide +kernel
theorem dX6_far_13 : decode cX6_far 13 = .ok (.invokevirtual 130, 3) := by decide +kernel
theorem dX6_far_16 : decode cX6_far 16 = .ok (.ifCond .ne 6, 3) := by decide +kernel
theorem dX6_far_19 : decode cX6_far 19 = .ok (.bipush (-5), 2) := by decide +kernel
theorem dX6_far_21 : decode cX6_far 21 = .ok (.ireturn, 1) := by decide +kernel
theorem dX6_far_22 : decode cX6_far 22 = .ok (.aload_n 0, 1) := by decide +kernel
theorem dX6_far_23 : decode cX6_far 23 = .ok (.getfield 29, 3) := by decide +kernel
theorem dX6_far_26 : decode cX6_far 26 = .ok (.iload_n 1, 1) := by decide +kernel
theorem dX6_far_27 : decode cX6_far 27 = .ok (.invokevirtual 117, 3) := by decide +kernel
theorem dX6_far_30 : decode cX6_far 30 = .ok (.istore_n 2, 1) := by decide +kernel
theorem dX6_far_31 : decode cX6_far 31 = .ok (.bipush 10, 2) := by decide +kernel
theorem dX6_far_33 : decode cX6_far 33 = .ok (.iload_n 2, 1) := by decide +kernel
theorem dX6_far_34 : decode cX6_far 34 = .ok (.imul, 1) := by decide +kernel
theorem dX6_far_35 : decode cX6_far 35 = .ok (.aload_n 0, 1) := by decide +kernel
theorem dX6_far_36 : decode cX6_far 36 = .ok (.getfield 19, 3) := by decide +kernel
theorem dX6_far_39 : decode cX6_far 39 = .ok (.getfield 216, 3) := by decide +kernel
theorem dX6_far_42 : decode cX6_far 42 = .ok (.invokestatic 219, 3) := by decide +kernel
theorem dX6_far_45 : decode cX6_far 45 = .ok (.iload_n 2, 1) := by decide +kernel
theorem dX6_far_46 : decode cX6_far 46 = .ok (.isub, 1) := by decide +kernel
theorem dX6_far_47 : decode cX6_far 47 = .ok (.istore_n 3, 1) := by decide +kernel
theorem dX6_far_48 : decode cX6_far 48 = .ok (.iload_n 3, 1) := by decide +kernel
theorem dX6_far_49 : decode cX6_far 49 = .ok (.sipush 999, 3) := by decide +kernel
theorem dX6_far_52 : decode cX6_far 52 = .ok (.invokestatic 222, 3) := by decide +kernel
theorem dX6_far_55 : decode cX6_far 55 = .ok (.aload_n 0, 1) := by decide +kernel
theorem dX6_far_56 : decode cX6_far 56 = .ok (.getfield 29, 3) := by decide +kernel
theorem dX6_far_59 : decode cX6_far 59 = .ok (.iload_n 1, 1) := by decide +kernel
theorem dX6_far_60 : decode cX6_far 60 = .ok (.invokevirtual 120, 3) := by decide +kernel
theorem dX6_far_63 : decode cX6_far 63 = .ok (.isub, 1) := by decide +kernel
theorem dX6_far_64 : decode cX6_far 64 = .ok (.ireturn, 1) := by decide +kernel
set_option maxRecDepth 20000 in
theorem ggX6_sell_X6_isThing : GoodIn wsX6_sell wsX6_isThing := goodIn_r _ [5, 6, 7, 8, 4, 9, 44, 45, 46, 47, 48, 49, 50, 51, 52, 53, 54, 55, 56, 57, 58, 59, 60, 61, 62, 63, 64] (by decide +kernel) (by decide +kernel)
set_option maxRecDepth 20000 in
theorem gX6_sell_X6_isThing : GoodIn wsX6_sell (wsV RX6 114 RX6 yX6_isThing wsX6_isThing) := goodIn_app (goodIn_of _ (by decide +kernel)) ggX6_sell_X6_isThing
set_option maxRecDepth 20000 in
theorem ggX6_sell_X6_within : GoodIn wsX6_sell wsX6_within := goodIn_r _ [9] (by decide +kernel) (by decide +kernel)
set_option maxRecDepth 20000 in
theorem gX6_sell_X6_within : GoodIn wsX6_sell (va_wsS RX6 61 yX6_within wsX6_within) := goodIn_app (goodIn_of _ (by decide +kernel)) ggX6_sell_X6_within
set_option maxRecDepth 20000 in
theorem ggX6_sell_X6_priceAfter : GoodIn wsX6_sell wsX6_priceAfter := goodIn_r _ [13, 6, 14, 15, 16, 4, 17, 18, 19, 20, 21, 22, 23, 24, 25, 26, 27, 28, 29, 30, 31, 32, 33, 34, 35, 36, 37, 38, 39, 40, 41, 42, 43, 44, 45, 46, 47, 48, 49, 50, 51, 52, 53, 54, 55, 56, 57, 58, 59, 60, 61, 62, 63, 64, 65, 66] (by decide +kernel) (by decide +kernel)
set_option maxRecDepth 20000 in
theorem gX6_sell_X6_priceAfter : GoodIn wsX6_sell (wsV RX6 227 RX6 yX6_priceAfter wsX6_priceAfter) := goodIn_app (goodIn_of _ (by decide +kernel)) ggX6_sell_X6_priceAfter
theorem dX6_sell_0 : decode cX6_sell 0 = .ok (.aload_n 0, 1) := by decide +kernel
theorem dX6_sell_1 : decode cX6_sell 1 = .ok (.iload_n 1, 1) := by decide +kernel
theorem dX6_sell_2 : decode cX6_sell 2 = .ok (.invokevirtual 114, 3) := by decide +kernel
theorem dX6_sell_5 : decode cX6_sell 5 = .ok (.ifCond .eq 22, 3) := by decide +kernel
theorem dX6_sell_8 : decode cX6_sell 8 = .ok (.iload_n 2, 1) := by decide +kernel
theorem dX6_sell_9 : decode cX6_sell 9 = .ok (.iconst 0, 1) := by decide +kernel
theorem dX6_sell_10 : decode cX6_sell 10 = .ok (.bipush 60, 2) := by decide +kernel
theorem dX6_sell_12 : decode cX6_sell 12 = .ok (.invokestatic 61, 3) := by decide +kernel
theorem dX6_sell_15 : decode cX6_sell 15 = .ok (.ifCond .eq 12, 3) := by decide +kernel
theorem dX6_sell_18 : decode cX6_sell 18 = .ok (.iload_n 3, 1) := by decide +kernel
theorem dX6_sell_19 : decode cX6_sell 19 = .ok (.iconst 0, 1) := by decide +kernel
theorem dX6_sell_20 : decode cX6_sell 20 = .ok (.iconst 1, 1) := by decide +kernel
theorem dX6_sell_21 : decode cX6_sell 21 = .ok (.invokestatic 61, 3) := by decide +kernel
theorem dX6_sell_24 : decode cX6_sell 24 = .ok (.ifCond .ne 5, 3) := by decide +kernel
theorem dX6_sell_27 : decode cX6_sell 27 = .ok (.iconst (-1), 1) := by decide +kernel
theorem dX6_sell_28 : decode cX6_sell 28 = .ok (.ireturn, 1) := by decide +kernel
theorem dX6_sell_29 : decode cX6_sell 29 = .ok (.iconst 0, 1) := by decide +kernel
theorem dX6_sell_30 : decode cX6_sell 30 = .ok (.istore 4, 2) := by decide +kernel
theorem dX6_sell_32 : decode cX6_sell 32 = .ok (.aload_n 0, 1) := by decide +kernel
theorem dX6_sell_33 : decode cX6_sell 33 = .ok (.iload_n 1, 1) := by decide +kernel
theorem dX6_sell_34 : decode cX6_sell 34 = .ok (.iconst 0, 1) := by decide +kernel
theorem dX6_sell_35 : decode cX6_sell 35 = .ok (.invokevirtual 227, 3) := by decide +kernel
theorem dX6_sell_38 : decode cX6_sell 38 = .ok (.istore 5, 2) := by decide +kernel
theorem dX6_sell_40 : decode cX6_sell 40 = .ok (.iconst 1, 1) := by decide +kernel
theorem dX6_sell_41 : decode cX6_sell 41 = .ok (.istore 6, 2) := by decide +kernel
theorem dX6_sell_43 : decode cX6_sell 43 = .ok (.iload 6, 2) := by decide +kernel
theorem dX6_sell_45 : decode cX6_sell 45 = .ok (.iload_n 2, 1) := by decide +kernel
theorem dX6_sell_46 : decode cX6_sell 46 = .ok (.if_icmp .gt 33, 3) := by decide +kernel
theorem dX6_sell_49 : decode cX6_sell 49 = .ok (.aload_n 0, 1) := by decide +kernel
theorem dX6_sell_50 : decode cX6_sell 50 = .ok (.iload_n 1, 1) := by decide +kernel
theorem dX6_sell_51 : decode cX6_sell 51 = .ok (.iload 6, 2) := by decide +kernel
theorem dX6_sell_53 : decode cX6_sell 53 = .ok (.invokevirtual 227, 3) := by decide +kernel
theorem dX6_sell_56 : decode cX6_sell 56 = .ok (.istore 7, 2) := by decide +kernel
theorem dX6_sell_58 : decode cX6_sell 58 = .ok (.iload 7, 2) := by decide +kernel
theorem dX6_sell_60 : decode cX6_sell 60 = .ok (.iload 5, 2) := by decide +kernel
theorem dX6_sell_62 : decode cX6_sell 62 = .ok (.if_icmp .le 11, 3) := by decide +kernel
theorem dX6_sell_65 : decode cX6_sell 65 = .ok (.iload 6, 2) := by decide +kernel
theorem dX6_sell_67 : decode cX6_sell 67 = .ok (.istore 4, 2) := by decide +kernel
theorem dX6_sell_69 : decode cX6_sell 69 = .ok (.iload 7, 2) := by decide +kernel
theorem dX6_sell_71 : decode cX6_sell 71 = .ok (.istore 5, 2) := by decide +kernel
theorem dX6_sell_73 : decode cX6_sell 73 = .ok (.iinc 6 1, 3) := by decide +kernel
theorem dX6_sell_76 : decode cX6_sell 76 = .ok (.goto (-33), 3) := by decide +kernel
theorem dX6_sell_79 : decode cX6_sell 79 = .ok (.iload_n 3, 1) := by decide +kernel
theorem dX6_sell_80 : decode cX6_sell 80 = .ok (.ifCond .ne 8, 3) := by decide +kernel
theorem dX6_sell_83 : decode cX6_sell 83 = .ok (.iload 4, 2) := by decide +kernel
theorem dX6_sell_85 : decode cX6_sell 85 = .ok (.goto 5, 3) := by decide +kernel
theorem dX6_sell_88 : decode cX6_sell 88 = .ok (.iload 5, 2) := by decide +kernel
theorem dX6_sell_90 : decode cX6_sell 90 = .ok (.ireturn, 1) := by decide +kernel
set_option maxRecDepth 20000 in
theorem ggX6_spare_X6_isThing : GoodIn wsX6_spare wsX6_isThing := goodIn_r _ [5, 6, 7, 8, 4, 9, 48, 49, 50, 51, 52, 53, 54, 55, 56, 57, 58, 59, 60, 61, 62, 63, 64, 65, 66, 67, 68] (by decide +kernel) (by decide +kernel)
set_option maxRecDepth 20000 in
theorem gX6_spare_X6_isThing : GoodIn wsX6_spare (wsV RX6 114 RX6 yX6_isThing wsX6_isThing) := goodIn_app (goodIn_of _ (by decide +kernel)) ggX6_spare_X6_isThing
set_option maxRecDepth 20000 in
theorem ggX6_spare_X6_canSpare : GoodIn wsX6_spare wsX6_canSpare := goodIn_r _ [13, 14, 15, 16, 17, 4, 18, 19, 20, 21, 22, 6, 23, 24, 25, 26, 27, 28, 29, 30, 31, 32, 33, 34, 35, 36, 37, 38, 39, 40, 41, 42, 43, 44, 45, 46, 47, 48, 49, 50, 51, 52, 53, 54, 55, 56, 57, 58, 59, 60, 61, 62, 63, 64, 65, 66, 67, 68, 69, 70] (by decide +kernel) (by decide +kernel)
set_option maxRecDepth 20000 in
theorem gX6_spare_X6_canSpare : GoodIn wsX6_spare (wsV RX6 230 RX6 yX6_canSpare wsX6_canSpare) := goodIn_app (goodIn_of _ (by decide +kernel)) ggX6_spare_X6_canSpare
theorem dX6_spare_0 : decode cX6_spare 0 = .ok (.aload_n 0, 1) := by decide +kernel
theorem dX6_spare_1 : decode cX6_spare 1 = .ok (.iload_n 1, 1) := by decide +kernel
theorem dX6_spare_2 : decode cX6_spare 2 = .ok (.invokevirtual 114, 3) := by decide +kernel
theorem dX6_spare_5 : decode cX6_spare 5 = .ok (.ifCond .eq 11, 3) := by decide +kernel
theorem dX6_spare_8 : decode cX6_spare 8 = .ok (.aload_n 0, 1) := by decide +kernel
theorem dX6_spare_9 : decode cX6_spare 9 = .ok (.iload_n 1, 1) := by decide +kernel
theorem dX6_spare_10 : decode cX6_spare 10 = .ok (.invokevirtual 230, 3) := by decide +kernel
theorem dX6_spare_13 : decode cX6_spare 13 = .ok (.goto 4, 3) := by decide +kernel
theorem dX6_spare_16 : decode cX6_spare 16 = .ok (.iconst (-1), 1) := by decide +kernel
theorem dX6_spare_17 : decode cX6_spare 17 = .ok (.ireturn, 1) := by decide +kernel
set_option maxRecDepth 20000 in
theorem ggX6_rich_X6_canSpare : GoodIn wsX6_rich wsX6_canSpare := goodIn_r _ [6, 7, 8, 9, 10, 5, 11, 12, 13, 14, 15, 1, 16, 17, 18, 19, 20, 21, 22, 23, 24, 25, 26, 27, 28, 29, 30, 31, 32, 33, 34, 35, 36, 37, 38, 39, 40, 41, 42, 43, 44, 45, 46, 47, 48, 49, 50, 51, 52, 53, 54, 55, 56, 57, 58, 59, 60, 61, 62, 63] (by decide +kernel) (by decide +kernel)
set_option maxRecDepth 20000 in
theorem gX6_rich_X6_canSpare : GoodIn wsX6_rich (wsV RX6 230 RX6 yX6_canSpare wsX6_canSpare) := goodIn_app (goodIn_of _ (by decide +kernel)) ggX6_rich_X6_canSpare
theorem dX6_rich_0 : decode cX6_rich 0 = .ok (.bipush (-9), 2) := by decide +kernel
theorem dX6_rich_2 : decode cX6_rich 2 = .ok (.istore_n 1, 1) := by decide +kernel
theorem dX6_rich_3 : decode cX6_rich 3 = .ok (.iconst 0, 1) := by decide +kernel
theorem dX6_rich_4 : decode cX6_rich 4 = .ok (.istore_n 2, 1) := by decide +kernel
theorem dX6_rich_5 : decode cX6_rich 5 = .ok (.iconst 0, 1) := by decide +kernel
theorem dX6_rich_6 : decode cX6_rich 6 = .ok (.istore_n 3, 1) := by decide +kernel
theorem dX6_rich_7 : decode cX6_rich 7 = .ok (.iload_n 3, 1) := by decide +kernel
theorem dX6_rich_8 : decode cX6_rich 8 = .ok (.aload_n 0, 1) := by decide +kernel
theorem dX6_rich_9 : decode cX6_rich 9 = .ok (.getfield 19, 3) := by decide +kernel
theorem dX6_rich_12 : decode cX6_rich 12 = .ok (.getfield 159, 3) := by decide +kernel
theorem dX6_rich_15 : decode cX6_rich 15 = .ok (.if_icmp .ge 26, 3) := by decide +kernel
theorem dX6_rich_18 : decode cX6_rich 18 = .ok (.aload_n 0, 1) := by decide +kernel
theorem dX6_rich_19 : decode cX6_rich 19 = .ok (.iload_n 3, 1) := by decide +kernel
theorem dX6_rich_20 : decode cX6_rich 20 = .ok (.invokevirtual 230, 3) := by decide +kernel
theorem dX6_rich_23 : decode cX6_rich 23 = .ok (.iload_n 2, 1) := by decide +kernel
theorem dX6_rich_24 : decode cX6_rich 24 = .ok (.if_icmp .le 11, 3) := by decide +kernel
theorem dX6_rich_27 : decode cX6_rich 27 = .ok (.iload_n 3, 1) := by decide +kernel
theorem dX6_rich_28 : decode cX6_rich 28 = .ok (.istore_n 1, 1) := by decide +kernel
theorem dX6_rich_29 : decode cX6_rich 29 = .ok (.aload_n 0, 1) := by decide +kernel
theorem dX6_rich_30 : decode cX6_rich 30 = .ok (.iload_n 3, 1) := by decide +kernel
theorem dX6_rich_31 : decode cX6_rich 31 = .ok (.invokevirtual 230, 3) := by decide +kernel
theorem dX6_rich_34 : decode cX6_rich 34 = .ok (.istore_n 2, 1) := by decide +kernel
theorem dX6_rich_35 : decode cX6_rich 35 = .ok (.iinc 3 1, 3) := by decide +kernel
theorem dX6_rich_38 : decode cX6_rich 38 = .ok (.goto (-31), 3) := by decide +kernel
theorem dX6_rich_41 : decode cX6_rich 41 = .ok (.iload_n 1, 1) := by decide +kernel
theorem dX6_rich_42 : decode cX6_rich 42 = .ok (.ireturn, 1) := by decide +kernel
set_option maxRecDepth 20000 in
theorem ggX6_odds_X6_isThing : GoodIn wsX6_odds wsX6_isThing := goodIn_r _ [5, 6, 7, 8, 4, 9, 46, 47, 48, 49, 50, 51, 52, 53, 54, 55, 56, 57, 58, 59, 60, 61, 62, 63, 64, 65, 66] (by decide +kernel) (by decide +kernel)
set_option maxRecDepth 20000 in
theorem gX6_odds_X6_isThing : GoodIn wsX6_odds (wsV RX6 114 RX6 yX6_isThing wsX6_isThing) := goodIn_app (goodIn_of _ (by decide +kernel)) ggX6_odds_X6_isThing
set_option maxRecDepth 20000 in
theorem ggX6_odds_X6_within : GoodIn wsX6_odds wsX6_within := goodIn_r _ [9] (by decide +kernel) (by decide +kernel)
set_option maxRecDepth 20000 in
theorem gX6_odds_X6_within : GoodIn wsX6_odds (va_wsS RX6 61 yX6_within wsX6_within) := goodIn_app (goodIn_of _ (by decide +kernel)) ggX6_odds_X6_within
set_option maxRecDepth 20000 in
theorem ggX6_odds_X6_calledAfter : GoodIn wsX6_odds wsX6_calledAfter := goodIn_r _ [13, 14, 15, 16, 17, 4, 18, 6, 19, 20, 21, 22, 23, 24, 25, 26, 27, 28, 29, 30, 31, 32, 33, 34, 35, 36, 46, 47, 48, 49, 50, 51, 52, 53, 54, 55, 56, 57, 58, 59, 60, 61, 62, 63, 64, 65, 66, 67, 68] (by decide +kernel) (by decide +kernel)
set_option maxRecDepth 20000 in
theorem gX6_odds_X6_calledAfter : GoodIn wsX6_odds (wsV RX6 130 RX6 yX6_calledAfter wsX6_calledAfter) := goodIn_app (goodIn_of _ (by decide +kernel)) ggX6_odds_X6_calledAfter
set_option maxRecDepth 20000 in
theorem ggX6_odds_X6_power : GoodIn wsX6_odds wsX6_power := goodIn_r _ [39] (by decide +kernel) (by decide +kernel)
set_option maxRecDepth 20000 in
theorem gX6_odds_X6_power : GoodIn wsX6_odds (va_wsS RX6 233 yX6_power wsX6_power) := goodIn_app (goodIn_of _ (by decide +kernel)) ggX6_odds_X6_power
set_option maxRecDepth 20000 in
theorem ggX6_odds_X6_commonDivisor : GoodIn wsX6_odds wsX6_commonDivisor := goodIn_r _ [42] (by decide +kernel) (by decide +kernel)
set_option maxRecDepth 20000 in
theorem gX6_odds_X6_commonDivisor : GoodIn wsX6_odds (va_wsS RX6 236 yX6_commonDivisor wsX6_commonDivisor) := goodIn_app (goodIn_of _ (by decide +kernel)) ggX6_odds_X6_commonDivisor
set_option maxRecDepth 20000 in
theorem ggX6_odds_X6_quotient : GoodIn wsX6_odds wsX6_quotient := goodIn_r _ [45] (by decide +kernel) (by decide +kernel)
set_option maxRecDepth 20000 in
theorem gX6_odds_X6_quotient : GoodIn wsX6_odds (va_wsS RX6 219 yX6_quotient wsX6_quotient) := goodIn_app (goodIn_of _ (by decide +kernel)) ggX6_odds_X6_quotient
theorem dX6_odds_0 : decode cX6_odds 0 = .ok (.aload_n 0, 1) := by decide +kernel
theorem dX6_odds_1 : decode cX6_odds 1 = .ok (.iload_n 1, 1) := by decide +kernel
theorem dX6_odds_2 : decode cX6_odds 2 = .ok (.invokevirtual 114, 3) := by decide +kernel
theorem dX6_odds_5 : decode cX6_odds 5 = .ok (.ifCond .eq 33, 3) := by decide +kernel
theorem dX6_odds_8 : decode cX6_odds 8 = .ok (.iload_n 2, 1) := by decide +kernel
theorem dX6_odds_9 : decode cX6_odds 9 = .ok (.iconst 0, 1) := by decide +kernel
theorem dX6_odds_10 : decode cX6_odds 10 = .ok (.bipush 10, 2) := by decide +kernel
theorem dX6_odds_12 : decode cX6_odds 12 = .ok (.invokestatic 61, 3) := by decide +kernel
theorem dX6_odds_15 : decode cX6_odds 15 = .ok (.ifCond .eq 23, 3) := by decide +kernel
theorem dX6_odds_18 : decode cX6_odds 18 = .ok (.iload_n 3, 1) := by decide +kernel
theorem dX6_odds_19 : decode cX6_odds 19 = .ok (.iconst 0, 1) := by decide +kernel
theorem dX6_odds_20 : decode cX6_odds 20 = .ok (.bipush 8, 2) := by decide +kernel
theorem dX6_odds_22 : decode cX6_odds 22 = .ok (.invokestatic 61, 3) := by decide +kernel
theorem dX6_odds_25 : decode cX6_odds 25 = .ok (.ifCond .eq 13, 3) := by decide +kernel
theorem dX6_odds_28 : decode cX6_odds 28 = .ok (.iload 4, 2) := by decide +kernel
theorem dX6_odds_30 : decode cX6_odds 30 = .ok (.iconst 0, 1) := by decide +kernel
theorem dX6_odds_31 : decode cX6_odds 31 = .ok (.iconst 1, 1) := by decide +kernel
theorem dX6_odds_32 : decode cX6_odds 32 = .ok (.invokestatic 61, 3) := by decide +kernel
theorem dX6_odds_35 : decode cX6_odds 35 = .ok (.ifCond .ne 5, 3) := by decide +kernel
theorem dX6_odds_38 : decode cX6_odds 38 = .ok (.iconst (-1), 1) := by decide +kernel
theorem dX6_odds_39 : decode cX6_odds 39 = .ok (.ireturn, 1) := by decide +kernel
theorem dX6_odds_40 : decode cX6_odds 40 = .ok (.aload_n 0, 1) := by decide +kernel
theorem dX6_odds_41 : decode cX6_odds 41 = .ok (.iload_n 1, 1) := by decide +kernel
theorem dX6_odds_42 : decode cX6_odds 42 = .ok (.iload_n 3, 1) := by decide +kernel
theorem dX6_odds_43 : decode cX6_odds 43 = .ok (.invokevirtual 130, 3) := by decide +kernel
theorem dX6_odds_46 : decode cX6_odds 46 = .ok (.ifCond .eq 14, 3) := by decide +kernel
theorem dX6_odds_49 : decode cX6_odds 49 = .ok (.bipush 10, 2) := by decide +kernel
theorem dX6_odds_51 : decode cX6_odds 51 = .ok (.iload_n 2, 1) := by decide +kernel
theorem dX6_odds_52 : decode cX6_odds 52 = .ok (.isub, 1) := by decide +kernel
theorem dX6_odds_53 : decode cX6_odds 53 = .ok (.iload_n 3, 1) := by decide +kernel
theorem dX6_odds_54 : decode cX6_odds 54 = .ok (.invokestatic 233, 3) := by decide +kernel
theorem dX6_odds_57 : decode cX6_odds 57 = .ok (.goto 4, 3) := by decide +kernel
theorem dX6_odds_60 : decode cX6_odds 60 = .ok (.iconst 0, 1) := by decide +kernel
theorem dX6_odds_61 : decode cX6_odds 61 = .ok (.istore 5, 2) := by decide +kernel
theorem dX6_odds_63 : decode cX6_odds 63 = .ok (.bipush 10, 2) := by decide +kernel
theorem dX6_odds_65 : decode cX6_odds 65 = .ok (.iload_n 3, 1) := by decide +kernel
theorem dX6_odds_66 : decode cX6_odds 66 = .ok (.invokestatic 233, 3) := by decide +kernel
theorem dX6_odds_69 : decode cX6_odds 69 = .ok (.istore 6, 2) := by decide +kernel
theorem dX6_odds_71 : decode cX6_odds 71 = .ok (.iload 5, 2) := by decide +kernel
theorem dX6_odds_73 : decode cX6_odds 73 = .ok (.iload 6, 2) := by decide +kernel
theorem dX6_odds_75 : decode cX6_odds 75 = .ok (.invokestatic 236, 3) := by decide +kernel
theorem dX6_odds_78 : decode cX6_odds 78 = .ok (.istore 7, 2) := by decide +kernel
theorem dX6_odds_80 : decode cX6_odds 80 = .ok (.iload 4, 2) := by decide +kernel
theorem dX6_odds_82 : decode cX6_odds 82 = .ok (.ifCond .ne 8, 3) := by decide +kernel
theorem dX6_odds_85 : decode cX6_odds 85 = .ok (.iload 5, 2) := by decide +kernel
theorem dX6_odds_87 : decode cX6_odds 87 = .ok (.goto 5, 3) := by decide +kernel
theorem dX6_odds_90 : decode cX6_odds 90 = .ok (.iload 6, 2) := by decide +kernel
theorem dX6_odds_92 : decode cX6_odds 92 = .ok (.iload 7, 2) := by decide +kernel
theorem dX6_odds_94 : decode cX6_odds 94 = .ok (.invokestatic 219, 3) := by decide +kernel
theorem dX6_odds_97 : decode cX6_odds 97 = .ok (.ireturn, 1) := by decide +kernel
set_option maxRecDepth 20000 in
theorem ggX6_came_X6_within : GoodIn wsX6_came wsX6_within := goodIn_r _ [5] (by decide +kernel) (by decide +kernel)
set_option maxRecDepth 20000 in
theorem gX6_came_X6_within : GoodIn wsX6_came (va_wsS RX6 61 yX6_within wsX6_within) := goodIn_app (goodIn_of _ (by decide +kernel)) ggX6_came_X6_within
set_option maxRecDepth 20000 in
theorem ggX6_came_X1_add : GoodIn wsX6_came wsX1_add := goodIn_r _ [10, 11, 12, 13, 24, 25, 26, 27, 28, 29, 30] (by decide +kernel) (by decide +kernel)
set_option maxRecDepth 20000 in
theorem gX6_came_X1_add : GoodIn wsX6_came (wsV RX6 239 RX1 yX1_add wsX1_add) := goodIn_app (goodIn_of _ (by decide +kernel)) ggX6_came_X1_add
theorem dX6_came_0 : decode cX6_came 0 = .ok (.iload_n 1, 1) := by decide +kernel
theorem dX6_came_1 : decode cX6_came 1 = .ok (.iconst 0, 1) := by decide +kernel
theorem dX6_came_2 : decode cX6_came 2 = .ok (.bipush 9, 2) := by decide +kernel
theorem dX6_came_4 : decode cX6_came 4 = .ok (.invokestatic 61, 3) := by decide +kernel
theorem dX6_came_7 : decode cX6_came 7 = .ok (.ifCond .ne 5, 3) := by decide +kernel
theorem dX6_came_10 : decode cX6_came 10 = .ok (.iconst (-1), 1) := by decide +kernel
theorem dX6_came_11 : decode cX6_came 11 = .ok (.ireturn, 1) := by decide +kernel
theorem dX6_came_12 : decode cX6_came 12 = .ok (.aload_n 0, 1) := by decide +kernel
theorem dX6_came_13 : decode cX6_came 13 = .ok (.getfield 53, 3) := by decide +kernel
theorem dX6_came_16 : decode cX6_came 16 = .ok (.iload_n 1, 1) := by decide +kernel
theorem dX6_came_17 : decode cX6_came 17 = .ok (.invokevirtual 239, 3) := by decide +kernel
theorem dX6_came_20 : decode cX6_came 20 = .ok (.ifCond .eq 13, 3) := by decide +kernel
theorem dX6_came_23 : decode cX6_came 23 = .ok (.aload_n 0, 1) := by decide +kernel
theorem dX6_came_24 : decode cX6_came 24 = .ok (.getfield 53, 3) := by decide +kernel
theorem dX6_came_27 : decode cX6_came 27 = .ok (.getfield 240, 3) := by decide +kernel
theorem dX6_came_30 : decode cX6_came 30 = .ok (.goto 5, 3) := by decide +kernel
theorem dX6_came_33 : decode cX6_came 33 = .ok (.bipush (-3), 2) := by decide +kernel
theorem dX6_came_35 : decode cX6_came 35 = .ok (.ireturn, 1) := by decide +kernel
set_option maxRecDepth 20000 in
theorem ggX6_forget_X1_wipe : GoodIn wsX6_forget wsX1_wipe := goodIn_r _ [6, 7, 8, 19, 20, 21, 22, 23, 24, 25] (by decide +kernel) (by decide +kernel)
set_option maxRecDepth 20000 in
theorem gX6_forget_X1_wipe : GoodIn wsX6_forget (wsV RX6 81 RX1 yX1_wipe wsX1_wipe) := goodIn_app (goodIn_of _ (by decide +kernel)) ggX6_forget_X1_wipe
theorem dX6_forget_0 : decode cX6_forget 0 = .ok (.aload_n 0, 1) := by decide +kernel
theorem dX6_forget_1 : decode cX6_forget 1 = .ok (.getfield 53, 3) := by decide +kernel
theorem dX6_forget_4 : decode cX6_forget 4 = .ok (.getfield 240, 3) := by decide +kernel
theorem dX6_forget_7 : decode cX6_forget 7 = .ok (.istore_n 1, 1) := by decide +kernel
theorem dX6_forget_8 : decode cX6_forget 8 = .ok (.aload_n 0, 1) := by decide +kernel
theorem dX6_forget_9 : decode cX6_forget 9 = .ok (.getfield 53, 3) := by decide +kernel
theorem dX6_forget_12 : decode cX6_forget 12 = .ok (.invokevirtual 81, 3) := by decide +kernel
theorem dX6_forget_15 : decode cX6_forget 15 = .ok (.iload_n 1, 1) := by decide +kernel
theorem dX6_forget_16 : decode cX6_forget 16 = .ok (.ireturn, 1) := by decide +kernel
set_option maxRecDepth 20000 in
theorem ggX6_fits_X6_within : GoodIn wsX6_fits wsX6_within := goodIn_r _ [7] (by decide +kernel) (by decide +kernel)
set_option maxRecDepth 20000 in
theorem gX6_fits_X6_within : GoodIn wsX6_fits (va_wsS RX6 61 yX6_within wsX6_within) := goodIn_app (goodIn_of _ (by decide +kernel)) ggX6_fits_X6_within
set_option maxRecDepth 20000 in
theorem ggX6_fits_X2_dug : GoodIn wsX6_fits wsX2_dug := goodIn_r _ [12, 13, 91, 92] (by decide +kernel) (by decide +kernel)
set_option maxRecDepth 20000 in
theorem gX6_fits_X2_dug : GoodIn wsX6_fits (wsV RX6 103 RX2 yX2_dug wsX2_dug) := goodIn_app (goodIn_of _ (by decide +kernel)) ggX6_fits_X2_dug
set_option maxRecDepth 20000 in
theorem ggX6_fits_X1_lookFrom : GoodIn wsX6_fits wsX1_lookFrom := goodIn_r _ [18, 19, 20, 21, 22, 23, 24, 17, 25, 26, 27, 28, 29, 30, 31, 32, 33, 34, 35, 36, 37, 38, 39, 40, 41, 42, 43, 44, 45, 46, 47, 48, 49, 50, 51, 52, 53, 54, 55, 56, 84, 85, 86, 87, 88, 89, 90, 93, 94, 95, 96, 97, 98, 99] (by decide +kernel) (by decide +kernel)
set_option maxRecDepth 20000 in
theorem gX6_fits_X1_lookFrom : GoodIn wsX6_fits (wsV RX6 241 RX1 yX1_lookFrom wsX1_lookFrom) := goodIn_app (goodIn_of _ (by decide +kernel)) ggX6_fits_X1_lookFrom
set_option maxRecDepth 20000 in
theorem ggX6_fits_X4_pairOf : GoodIn wsX6_fits wsX4_pairOf := goodIn_r _ [60, 51, 61, 6, 62, 93, 94, 95, 96, 97, 98, 99] (by decide +kernel) (by decide +kernel)
set_option maxRecDepth 20000 in
theorem gX6_fits_X4_pairOf : GoodIn wsX6_fits (wsV RX6 251 RX4 yX4_pairOf wsX4_pairOf) := goodIn_app (goodIn_of _ (by decide +kernel)) ggX6_fits_X4_pairOf
theorem dX6_fits_0 : decode cX6_fits 0 = .ok (.iload_n 1, 1) := by decide +kernel
theorem dX6_fits_1 : decode cX6_fits 1 = .ok (.bipush (-2), 2) := by decide +kernel
theorem dX6_fits_3 : decode cX6_fits 3 = .ok (.iconst 4, 1) := by decide +kernel
theorem dX6_fits_4 : decode cX6_fits 4 = .ok (.invokestatic 61, 3) := by decide +kernel
theorem dX6_fits_7 : decode cX6_fits 7 = .ok (.ifCond .ne 5, 3) := by decide +kernel
theorem dX6_fits_10 : decode cX6_fits 10 = .ok (.iconst (-1), 1) := by decide +kernel
theorem dX6_fits_11 : decode cX6_fits 11 = .ok (.ireturn, 1) := by decide +kernel
theorem dX6_fits_12 : decode cX6_fits 12 = .ok (.aload_n 0, 1) := by decide +kernel
theorem dX6_fits_13 : decode cX6_fits 13 = .ok (.getfield 53, 3) := by decide +kernel
theorem dX6_fits_16 : decode cX6_fits 16 = .ok (.aload_n 0, 1) := by decide +kernel
theorem dX6_fits_17 : decode cX6_fits 17 = .ok (.getfield 19, 3) := by decide +kernel
theorem dX6_fits_20 : decode cX6_fits 20 = .ok (.getfield 85, 3) := by decide +kernel
theorem dX6_fits_23 : decode cX6_fits 23 = .ok (.aload_n 0, 1) := by decide +kernel
theorem dX6_fits_24 : decode cX6_fits 24 = .ok (.getfield 29, 3) := by decide +kernel
theorem dX6_fits_27 : decode cX6_fits 27 = .ok (.invokevirtual 103, 3) := by decide +kernel
theorem dX6_fits_30 : decode cX6_fits 30 = .ok (.invokevirtual 241, 3) := by decide +kernel
theorem dX6_fits_33 : decode cX6_fits 33 = .ok (.iload_n 1, 1) := by decide +kernel
theorem dX6_fits_34 : decode cX6_fits 34 = .ok (.iconst (-1), 1) := by decide +kernel
theorem dX6_fits_35 : decode cX6_fits 35 = .ok (.if_icmp .ne 11, 3) := by decide +kernel
theorem dX6_fits_38 : decode cX6_fits 38 = .ok (.aload_n 0, 1) := by decide +kernel
theorem dX6_fits_39 : decode cX6_fits 39 = .ok (.getfield 53, 3) := by decide +kernel
theorem dX6_fits_42 : decode cX6_fits 42 = .ok (.getfield 242, 3) := by decide +kernel
theorem dX6_fits_45 : decode cX6_fits 45 = .ok (.ireturn, 1) := by decide +kernel
theorem dX6_fits_46 : decode cX6_fits 46 = .ok (.iload_n 1, 1) := by decide +kernel
theorem dX6_fits_47 : decode cX6_fits 47 = .ok (.bipush (-2), 2) := by decide +kernel
theorem dX6_fits_49 : decode cX6_fits 49 = .ok (.if_icmp .ne 11, 3) := by decide +kernel
theorem dX6_fits_52 : decode cX6_fits 52 = .ok (.aload_n 0, 1) := by decide +kernel
theorem dX6_fits_53 : decode cX6_fits 53 = .ok (.getfield 53, 3) := by decide +kernel
theorem dX6_fits_56 : decode cX6_fits 56 = .ok (.getfield 245, 3) := by decide +kernel
theorem dX6_fits_59 : decode cX6_fits 59 = .ok (.ireturn, 1) := by decide +kernel
theorem dX6_fits_60 : decode cX6_fits 60 = .ok (.aload_n 0, 1) := by decide +kernel
theorem dX6_fits_61 : decode cX6_fits 61 = .ok (.getfield 53, 3) := by decide +kernel
theorem dX6_fits_64 : decode cX6_fits 64 = .ok (.getfield 242, 3) := by decide +kernel
theorem dX6_fits_67 : decode cX6_fits 67 = .ok (.ifCond .eq 14, 3) := by decide +kernel
theorem dX6_fits_70 : decode cX6_fits 70 = .ok (.iload_n 1, 1) := by decide +kernel
theorem dX6_fits_71 : decode cX6_fits 71 = .ok (.aload_n 0, 1) := by decide +kernel
theorem dX6_fits_72 : decode cX6_fits 72 = .ok (.getfield 53, 3) := by decide +kernel
theorem dX6_fits_75 : decode cX6_fits 75 = .ok (.getfield 240, 3) := by decide +kernel
theorem dX6_fits_78 : decode cX6_fits 78 = .ok (.if_icmp .lt 6, 3) := by decide +kernel
theorem dX6_fits_81 : decode cX6_fits 81 = .ok (.bipush (-9), 2) := by decide +kernel
theorem dX6_fits_83 : decode cX6_fits 83 = .ok (.ireturn, 1) := by decide +kernel
theorem dX6_fits_84 : decode cX6_fits 84 = .ok (.aload_n 0, 1) := by decide +kernel
theorem dX6_fits_85 : decode cX6_fits 85 = .ok (.getfield 19, 3) := by decide +kernel
theorem dX6_fits_88 : decode cX6_fits 88 = .ok (.getfield 85, 3) := by decide +kernel
theorem dX6_fits_91 : decode cX6_fits 91 = .ok (.aload_n 0, 1) := by decide +kernel
theorem dX6_fits_92 : decode cX6_fits 92 = .ok (.getfield 53, 3) := by decide +kernel
theorem dX6_fits_95 : decode cX6_fits 95 = .ok (.getfield 248, 3) := by decide +kernel
theorem dX6_fits_98 : decode cX6_fits 98 = .ok (.iload_n 1, 1) := by decide +kernel
theorem dX6_fits_99 : decode cX6_fits 99 = .ok (.iaload, 1) := by decide +kernel
theorem dX6_fits_100 : decode cX6_fits 100 = .ok (.invokevirtual 251, 3) := by decide +kernel
theorem dX6_fits_103 : decode cX6_fits 103 = .ok (.ireturn, 1) := by decide +kernel
set_option maxRecDepth 20000 in
theorem ggX6_mark_X6_isThing : GoodIn wsX6_mark wsX6_isThing := goodIn_r _ [6, 7, 8, 9, 5, 10, 56, 57, 58, 59, 60, 61, 62, 63, 64, 65, 66, 67, 68, 69, 70, 71, 72, 73, 74, 75, 76] (by decide +kernel) (by decide +kernel)
set_option maxRecDepth 20000 in
theorem gX6_mark_X6_isThing : GoodIn wsX6_mark (wsV RX6 114 RX6 yX6_isThing wsX6_isThing) := goodIn_app (goodIn_of _ (by decide +kernel)) ggX6_mark_X6_isThing
set_option maxRecDepth 20000 in
theorem ggX6_mark_X6_markThing : GoodIn wsX6_mark wsX6_markThing := goodIn_r _ [14, 15, 16, 17, 18, 19, 20, 21, 22, 56, 57, 58, 59, 60, 61, 62, 63, 64, 65, 77, 78] (by decide +kernel) (by decide +kernel)
set_option maxRecDepth 20000 in
theorem gX6_mark_X6_markThing : GoodIn wsX6_mark (wsV RX6 255 RX6 yX6_markThing wsX6_markThing) := goodIn_app (goodIn_of _ (by decide +kernel)) ggX6_mark_X6_markThing
set_option maxRecDepth 20000 in
theorem ggX6_mark_X6_markPainting : GoodIn wsX6_mark wsX6_markPainting := goodIn_r _ [26, 15, 27, 7, 11, 12, 13, 5, 14, 16, 17, 18, 19, 20, 21, 22, 56, 57, 58, 59, 60, 61, 62, 63, 64, 65, 66, 67, 68, 69, 70, 71, 72, 73, 74, 75, 76, 77, 78] (by decide +kernel) (by decide +kernel)
set_option maxRecDepth 20000 in
theorem gX6_mark_X6_markPainting : GoodIn wsX6_mark (wsV RX6 258 RX6 yX6_markPainting wsX6_markPainting) := goodIn_app (goodIn_of _ (by decide +kernel)) ggX6_mark_X6_markPainting
set_option maxRecDepth 20000 in
theorem ggX6_mark_X6_markLemon : GoodIn wsX6_mark wsX6_markLemon := goodIn_r _ [31, 15, 32, 16, 11, 12, 13, 5, 14, 17, 18, 19, 20, 21, 22, 33, 34, 35, 36, 56, 57, 58, 59, 60, 61, 62, 63, 64, 65, 77, 78] (by decide +kernel) (by decide +kernel)
set_option maxRecDepth 20000 in
theorem gX6_mark_X6_markLemon : GoodIn wsX6_mark (wsV RX6 261 RX6 yX6_markLemon wsX6_markLemon) := goodIn_app (goodIn_of _ (by decide +kernel)) ggX6_mark_X6_markLemon
set_option maxRecDepth 20000 in
theorem ggX6_mark_X6_markSun : GoodIn wsX6_mark wsX6_markSun := goodIn_r _ [40, 15, 41, 23, 24, 25, 5, 26, 27, 7, 11, 12, 13, 14, 16, 17, 18, 19, 20, 21, 22, 56, 57, 58, 59, 60, 61, 62, 63, 64, 65, 66, 67, 68, 69, 70, 71, 72, 73, 74, 75, 76, 77, 78] (by decide +kernel) (by decide +kernel)
set_option maxRecDepth 20000 in
theorem gX6_mark_X6_markSun : GoodIn wsX6_mark (wsV RX6 264 RX6 yX6_markSun wsX6_markSun) := goodIn_app (goodIn_of _ (by decide +kernel)) ggX6_mark_X6_markSun
set_option maxRecDepth 20000 in
theorem ggX6_mark_X6_markButter : GoodIn wsX6_mark wsX6_markButter := goodIn_r _ [45, 15, 46, 7, 28, 29, 30, 5, 31, 32, 16, 11, 12, 13, 14, 17, 18, 19, 20, 21, 22, 33, 34, 35, 36, 56, 57, 58, 59, 60, 61, 62, 63, 64, 65, 66, 67, 68, 69, 70, 71, 72, 73, 74, 75, 76, 77, 78] (by decide +kernel) (by decide +kernel)
set_option maxRecDepth 20000 in
theorem gX6_mark_X6_markButter : GoodIn wsX6_mark (wsV RX6 267 RX6 yX6_markButter wsX6_markButter) := goodIn_app (goodIn_of _ (by decide +kernel)) ggX6_mark_X6_markButter
set_option maxRecDepth 20000 in
theorem ggX6_mark_X6_markBee : GoodIn wsX6_mark wsX6_markBee := goodIn_r _ [50, 15, 51, 16, 11, 12, 13, 5, 14, 17, 18, 19, 20, 21, 22, 52, 53, 54, 55, 56, 57, 58, 59, 60, 61, 62, 63, 64, 65, 77, 78] (by decide +kernel) (by decide +kernel)
set_option maxRecDepth 20000 in
theorem gX6_mark_X6_markBee : GoodIn wsX6_mark (wsV RX6 270 RX6 yX6_markBee wsX6_markBee) := goodIn_app (goodIn_of _ (by decide +kernel)) ggX6_mark_X6_markBee
theorem dX6_mark_0 : decode cX6_mark 0 = .ok (.aload_n 0, 1) := by decide +kernel
theorem dX6_mark_1 : decode cX6_mark 1 = .ok (.iload_n 2, 1) := by decide +kernel
theorem dX6_mark_2 : decode cX6_mark 2 = .ok (.invokevirtual 114, 3) := by decide +kernel
theorem dX6_mark_5 : decode cX6_mark 5 = .ok (.ifCond .ne 6, 3) := by decide +kernel
theorem dX6_mark_8 : decode cX6_mark 8 = .ok (.ldc 254, 2) := by decide +kernel
theorem dX6_mark_10 : decode cX6_mark 10 = .ok (.ireturn, 1) := by decide +kernel
theorem dX6_mark_11 : decode cX6_mark 11 = .ok (.iload_n 1, 1) := by decide +kernel
theorem dX6_mark_12 : decode cX6_mark 12 = .ok (.tableswitch 76 0 5 #[40, 46, 52, 58, 64, 70], 40) := by decide +kernel
theorem dX6_mark_52 : decode cX6_mark 52 = .ok (.aload_n 0, 1) := by decide +kernel
theorem dX6_mark_53 : decode cX6_mark 53 = .ok (.iload_n 2, 1) := by decide +kernel
theorem dX6_mark_54 : decode cX6_mark 54 = .ok (.invokevirtual 255, 3) := by decide +kernel
theorem dX6_mark_57 : decode cX6_mark 57 = .ok (.ireturn, 1) := by decide +kernel
theorem dX6_mark_58 : decode cX6_mark 58 = .ok (.aload_n 0, 1) := by decide +kernel
theorem dX6_mark_59 : decode cX6_mark 59 = .ok (.iload_n 2, 1) := by decide +kernel
theorem dX6_mark_60 : decode cX6_mark 60 = .ok (.invokevirtual 258, 3) := by decide +kernel
theorem dX6_mark_63 : decode cX6_mark 63 = .ok (.ireturn, 1) := by decide +kernel
theorem dX6_mark_64 : decode cX6_mark 64 = .ok (.aload_n 0, 1) := by decide +kernel
theorem dX6_mark_65 : decode cX6_mark 65 = .ok (.iload_n 2, 1) := by decide +kernel
theorem dX6_mark_66 : decode cX6_mark 66 = .ok (.invokevirtual 261, 3) := by decide +kernel
theorem dX6_mark_69 : decode cX6_mark 69 = .ok (.ireturn, 1) := by decide +kernel
theorem dX6_mark_70 : decode cX6_mark 70 = .ok (.aload_n 0, 1) := by decide +kernel
theorem dX6_mark_71 : decode cX6_mark 71 = .ok (.iload_n 2, 1) := by decide +kernel
theorem dX6_mark_72 : decode cX6_mark 72 = .ok (.invokevirtual 264, 3) := by decide +kernel
theorem dX6_mark_75 : decode cX6_mark 75 = .ok (.ireturn, 1) := by decide +kernel
theorem dX6_mark_76 : decode cX6_mark 76 = .ok (.aload_n 0, 1) := by decide +kernel
theorem dX6_mark_77 : decode cX6_mark 77 = .ok (.iload_n 2, 1) := by decide +kernel
theorem dX6_mark_78 : decode cX6_mark 78 = .ok (.invokevirtual 267, 3) := by decide +kernel
theorem dX6_mark_81 : decode cX6_mark 81 = .ok (.ireturn, 1) := by decide +kernel
theorem dX6_mark_82 : decode cX6_mark 82 = .ok (.aload_n 0, 1) := by decide +kernel
theorem dX6_mark_83 : decode cX6_mark 83 = .ok (.iload_n 2, 1) := by decide +kernel
theorem dX6_mark_84 : decode cX6_mark 84 = .ok (.invokevirtual 270, 3) := by decide +kernel
theorem dX6_mark_87 : decode cX6_mark 87 = .ok (.ireturn, 1) := by decide +kernel
theorem dX6_mark_88 : decode cX6_mark 88 = .ok (.ldc 254, 2) := by decide +kernel
theorem dX6_mark_90 : decode cX6_mark 90 = .ok (.ireturn, 1) := by decide +kernel
set_option maxRecDepth 20000 in
theorem ggX6_keep_X6_within : GoodIn wsX6_keep wsX6_within := goodIn_r _ [6] (by decide +kernel) (by decide +kernel)
set_option maxRecDepth 20000 in
theorem gX6_keep_X6_within : GoodIn wsX6_keep (va_wsS RX6 61 yX6_within wsX6_within) := goodIn_app (goodIn_of _ (by decide +kernel)) ggX6_keep_X6_within
set_option maxRecDepth 20000 in
theorem ggX6_keep_X6_imageOf : GoodIn wsX6_keep wsX6_imageOf := goodIn_r _ [10, 11, 12, 28, 29, 30, 31, 32, 33, 34, 35, 36, 37] (by decide +kernel) (by decide +kernel)
set_option maxRecDepth 20000 in
theorem gX6_keep_X6_imageOf : GoodIn wsX6_keep (wsV RX6 273 RX6 yX6_imageOf wsX6_imageOf) := goodIn_app (goodIn_of _ (by decide +kernel)) ggX6_keep_X6_imageOf
set_option maxRecDepth 20000 in
theorem ggX6_keep_X2_copyFrom : GoodIn wsX6_keep wsX2_copyFrom := goodIn_r _ [17, 18, 19, 20, 21, 22, 23, 38, 39] (by decide +kernel) (by decide +kernel)
set_option maxRecDepth 20000 in
theorem gX6_keep_X2_copyFrom : GoodIn wsX6_keep (wsV RX6 277 RX2 yX2_copyFrom wsX2_copyFrom) := goodIn_app (goodIn_of _ (by decide +kernel)) ggX6_keep_X2_copyFrom
set_option maxRecDepth 20000 in
theorem ggX6_keep_X2_year : GoodIn wsX6_keep wsX2_year := goodIn_r _ [27, 18, 38, 39] (by decide +kernel) (by decide +kernel)
set_option maxRecDepth 20000 in
theorem gX6_keep_X2_year : GoodIn wsX6_keep (wsV RX6 156 RX2 yX2_year wsX2_year) := goodIn_app (goodIn_of _ (by decide +kernel)) ggX6_keep_X2_year
theorem dX6_keep_0 : decode cX6_keep 0 = .ok (.iload_n 1, 1) := by decide +kernel
theorem dX6_keep_1 : decode cX6_keep 1 = .ok (.iconst 0, 1) := by decide +kernel
theorem dX6_keep_2 : decode cX6_keep 2 = .ok (.iconst 1, 1) := by decide +kernel
theorem dX6_keep_3 : decode cX6_keep 3 = .ok (.invokestatic 61, 3) := by decide +kernel
theorem dX6_keep_6 : decode cX6_keep 6 = .ok (.ifCond .ne 5, 3) := by decide +kernel
theorem dX6_keep_9 : decode cX6_keep 9 = .ok (.iconst (-1), 1) := by decide +kernel
theorem dX6_keep_10 : decode cX6_keep 10 = .ok (.ireturn, 1) := by decide +kernel
theorem dX6_keep_11 : decode cX6_keep 11 = .ok (.aload_n 0, 1) := by decide +kernel
theorem dX6_keep_12 : decode cX6_keep 12 = .ok (.iload_n 1, 1) := by decide +kernel
theorem dX6_keep_13 : decode cX6_keep 13 = .ok (.invokevirtual 273, 3) := by decide +kernel
theorem dX6_keep_16 : decode cX6_keep 16 = .ok (.aload_n 0, 1) := by decide +kernel
theorem dX6_keep_17 : decode cX6_keep 17 = .ok (.getfield 29, 3) := by decide +kernel
theorem dX6_keep_20 : decode cX6_keep 20 = .ok (.invokevirtual 277, 3) := by decide +kernel
theorem dX6_keep_23 : decode cX6_keep 23 = .ok (.aload_n 0, 1) := by decide +kernel
theorem dX6_keep_24 : decode cX6_keep 24 = .ok (.getfield 39, 3) := by decide +kernel
theorem dX6_keep_27 : decode cX6_keep 27 = .ok (.iload_n 1, 1) := by decide +kernel
theorem dX6_keep_28 : decode cX6_keep 28 = .ok (.iconst 1, 1) := by decide +kernel
theorem dX6_keep_29 : decode cX6_keep 29 = .ok (.bastore, 1) := by decide +kernel
theorem dX6_keep_30 : decode cX6_keep 30 = .ok (.aload_n 0, 1) := by decide +kernel
theorem dX6_keep_31 : decode cX6_keep 31 = .ok (.getfield 29, 3) := by decide +kernel
theorem dX6_keep_34 : decode cX6_keep 34 = .ok (.invokevirtual 156, 3) := by decide +kernel
theorem dX6_keep_37 : decode cX6_keep 37 = .ok (.ireturn, 1) := by decide +kernel
set_option maxRecDepth 20000 in
theorem ggX6_back_X6_within : GoodIn wsX6_back wsX6_within := goodIn_r _ [6] (by decide +kernel) (by decide +kernel)
set_option maxRecDepth 20000 in
theorem gX6_back_X6_within : GoodIn wsX6_back (va_wsS RX6 61 yX6_within wsX6_within) := goodIn_app (goodIn_of _ (by decide +kernel)) ggX6_back_X6_within
set_option maxRecDepth 20000 in
theorem ggX6_back_X6_imageOf : GoodIn wsX6_back wsX6_imageOf := goodIn_r _ [10, 11, 12, 28, 29, 30, 31, 32, 33, 34, 35, 36, 37] (by decide +kernel) (by decide +kernel)
set_option maxRecDepth 20000 in
theorem gX6_back_X6_imageOf : GoodIn wsX6_back (wsV RX6 273 RX6 yX6_imageOf wsX6_imageOf) := goodIn_app (goodIn_of _ (by decide +kernel)) ggX6_back_X6_imageOf
set_option maxRecDepth 20000 in
theorem ggX6_back_X2_copyFrom : GoodIn wsX6_back wsX2_copyFrom := goodIn_r _ [17, 18, 19, 20, 21, 22, 23, 38, 39] (by decide +kernel) (by decide +kernel)
set_option maxRecDepth 20000 in
theorem gX6_back_X2_copyFrom : GoodIn wsX6_back (wsV RX6 277 RX2 yX2_copyFrom wsX2_copyFrom) := goodIn_app (goodIn_of _ (by decide +kernel)) ggX6_back_X2_copyFrom
set_option maxRecDepth 20000 in
theorem ggX6_back_X2_year : GoodIn wsX6_back wsX2_year := goodIn_r _ [27, 18, 38, 39] (by decide +kernel) (by decide +kernel)
set_option maxRecDepth 20000 in
theorem gX6_back_X2_year : GoodIn wsX6_back (wsV RX6 156 RX2 yX2_year wsX2_year) := goodIn_app (goodIn_of _ (by decide +kernel)) ggX6_back_X2_year
theorem dX6_back_0 : decode cX6_back 0 = .ok (.iload_n 1, 1) := by decide +kernel
theorem dX6_back_1 : decode cX6_back 1 = .ok (.iconst 0, 1) := by decide +kernel
theorem dX6_back_2 : decode cX6_back 2 = .ok (.iconst 1, 1) := by decide +kernel
theorem dX6_back_3 : decode cX6_back 3 = .ok (.invokestatic 61, 3) := by decide +kernel
theorem dX6_back_6 : decode cX6_back 6 = .ok (.ifCond .ne 5, 3) := by decide +kernel
theorem dX6_back_9 : decode cX6_back 9 = .ok (.iconst (-1), 1) := by decide +kernel
theorem dX6_back_10 : decode cX6_back 10 = .ok (.ireturn, 1) := by decide +kernel
theorem dX6_back_11 : decode cX6_back 11 = .ok (.aload_n 0, 1) := by decide +kernel
theorem dX6_back_12 : decode cX6_back 12 = .ok (.getfield 39, 3) := by decide +kernel
theorem dX6_back_15 : decode cX6_back 15 = .ok (.iload_n 1, 1) := by decide +kernel
theorem dX6_back_16 : decode cX6_back 16 = .ok (.baload, 1) := by decide +kernel
theorem dX6_back_17 : decode cX6_back 17 = .ok (.ifCond .ne 6, 3) := by decide +kernel
theorem dX6_back_20 : decode cX6_back 20 = .ok (.bipush (-2), 2) := by decide +kernel
theorem dX6_back_22 : decode cX6_back 22 = .ok (.ireturn, 1) := by decide +kernel
theorem dX6_back_23 : decode cX6_back 23 = .ok (.aload_n 0, 1) := by decide +kernel
theorem dX6_back_24 : decode cX6_back 24 = .ok (.getfield 29, 3) := by decide +kernel
theorem dX6_back_27 : decode cX6_back 27 = .ok (.aload_n 0, 1) := by decide +kernel
theorem dX6_back_28 : decode cX6_back 28 = .ok (.iload_n 1, 1) := by decide +kernel
theorem dX6_back_29 : decode cX6_back 29 = .ok (.invokevirtual 273, 3) := by decide +kernel
theorem dX6_back_32 : decode cX6_back 32 = .ok (.invokevirtual 277, 3) := by decide +kernel
theorem dX6_back_35 : decode cX6_back 35 = .ok (.aload_n 0, 1) := by decide +kernel
theorem dX6_back_36 : decode cX6_back 36 = .ok (.getfield 29, 3) := by decide +kernel
theorem dX6_back_39 : decode cX6_back 39 = .ok (.invokevirtual 156, 3) := by decide +kernel
theorem dX6_back_42 : decode cX6_back 42 = .ok (.ireturn, 1) := by decide +kernel
theorem dX6_count_0 : decode cX6_count 0 = .ok (.iload_n 1, 1) := by decide +kernel
theorem dX6_count_1 : decode cX6_count 1 = .ok (.tableswitch 117 0 7 #[47, 58, 69, 77, 85, 93, 101, 109], 47) := by decide +kernel
theorem dX6_count_48 : decode cX6_count 48 = .ok (.aload_n 0, 1) := by decide +kernel
theorem dX6_count_49 : decode cX6_count 49 = .ok (.getfield 19, 3) := by decide +kernel
theorem dX6_count_52 : decode cX6_count 52 = .ok (.getfield 85, 3) := by decide +kernel
theorem dX6_count_55 : decode cX6_count 55 = .ok (.getfield 281, 3) := by decide +kernel
theorem dX6_count_58 : decode cX6_count 58 = .ok (.ireturn, 1) := by decide +kernel
theorem dX6_count_59 : decode cX6_count 59 = .ok (.aload_n 0, 1) := by decide +kernel
theorem dX6_count_60 : decode cX6_count 60 = .ok (.getfield 19, 3) := by decide +kernel
theorem dX6_count_63 : decode cX6_count 63 = .ok (.getfield 85, 3) := by decide +kernel
theorem dX6_count_66 : decode cX6_count 66 = .ok (.getfield 284, 3) := by decide +kernel
theorem dX6_count_69 : decode cX6_count 69 = .ok (.ireturn, 1) := by decide +kernel
theorem dX6_count_70 : decode cX6_count 70 = .ok (.aload_n 0, 1) := by decide +kernel
theorem dX6_count_71 : decode cX6_count 71 = .ok (.getfield 19, 3) := by decide +kernel
theorem dX6_count_74 : decode cX6_count 74 = .ok (.getfield 159, 3) := by decide +kernel
theorem dX6_count_77 : decode cX6_count 77 = .ok (.ireturn, 1) := by decide +kernel
theorem dX6_count_78 : decode cX6_count 78 = .ok (.aload_n 0, 1) := by decide +kernel
theorem dX6_count_79 : decode cX6_count 79 = .ok (.getfield 19, 3) := by decide +kernel
theorem dX6_count_82 : decode cX6_count 82 = .ok (.getfield 216, 3) := by decide +kernel
theorem dX6_count_85 : decode cX6_count 85 = .ok (.ireturn, 1) := by decide +kernel
theorem dX6_count_86 : decode cX6_count 86 = .ok (.aload_n 0, 1) := by decide +kernel
theorem dX6_count_87 : decode cX6_count 87 = .ok (.getfield 19, 3) := by decide +kernel
theorem dX6_count_90 : decode cX6_count 90 = .ok (.getfield 287, 3) := by decide +kernel
theorem dX6_count_93 : decode cX6_count 93 = .ok (.ireturn, 1) := by decide +kernel
theorem dX6_count_94 : decode cX6_count 94 = .ok (.aload_n 0, 1) := by decide +kernel
theorem dX6_count_95 : decode cX6_count 95 = .ok (.getfield 53, 3) := by decide +kernel
theorem dX6_count_98 : decode cX6_count 98 = .ok (.getfield 240, 3) := by decide +kernel
theorem dX6_count_101 : decode cX6_count 101 = .ok (.ireturn, 1) := by decide +kernel
theorem dX6_count_102 : decode cX6_count 102 = .ok (.aload_n 0, 1) := by decide +kernel
theorem dX6_count_103 : decode cX6_count 103 = .ok (.getfield 29, 3) := by decide +kernel
theorem dX6_count_106 : decode cX6_count 106 = .ok (.getfield 176, 3) := by decide +kernel
theorem dX6_count_109 : decode cX6_count 109 = .ok (.ireturn, 1) := by decide +kernel
theorem dX6_count_110 : decode cX6_count 110 = .ok (.aload_n 0, 1) := by decide +kernel
theorem dX6_count_111 : decode cX6_count 111 = .ok (.getfield 10, 3) := by decide +kernel
theorem dX6_count_114 : decode cX6_count 114 = .ok (.getfield 69, 3) := by decide +kernel
theorem dX6_count_117 : decode cX6_count 117 = .ok (.ireturn, 1) := by decide +kernel
theorem dX6_count_118 : decode cX6_count 118 = .ok (.iconst (-1), 1) := by decide +kernel
theorem dX6_count_119 : decode cX6_count 119 = .ok (.ireturn, 1) := by decide +kernel
theorem dX6_trace_0 : decode cX6_trace 0 = .ok (.aload_n 0, 1) := by decide +kernel
theorem dX6_trace_1 : decode cX6_trace 1 = .ok (.getfield 57, 3) := by decide +kernel
theorem dX6_trace_4 : decode cX6_trace 4 = .ok (.lreturn, 1) := by decide +kernel
theorem dX6_within_0 : decode cX6_within 0 = .ok (.iload_n 0, 1) := by decide +kernel
theorem dX6_within_1 : decode cX6_within 1 = .ok (.iload_n 1, 1) := by decide +kernel
theorem dX6_within_2 : decode cX6_within 2 = .ok (.if_icmp .lt 12, 3) := by decide +kernel
theorem dX6_within_5 : decode cX6_within 5 = .ok (.iload_n 0, 1) := by decide +kernel
theorem dX6_within_6 : decode cX6_within 6 = .ok (.iload_n 2, 1) := by decide +kernel
theorem dX6_within_7 : decode cX6_within 7 = .ok (.if_icmp .gt 7, 3) := by decide +kernel
theorem dX6_within_10 : decode cX6_within 10 = .ok (.iconst 1, 1) := by decide +kernel
theorem dX6_within_11 : decode cX6_within 11 = .ok (.goto 4, 3) := by decide +kernel
theorem dX6_within_14 : decode cX6_within 14 = .ok (.iconst 0, 1) := by decide +kernel
theorem dX6_within_15 : decode cX6_within 15 = .ok (.ireturn, 1) := by decide +kernel
theorem dX6_oneIf_0 : decode cX6_oneIf 0 = .ok (.iload_n 0, 1) := by decide +kernel
theorem dX6_oneIf_1 : decode cX6_oneIf 1 = .ok (.ifCond .eq 7, 3) := by decide +kernel
theorem dX6_oneIf_4 : decode cX6_oneIf 4 = .ok (.iconst 1, 1) := by decide +kernel
theorem dX6_oneIf_5 : decode cX6_oneIf 5 = .ok (.goto 4, 3) := by decide +kernel
theorem dX6_oneIf_8 : decode cX6_oneIf 8 = .ok (.iconst 0, 1) := by decide +kernel
theorem dX6_oneIf_9 : decode cX6_oneIf 9 = .ok (.ireturn, 1) := by decide +kernel
theorem dX6_quotient_0 : decode cX6_quotient 0 = .ok (.iload_n 1, 1) := by decide +kernel
theorem dX6_quotient_1 : decode cX6_quotient 1 = .ok (.ifCond .le 9, 3) := by decide +kernel
theorem dX6_quotient_4 : decode cX6_quotient 4 = .ok (.iload_n 0, 1) := by decide +kernel
theorem dX6_quotient_5 : decode cX6_quotient 5 = .ok (.iload_n 1, 1) := by decide +kernel
theorem dX6_quotient_6 : decode cX6_quotient 6 = .ok (.idiv, 1) := by decide +kernel
theorem dX6_quotient_7 : decode cX6_quotient 7 = .ok (.goto 4, 3) := by decide +kernel
theorem dX6_quotient_10 : decode cX6_quotient 10 = .ok (.iconst 0, 1) := by decide +kernel
theorem dX6_quotient_11 : decode cX6_quotient 11 = .ok (.ireturn, 1) := by decide +kernel
theorem dX6_power_0 : decode cX6_power 0 = .ok (.iconst 1, 1) := by decide +kernel
theorem dX6_power_1 : decode cX6_power 1 = .ok (.istore_n 2, 1) := by decide +kernel
theorem dX6_power_2 : decode cX6_power 2 = .ok (.iconst 0, 1) := by decide +kernel
theorem dX6_power_3 : decode cX6_power 3 = .ok (.istore_n 3, 1) := by decide +kernel
theorem dX6_power_4 : decode cX6_power 4 = .ok (.iload_n 3, 1) := by decide +kernel
theorem dX6_power_5 : decode cX6_power 5 = .ok (.iload_n 1, 1) := by decide +kernel
theorem dX6_power_6 : decode cX6_power 6 = .ok (.if_icmp .ge 13, 3) := by decide +kernel
theorem dX6_power_9 : decode cX6_power 9 = .ok (.iload_n 2, 1) := by decide +kernel
theorem dX6_power_10 : decode cX6_power 10 = .ok (.iload_n 0, 1) := by decide +kernel
theorem dX6_power_11 : decode cX6_power 11 = .ok (.imul, 1) := by decide +kernel
theorem dX6_power_12 : decode cX6_power 12 = .ok (.istore_n 2, 1) := by decide +kernel
theorem dX6_power_13 : decode cX6_power 13 = .ok (.iinc 3 1, 3) := by decide +kernel
theorem dX6_power_16 : decode cX6_power 16 = .ok (.goto (-12), 3) := by decide +kernel
theorem dX6_power_19 : decode cX6_power 19 = .ok (.iload_n 2, 1) := by decide +kernel
theorem dX6_power_20 : decode cX6_power 20 = .ok (.ireturn, 1) := by decide +kernel
theorem dX6_commonDivisor_0 : decode cX6_commonDivisor 0 = .ok (.iload_n 0, 1) := by decide +kernel
theorem dX6_commonDivisor_1 : decode cX6_commonDivisor 1 = .ok (.istore_n 2, 1) := by decide +kernel
theorem dX6_commonDivisor_2 : decode cX6_commonDivisor 2 = .ok (.iload_n 1, 1) := by decide +kernel
theorem dX6_commonDivisor_3 : decode cX6_commonDivisor 3 = .ok (.istore_n 3, 1) := by decide +kernel
theorem dX6_commonDivisor_4 : decode cX6_commonDivisor 4 = .ok (.iconst 0, 1) := by decide +kernel
theorem dX6_commonDivisor_5 : decode cX6_commonDivisor 5 = .ok (.istore 4, 2) := by decide +kernel
theorem dX6_commonDivisor_7 : decode cX6_commonDivisor 7 = .ok (.iload 4, 2) := by decide +kernel
theorem dX6_commonDivisor_9 : decode cX6_commonDivisor 9 = .ok (.bipush 50, 2) := by decide +kernel
theorem dX6_commonDivisor_11 : decode cX6_commonDivisor 11 = .ok (.if_icmp .ge 23, 3) := by decide +kernel
theorem dX6_commonDivisor_14 : decode cX6_commonDivisor 14 = .ok (.iload_n 3, 1) := by decide +kernel
theorem dX6_commonDivisor_15 : decode cX6_commonDivisor 15 = .ok (.ifCond .le 19, 3) := by decide +kernel
theorem dX6_commonDivisor_18 : decode cX6_commonDivisor 18 = .ok (.iload_n 2, 1) := by decide +kernel
theorem dX6_commonDivisor_19 : decode cX6_commonDivisor 19 = .ok (.iload_n 3, 1) := by decide +kernel
theorem dX6_commonDivisor_20 : decode cX6_commonDivisor 20 = .ok (.irem, 1) := by decide +kernel
theorem dX6_commonDivisor_21 : decode cX6_commonDivisor 21 = .ok (.istore 5, 2) := by decide +kernel
theorem dX6_commonDivisor_23 : decode cX6_commonDivisor 23 = .ok (.iload_n 3, 1) := by decide +kernel
theorem dX6_commonDivisor_24 : decode cX6_commonDivisor 24 = .ok (.istore_n 2, 1) := by decide +kernel
theorem dX6_commonDivisor_25 : decode cX6_commonDivisor 25 = .ok (.iload 5, 2) := by decide +kernel
theorem dX6_commonDivisor_27 : decode cX6_commonDivisor 27 = .ok (.istore_n 3, 1) := by decide +kernel
theorem dX6_commonDivisor_28 : decode cX6_commonDivisor 28 = .ok (.iinc 4 1, 3) := by decide +kernel
theorem dX6_commonDivisor_31 : decode cX6_commonDivisor 31 = .ok (.goto (-24), 3) := by decide +kernel
theorem dX6_commonDivisor_34 : decode cX6_commonDivisor 34 = .ok (.iload_n 2, 1) := by decide +kernel
theorem dX6_commonDivisor_35 : decode cX6_commonDivisor 35 = .ok (.ireturn, 1) := by decide +kernel
set_option maxRecDepth 20000 in
theorem ggX6_canBeDugNow_X2_dug : GoodIn wsX6_canBeDugNow wsX2_dug := goodIn_r _ [7, 8, 44, 45] (by decide +kernel) (by decide +kernel)
set_option maxRecDepth 20000 in
theorem gX6_canBeDugNow_X2_dug : GoodIn wsX6_canBeDugNow (wsV RX6 103 RX2 yX2_dug wsX2_dug) := goodIn_app (goodIn_of _ (by decide +kernel)) ggX6_canBeDugNow_X2_dug
set_option maxRecDepth 20000 in
theorem ggX6_canBeDugNow_X4_openFrom : GoodIn wsX6_canBeDugNow wsX4_openFrom := goodIn_r _ [13, 14, 15, 16, 17, 18, 12, 19, 20, 21, 22, 46, 47, 48, 49, 50, 51, 52] (by decide +kernel) (by decide +kernel)
set_option maxRecDepth 20000 in
theorem gX6_canBeDugNow_X4_openFrom : GoodIn wsX6_canBeDugNow (wsV RX6 290 RX4 yX4_openFrom wsX4_openFrom) := goodIn_app (goodIn_of _ (by decide +kernel)) ggX6_canBeDugNow_X4_openFrom
theorem dX6_canBeDugNow_0 : decode cX6_canBeDugNow 0 = .ok (.aload_n 0, 1) := by decide +kernel
theorem dX6_canBeDugNow_1 : decode cX6_canBeDugNow 1 = .ok (.getfield 19, 3) := by decide +kernel
theorem dX6_canBeDugNow_4 : decode cX6_canBeDugNow 4 = .ok (.getfield 85, 3) := by decide +kernel
theorem dX6_canBeDugNow_7 : decode cX6_canBeDugNow 7 = .ok (.aload_n 0, 1) := by decide +kernel
theorem dX6_canBeDugNow_8 : decode cX6_canBeDugNow 8 = .ok (.getfield 29, 3) := by decide +kernel
theorem dX6_canBeDugNow_11 : decode cX6_canBeDugNow 11 = .ok (.invokevirtual 103, 3) := by decide +kernel
