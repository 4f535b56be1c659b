theorem dX3_readLetter_28 : decode cX3_readLetter 28 = .ok (.getfield 24, 3) := by decide +kernel
theorem dX3_readLetter_31 : decode cX3_readLetter 31 = .ok (.iconst 1, 1) := by decide +kernel
theorem dX3_readLetter_32 : decode cX3_readLetter 32 = .ok (.iadd, 1) := by decide +kernel
theorem dX3_readLetter_33 : decode cX3_readLetter 33 = .ok (.putfield 24, 3) := by decide +kernel
theorem dX3_readLetter_36 : decode cX3_readLetter 36 = .ok (.aload_n 0, 1) := by decide +kernel
theorem dX3_readLetter_37 : decode cX3_readLetter 37 = .ok (.getfield 9, 3) := by decide +kernel
theorem dX3_readLetter_40 : decode cX3_readLetter 40 = .ok (.aload_n 0, 1) := by decide +kernel
theorem dX3_readLetter_41 : decode cX3_readLetter 41 = .ok (.getfield 30, 3) := by decide +kernel
theorem dX3_readLetter_44 : decode cX3_readLetter 44 = .ok (.caload, 1) := by decide +kernel
theorem dX3_readLetter_45 : decode cX3_readLetter 45 = .ok (.ireturn, 1) := by decide +kernel
set_option maxRecDepth 20000 in
theorem ggX3_readFigure_X3_findToken : GoodIn wsX3_readFigure wsX3_findToken := goodIn_r _ [8, 1, 9, 2, 3, 17, 18, 19, 20] (by decide +kernel) (by decide +kernel)
set_option maxRecDepth 20000 in
theorem gX3_readFigure_X3_findToken : GoodIn wsX3_readFigure (wsV RX3 27 RX3 yX3_findToken wsX3_findToken) := goodIn_app (goodIn_of _ (by decide +kernel)) ggX3_readFigure_X3_findToken
set_option maxRecDepth 20000 in
theorem ggX3_readFigure_X3_isDigitAt : GoodIn wsX3_readFigure wsX3_isDigitAt := goodIn_r _ [13, 9, 2, 14, 15, 16, 17, 18, 19, 20] (by decide +kernel) (by decide +kernel)
set_option maxRecDepth 20000 in
theorem gX3_readFigure_X3_isDigitAt : GoodIn wsX3_readFigure (wsV RX3 117 RX3 yX3_isDigitAt wsX3_isDigitAt) := goodIn_app (goodIn_of _ (by decide +kernel)) ggX3_readFigure_X3_isDigitAt
theorem dX3_readFigure_0 : decode cX3_readFigure 0 = .ok (.aload_n 0, 1) := by decide +kernel
theorem dX3_readFigure_1 : decode cX3_readFigure 1 = .ok (.invokevirtual 27, 3) := by decide +kernel
theorem dX3_readFigure_4 : decode cX3_readFigure 4 = .ok (.aload_n 0, 1) := by decide +kernel
theorem dX3_readFigure_5 : decode cX3_readFigure 5 = .ok (.aload_n 0, 1) := by decide +kernel
theorem dX3_readFigure_6 : decode cX3_readFigure 6 = .ok (.getfield 24, 3) := by decide +kernel
theorem dX3_readFigure_9 : decode cX3_readFigure 9 = .ok (.invokevirtual 117, 3) := by decide +kernel
theorem dX3_readFigure_12 : decode cX3_readFigure 12 = .ok (.ifCond .ne 5, 3) := by decide +kernel
theorem dX3_readFigure_15 : decode cX3_readFigure 15 = .ok (.iconst (-1), 1) := by decide +kernel
theorem dX3_readFigure_16 : decode cX3_readFigure 16 = .ok (.ireturn, 1) := by decide +kernel
theorem dX3_readFigure_17 : decode cX3_readFigure 17 = .ok (.aload_n 0, 1) := by decide +kernel
theorem dX3_readFigure_18 : decode cX3_readFigure 18 = .ok (.dup, 1) := by decide +kernel
theorem dX3_readFigure_19 : decode cX3_readFigure 19 = .ok (.getfield 24, 3) := by decide +kernel
theorem dX3_readFigure_22 : decode cX3_readFigure 22 = .ok (.iconst 1, 1) := by decide +kernel
theorem dX3_readFigure_23 : decode cX3_readFigure 23 = .ok (.iadd, 1) := by decide +kernel
theorem dX3_readFigure_24 : decode cX3_readFigure 24 = .ok (.putfield 24, 3) := by decide +kernel
theorem dX3_readFigure_27 : decode cX3_readFigure 27 = .ok (.aload_n 0, 1) := by decide +kernel
theorem dX3_readFigure_28 : decode cX3_readFigure 28 = .ok (.getfield 9, 3) := by decide +kernel
theorem dX3_readFigure_31 : decode cX3_readFigure 31 = .ok (.aload_n 0, 1) := by decide +kernel
theorem dX3_readFigure_32 : decode cX3_readFigure 32 = .ok (.getfield 30, 3) := by decide +kernel
theorem dX3_readFigure_35 : decode cX3_readFigure 35 = .ok (.caload, 1) := by decide +kernel
theorem dX3_readFigure_36 : decode cX3_readFigure 36 = .ok (.bipush 48, 2) := by decide +kernel
theorem dX3_readFigure_38 : decode cX3_readFigure 38 = .ok (.isub, 1) := by decide +kernel
theorem dX3_readFigure_39 : decode cX3_readFigure 39 = .ok (.ireturn, 1) := by decide +kernel
set_option maxRecDepth 20000 in
theorem ggX3_readNumber_X3_findToken : GoodIn wsX3_readNumber wsX3_findToken := goodIn_r _ [9, 1, 2, 4, 3, 17, 18, 19, 20] (by decide +kernel) (by decide +kernel)
set_option maxRecDepth 20000 in
theorem gX3_readNumber_X3_findToken : GoodIn wsX3_readNumber (wsV RX3 27 RX3 yX3_findToken wsX3_findToken) := goodIn_app (goodIn_of _ (by decide +kernel)) ggX3_readNumber_X3_findToken
set_option maxRecDepth 20000 in
theorem ggX3_readNumber_X3_isDigitAt : GoodIn wsX3_readNumber wsX3_isDigitAt := goodIn_r _ [13, 2, 4, 14, 15, 16, 17, 18, 19, 20] (by decide +kernel) (by decide +kernel)
set_option maxRecDepth 20000 in
theorem gX3_readNumber_X3_isDigitAt : GoodIn wsX3_readNumber (wsV RX3 117 RX3 yX3_isDigitAt wsX3_isDigitAt) := goodIn_app (goodIn_of _ (by decide +kernel)) ggX3_readNumber_X3_isDigitAt
set_option maxRecDepth 20000 in
theorem ggX3_readNumber_X6_within : GoodIn wsX3_readNumber wsX6_within := goodIn_r _ [16] (by decide +kernel) (by decide +kernel)
set_option maxRecDepth 20000 in
theorem gX3_readNumber_X6_within_n109 : GoodIn wsX3_readNumber (wsX6_within) := ggX3_readNumber_X6_within
theorem dX3_readNumber_0 : decode cX3_readNumber 0 = .ok (.aload_n 0, 1) := by decide +kernel
theorem dX3_readNumber_1 : decode cX3_readNumber 1 = .ok (.invokevirtual 27, 3) := by decide +kernel
theorem dX3_readNumber_4 : decode cX3_readNumber 4 = .ok (.aload_n 0, 1) := by decide +kernel
theorem dX3_readNumber_5 : decode cX3_readNumber 5 = .ok (.getfield 24, 3) := by decide +kernel
theorem dX3_readNumber_8 : decode cX3_readNumber 8 = .ok (.aload_n 0, 1) := by decide +kernel
theorem dX3_readNumber_9 : decode cX3_readNumber 9 = .ok (.getfield 15, 3) := by decide +kernel
theorem dX3_readNumber_12 : decode cX3_readNumber 12 = .ok (.if_icmp .ge 27, 3) := by decide +kernel
theorem dX3_readNumber_15 : decode cX3_readNumber 15 = .ok (.aload_n 0, 1) := by decide +kernel
theorem dX3_readNumber_16 : decode cX3_readNumber 16 = .ok (.aload_n 0, 1) := by decide +kernel
theorem dX3_readNumber_17 : decode cX3_readNumber 17 = .ok (.getfield 24, 3) := by decide +kernel
theorem dX3_readNumber_20 : decode cX3_readNumber 20 = .ok (.invokevirtual 117, 3) := by decide +kernel
theorem dX3_readNumber_23 : decode cX3_readNumber 23 = .ok (.ifCond .eq 16, 3) := by decide +kernel
theorem dX3_readNumber_26 : decode cX3_readNumber 26 = .ok (.aload_n 0, 1) := by decide +kernel
theorem dX3_readNumber_27 : decode cX3_readNumber 27 = .ok (.dup, 1) := by decide +kernel
theorem dX3_readNumber_28 : decode cX3_readNumber 28 = .ok (.getfield 24, 3) := by decide +kernel
theorem dX3_readNumber_31 : decode cX3_readNumber 31 = .ok (.iconst 1, 1) := by decide +kernel
theorem dX3_readNumber_32 : decode cX3_readNumber 32 = .ok (.iadd, 1) := by decide +kernel
theorem dX3_readNumber_33 : decode cX3_readNumber 33 = .ok (.putfield 24, 3) := by decide +kernel
theorem dX3_readNumber_36 : decode cX3_readNumber 36 = .ok (.goto (-32), 3) := by decide +kernel
theorem dX3_readNumber_39 : decode cX3_readNumber 39 = .ok (.aload_n 0, 1) := by decide +kernel
theorem dX3_readNumber_40 : decode cX3_readNumber 40 = .ok (.getfield 24, 3) := by decide +kernel
theorem dX3_readNumber_43 : decode cX3_readNumber 43 = .ok (.aload_n 0, 1) := by decide +kernel
theorem dX3_readNumber_44 : decode cX3_readNumber 44 = .ok (.getfield 30, 3) := by decide +kernel
theorem dX3_readNumber_47 : decode cX3_readNumber 47 = .ok (.isub, 1) := by decide +kernel
theorem dX3_readNumber_48 : decode cX3_readNumber 48 = .ok (.istore_n 3, 1) := by decide +kernel
theorem dX3_readNumber_49 : decode cX3_readNumber 49 = .ok (.iload_n 3, 1) := by decide +kernel
theorem dX3_readNumber_50 : decode cX3_readNumber 50 = .ok (.iconst 1, 1) := by decide +kernel
theorem dX3_readNumber_51 : decode cX3_readNumber 51 = .ok (.if_icmp .lt 8, 3) := by decide +kernel
theorem dX3_readNumber_54 : decode cX3_readNumber 54 = .ok (.iload_n 3, 1) := by decide +kernel
theorem dX3_readNumber_55 : decode cX3_readNumber 55 = .ok (.iconst 2, 1) := by decide +kernel
theorem dX3_readNumber_56 : decode cX3_readNumber 56 = .ok (.if_icmp .le 5, 3) := by decide +kernel
theorem dX3_readNumber_59 : decode cX3_readNumber 59 = .ok (.iconst (-1), 1) := by decide +kernel
theorem dX3_readNumber_60 : decode cX3_readNumber 60 = .ok (.ireturn, 1) := by decide +kernel
theorem dX3_readNumber_61 : decode cX3_readNumber 61 = .ok (.aload_n 0, 1) := by decide +kernel
theorem dX3_readNumber_62 : decode cX3_readNumber 62 = .ok (.getfield 9, 3) := by decide +kernel
theorem dX3_readNumber_65 : decode cX3_readNumber 65 = .ok (.aload_n 0, 1) := by decide +kernel
theorem dX3_readNumber_66 : decode cX3_readNumber 66 = .ok (.getfield 30, 3) := by decide +kernel
theorem dX3_readNumber_69 : decode cX3_readNumber 69 = .ok (.caload, 1) := by decide +kernel
theorem dX3_readNumber_70 : decode cX3_readNumber 70 = .ok (.bipush 48, 2) := by decide +kernel
theorem dX3_readNumber_72 : decode cX3_readNumber 72 = .ok (.isub, 1) := by decide +kernel
theorem dX3_readNumber_73 : decode cX3_readNumber 73 = .ok (.istore 4, 2) := by decide +kernel
theorem dX3_readNumber_75 : decode cX3_readNumber 75 = .ok (.iload_n 3, 1) := by decide +kernel
theorem dX3_readNumber_76 : decode cX3_readNumber 76 = .ok (.iconst 2, 1) := by decide +kernel
theorem dX3_readNumber_77 : decode cX3_readNumber 77 = .ok (.if_icmp .ne 32, 3) := by decide +kernel
theorem dX3_readNumber_80 : decode cX3_readNumber 80 = .ok (.iload 4, 2) := by decide +kernel
theorem dX3_readNumber_82 : decode cX3_readNumber 82 = .ok (.ifCond .ne 5, 3) := by decide +kernel
theorem dX3_readNumber_85 : decode cX3_readNumber 85 = .ok (.iconst (-1), 1) := by decide +kernel
theorem dX3_readNumber_86 : decode cX3_readNumber 86 = .ok (.ireturn, 1) := by decide +kernel
theorem dX3_readNumber_87 : decode cX3_readNumber 87 = .ok (.bipush 10, 2) := by decide +kernel
theorem dX3_readNumber_89 : decode cX3_readNumber 89 = .ok (.iload 4, 2) := by decide +kernel
theorem dX3_readNumber_91 : decode cX3_readNumber 91 = .ok (.imul, 1) := by decide +kernel
theorem dX3_readNumber_92 : decode cX3_readNumber 92 = .ok (.aload_n 0, 1) := by decide +kernel
theorem dX3_readNumber_93 : decode cX3_readNumber 93 = .ok (.getfield 9, 3) := by decide +kernel
theorem dX3_readNumber_96 : decode cX3_readNumber 96 = .ok (.aload_n 0, 1) := by decide +kernel
theorem dX3_readNumber_97 : decode cX3_readNumber 97 = .ok (.getfield 30, 3) := by decide +kernel
theorem dX3_readNumber_100 : decode cX3_readNumber 100 = .ok (.iconst 1, 1) := by decide +kernel
theorem dX3_readNumber_101 : decode cX3_readNumber 101 = .ok (.iadd, 1) := by decide +kernel
theorem dX3_readNumber_102 : decode cX3_readNumber 102 = .ok (.caload, 1) := by decide +kernel
theorem dX3_readNumber_103 : decode cX3_readNumber 103 = .ok (.iadd, 1) := by decide +kernel
theorem dX3_readNumber_104 : decode cX3_readNumber 104 = .ok (.bipush 48, 2) := by decide +kernel
theorem dX3_readNumber_106 : decode cX3_readNumber 106 = .ok (.isub, 1) := by decide +kernel
theorem dX3_readNumber_107 : decode cX3_readNumber 107 = .ok (.istore 4, 2) := by decide +kernel
theorem dX3_readNumber_109 : decode cX3_readNumber 109 = .ok (.iload 4, 2) := by decide +kernel
theorem dX3_readNumber_111 : decode cX3_readNumber 111 = .ok (.iload_n 1, 1) := by decide +kernel
theorem dX3_readNumber_112 : decode cX3_readNumber 112 = .ok (.iload_n 2, 1) := by decide +kernel
theorem dX3_readNumber_113 : decode cX3_readNumber 113 = .ok (.invokestatic 109, 3) := by decide +kernel
theorem dX3_readNumber_116 : decode cX3_readNumber 116 = .ok (.ifCond .eq 8, 3) := by decide +kernel
theorem dX3_readNumber_119 : decode cX3_readNumber 119 = .ok (.iload 4, 2) := by decide +kernel
theorem dX3_readNumber_121 : decode cX3_readNumber 121 = .ok (.goto 4, 3) := by decide +kernel
theorem dX3_readNumber_124 : decode cX3_readNumber 124 = .ok (.iconst (-1), 1) := by decide +kernel
theorem dX3_readNumber_125 : decode cX3_readNumber 125 = .ok (.ireturn, 1) := by decide +kernel
set_option maxRecDepth 20000 in
theorem ggX3_readEnd_X3_findToken : GoodIn wsX3_readEnd wsX3_findToken := goodIn_r _ [8, 1, 2, 3, 9, 10, 11, 12, 13] (by decide +kernel) (by decide +kernel)
set_option maxRecDepth 20000 in
theorem gX3_readEnd_X3_findToken : GoodIn wsX3_readEnd (wsV RX3 27 RX3 yX3_findToken wsX3_findToken) := goodIn_app (goodIn_of _ (by decide +kernel)) ggX3_readEnd_X3_findToken
theorem dX3_readEnd_0 : decode cX3_readEnd 0 = .ok (.aload_n 0, 1) := by decide +kernel
theorem dX3_readEnd_1 : decode cX3_readEnd 1 = .ok (.invokevirtual 27, 3) := by decide +kernel
theorem dX3_readEnd_4 : decode cX3_readEnd 4 = .ok (.aload_n 0, 1) := by decide +kernel
theorem dX3_readEnd_5 : decode cX3_readEnd 5 = .ok (.getfield 24, 3) := by decide +kernel
theorem dX3_readEnd_8 : decode cX3_readEnd 8 = .ok (.aload_n 0, 1) := by decide +kernel
theorem dX3_readEnd_9 : decode cX3_readEnd 9 = .ok (.getfield 15, 3) := by decide +kernel
theorem dX3_readEnd_12 : decode cX3_readEnd 12 = .ok (.if_icmp .ge 17, 3) := by decide +kernel
theorem dX3_readEnd_15 : decode cX3_readEnd 15 = .ok (.aload_n 0, 1) := by decide +kernel
theorem dX3_readEnd_16 : decode cX3_readEnd 16 = .ok (.getfield 9, 3) := by decide +kernel
theorem dX3_readEnd_19 : decode cX3_readEnd 19 = .ok (.aload_n 0, 1) := by decide +kernel
theorem dX3_readEnd_20 : decode cX3_readEnd 20 = .ok (.getfield 24, 3) := by decide +kernel
theorem dX3_readEnd_23 : decode cX3_readEnd 23 = .ok (.caload, 1) := by decide +kernel
theorem dX3_readEnd_24 : decode cX3_readEnd 24 = .ok (.bipush 59, 2) := by decide +kernel
theorem dX3_readEnd_26 : decode cX3_readEnd 26 = .ok (.if_icmp .eq 5, 3) := by decide +kernel
theorem dX3_readEnd_29 : decode cX3_readEnd 29 = .ok (.iconst 0, 1) := by decide +kernel
theorem dX3_readEnd_30 : decode cX3_readEnd 30 = .ok (.ireturn, 1) := by decide +kernel
theorem dX3_readEnd_31 : decode cX3_readEnd 31 = .ok (.aload_n 0, 1) := by decide +kernel
theorem dX3_readEnd_32 : decode cX3_readEnd 32 = .ok (.dup, 1) := by decide +kernel
theorem dX3_readEnd_33 : decode cX3_readEnd 33 = .ok (.getfield 24, 3) := by decide +kernel
theorem dX3_readEnd_36 : decode cX3_readEnd 36 = .ok (.iconst 1, 1) := by decide +kernel
theorem dX3_readEnd_37 : decode cX3_readEnd 37 = .ok (.iadd, 1) := by decide +kernel
theorem dX3_readEnd_38 : decode cX3_readEnd 38 = .ok (.putfield 24, 3) := by decide +kernel
theorem dX3_readEnd_41 : decode cX3_readEnd 41 = .ok (.iconst 1, 1) := by decide +kernel
theorem dX3_readEnd_42 : decode cX3_readEnd 42 = .ok (.ireturn, 1) := by decide +kernel
theorem dX4_init_0 : decode cX4_init 0 = .ok (.aload_n 0, 1) := by decide +kernel
theorem dX4_init_1 : decode cX4_init 1 = .ok (.invokespecial 3, 3) := by decide +kernel
theorem dX4_init_4 : decode cX4_init 4 = .ok (.aload_n 0, 1) := by decide +kernel
theorem dX4_init_5 : decode cX4_init 5 = .ok (.bipush 16, 2) := by decide +kernel
theorem dX4_init_7 : decode cX4_init 7 = .ok (.newarray .int, 2) := by decide +kernel
theorem dX4_init_9 : decode cX4_init 9 = .ok (.putfield 9, 3) := by decide +kernel
theorem dX4_init_12 : decode cX4_init 12 = .ok (.return_, 1) := by decide +kernel
set_option maxRecDepth 20000 in
theorem ggX4_shape_X4_bitOf : GoodIn wsX4_shape wsX4_bitOf := goodIn_r _ [12, 1, 13, 14, 15, 16, 17, 18, 19] (by decide +kernel) (by decide +kernel)
set_option maxRecDepth 20000 in
theorem gX4_shape_X4_bitOf : GoodIn wsX4_shape (wsV RX4 34 RX4 yX4_bitOf wsX4_bitOf) := goodIn_app (goodIn_of _ (by decide +kernel)) ggX4_shape_X4_bitOf
theorem dX4_shape_0 : decode cX4_shape 0 = .ok (.aload_n 0, 1) := by decide +kernel
theorem dX4_shape_1 : decode cX4_shape 1 = .ok (.iload_n 1, 1) := by decide +kernel
theorem dX4_shape_2 : decode cX4_shape 2 = .ok (.putfield 15, 3) := by decide +kernel
theorem dX4_shape_5 : decode cX4_shape 5 = .ok (.aload_n 0, 1) := by decide +kernel
theorem dX4_shape_6 : decode cX4_shape 6 = .ok (.iload_n 2, 1) := by decide +kernel
theorem dX4_shape_7 : decode cX4_shape 7 = .ok (.putfield 19, 3) := by decide +kernel
theorem dX4_shape_10 : decode cX4_shape 10 = .ok (.iconst 0, 1) := by decide +kernel
theorem dX4_shape_11 : decode cX4_shape 11 = .ok (.istore_n 3, 1) := by decide +kernel
theorem dX4_shape_12 : decode cX4_shape 12 = .ok (.iload_n 3, 1) := by decide +kernel
theorem dX4_shape_13 : decode cX4_shape 13 = .ok (.bipush 16, 2) := by decide +kernel
theorem dX4_shape_15 : decode cX4_shape 15 = .ok (.if_icmp .ge 16, 3) := by decide +kernel
theorem dX4_shape_18 : decode cX4_shape 18 = .ok (.aload_n 0, 1) := by decide +kernel
theorem dX4_shape_19 : decode cX4_shape 19 = .ok (.getfield 9, 3) := by decide +kernel
theorem dX4_shape_22 : decode cX4_shape 22 = .ok (.iload_n 3, 1) := by decide +kernel
theorem dX4_shape_23 : decode cX4_shape 23 = .ok (.iconst 0, 1) := by decide +kernel
theorem dX4_shape_24 : decode cX4_shape 24 = .ok (.iastore, 1) := by decide +kernel
theorem dX4_shape_25 : decode cX4_shape 25 = .ok (.iinc 3 1, 3) := by decide +kernel
theorem dX4_shape_28 : decode cX4_shape 28 = .ok (.goto (-16), 3) := by decide +kernel
theorem dX4_shape_31 : decode cX4_shape 31 = .ok (.aload_n 0, 1) := by decide +kernel
theorem dX4_shape_32 : decode cX4_shape 32 = .ok (.iconst 1, 1) := by decide +kernel
theorem dX4_shape_33 : decode cX4_shape 33 = .ok (.aload_n 0, 1) := by decide +kernel
theorem dX4_shape_34 : decode cX4_shape 34 = .ok (.getfield 15, 3) := by decide +kernel
theorem dX4_shape_37 : decode cX4_shape 37 = .ok (.aload_n 0, 1) := by decide +kernel
theorem dX4_shape_38 : decode cX4_shape 38 = .ok (.getfield 19, 3) := by decide +kernel
theorem dX4_shape_41 : decode cX4_shape 41 = .ok (.imul, 1) := by decide +kernel
theorem dX4_shape_42 : decode cX4_shape 42 = .ok (.ishl, 1) := by decide +kernel
theorem dX4_shape_43 : decode cX4_shape 43 = .ok (.iconst 1, 1) := by decide +kernel
theorem dX4_shape_44 : decode cX4_shape 44 = .ok (.isub, 1) := by decide +kernel
theorem dX4_shape_45 : decode cX4_shape 45 = .ok (.putfield 22, 3) := by decide +kernel
theorem dX4_shape_48 : decode cX4_shape 48 = .ok (.aload_n 0, 1) := by decide +kernel
theorem dX4_shape_49 : decode cX4_shape 49 = .ok (.iconst 1, 1) := by decide +kernel
theorem dX4_shape_50 : decode cX4_shape 50 = .ok (.aload_n 0, 1) := by decide +kernel
theorem dX4_shape_51 : decode cX4_shape 51 = .ok (.getfield 15, 3) := by decide +kernel
theorem dX4_shape_54 : decode cX4_shape 54 = .ok (.ishl, 1) := by decide +kernel
theorem dX4_shape_55 : decode cX4_shape 55 = .ok (.iconst 1, 1) := by decide +kernel
theorem dX4_shape_56 : decode cX4_shape 56 = .ok (.isub, 1) := by decide +kernel
theorem dX4_shape_57 : decode cX4_shape 57 = .ok (.putfield 25, 3) := by decide +kernel
theorem dX4_shape_60 : decode cX4_shape 60 = .ok (.aload_n 0, 1) := by decide +kernel
theorem dX4_shape_61 : decode cX4_shape 61 = .ok (.iconst 0, 1) := by decide +kernel
theorem dX4_shape_62 : decode cX4_shape 62 = .ok (.putfield 28, 3) := by decide +kernel
theorem dX4_shape_65 : decode cX4_shape 65 = .ok (.aload_n 0, 1) := by decide +kernel
theorem dX4_shape_66 : decode cX4_shape 66 = .ok (.iconst 0, 1) := by decide +kernel
theorem dX4_shape_67 : decode cX4_shape 67 = .ok (.putfield 31, 3) := by decide +kernel
theorem dX4_shape_70 : decode cX4_shape 70 = .ok (.iconst 0, 1) := by decide +kernel
theorem dX4_shape_71 : decode cX4_shape 71 = .ok (.istore_n 3, 1) := by decide +kernel
theorem dX4_shape_72 : decode cX4_shape 72 = .ok (.iload_n 3, 1) := by decide +kernel
theorem dX4_shape_73 : decode cX4_shape 73 = .ok (.aload_n 0, 1) := by decide +kernel
theorem dX4_shape_74 : decode cX4_shape 74 = .ok (.getfield 19, 3) := by decide +kernel
theorem dX4_shape_77 : decode cX4_shape 77 = .ok (.if_icmp .ge 44, 3) := by decide +kernel
theorem dX4_shape_80 : decode cX4_shape 80 = .ok (.aload_n 0, 1) := by decide +kernel
theorem dX4_shape_81 : decode cX4_shape 81 = .ok (.dup, 1) := by decide +kernel
theorem dX4_shape_82 : decode cX4_shape 82 = .ok (.getfield 28, 3) := by decide +kernel
theorem dX4_shape_85 : decode cX4_shape 85 = .ok (.aload_n 0, 1) := by decide +kernel
theorem dX4_shape_86 : decode cX4_shape 86 = .ok (.iconst 0, 1) := by decide +kernel
theorem dX4_shape_87 : decode cX4_shape 87 = .ok (.iload_n 3, 1) := by decide +kernel
theorem dX4_shape_88 : decode cX4_shape 88 = .ok (.invokevirtual 34, 3) := by decide +kernel
theorem dX4_shape_91 : decode cX4_shape 91 = .ok (.ior, 1) := by decide +kernel
theorem dX4_shape_92 : decode cX4_shape 92 = .ok (.putfield 28, 3) := by decide +kernel
theorem dX4_shape_95 : decode cX4_shape 95 = .ok (.aload_n 0, 1) := by decide +kernel
theorem dX4_shape_96 : decode cX4_shape 96 = .ok (.dup, 1) := by decide +kernel
theorem dX4_shape_97 : decode cX4_shape 97 = .ok (.getfield 31, 3) := by decide +kernel
theorem dX4_shape_100 : decode cX4_shape 100 = .ok (.aload_n 0, 1) := by decide +kernel
theorem dX4_shape_101 : decode cX4_shape 101 = .ok (.aload_n 0, 1) := by decide +kernel
theorem dX4_shape_102 : decode cX4_shape 102 = .ok (.getfield 15, 3) := by decide +kernel
theorem dX4_shape_105 : decode cX4_shape 105 = .ok (.iconst 1, 1) := by decide +kernel
theorem dX4_shape_106 : decode cX4_shape 106 = .ok (.isub, 1) := by decide +kernel
theorem dX4_shape_107 : decode cX4_shape 107 = .ok (.iload_n 3, 1) := by decide +kernel
theorem dX4_shape_108 : decode cX4_shape 108 = .ok (.invokevirtual 34, 3) := by decide +kernel
theorem dX4_shape_111 : decode cX4_shape 111 = .ok (.ior, 1) := by decide +kernel
theorem dX4_shape_112 : decode cX4_shape 112 = .ok (.putfield 31, 3) := by decide +kernel
theorem dX4_shape_115 : decode cX4_shape 115 = .ok (.iinc 3 1, 3) := by decide +kernel
theorem dX4_shape_118 : decode cX4_shape 118 = .ok (.goto (-46), 3) := by decide +kernel
theorem dX4_shape_121 : decode cX4_shape 121 = .ok (.return_, 1) := by decide +kernel
theorem dX4_cells_0 : decode cX4_cells 0 = .ok (.aload_n 0, 1) := by decide +kernel
theorem dX4_cells_1 : decode cX4_cells 1 = .ok (.getfield 15, 3) := by decide +kernel
theorem dX4_cells_4 : decode cX4_cells 4 = .ok (.aload_n 0, 1) := by decide +kernel
theorem dX4_cells_5 : decode cX4_cells 5 = .ok (.getfield 19, 3) := by decide +kernel
theorem dX4_cells_8 : decode cX4_cells 8 = .ok (.imul, 1) := by decide +kernel
theorem dX4_cells_9 : decode cX4_cells 9 = .ok (.ireturn, 1) := by decide +kernel
set_option maxRecDepth 20000 in
theorem ggX4_holds_X6_within : GoodIn wsX4_holds wsX6_within := goodIn_r _ [5] (by decide +kernel) (by decide +kernel)
set_option maxRecDepth 20000 in
theorem gX4_holds_X6_within_n38 : GoodIn wsX4_holds (wsX6_within) := ggX4_holds_X6_within
theorem dX4_holds_0 : decode cX4_holds 0 = .ok (.iload_n 1, 1) := by decide +kernel
theorem dX4_holds_1 : decode cX4_holds 1 = .ok (.iconst 0, 1) := by decide +kernel
theorem dX4_holds_2 : decode cX4_holds 2 = .ok (.aload_n 0, 1) := by decide +kernel
theorem dX4_holds_3 : decode cX4_holds 3 = .ok (.getfield 15, 3) := by decide +kernel
theorem dX4_holds_6 : decode cX4_holds 6 = .ok (.iconst 1, 1) := by decide +kernel
theorem dX4_holds_7 : decode cX4_holds 7 = .ok (.isub, 1) := by decide +kernel
theorem dX4_holds_8 : decode cX4_holds 8 = .ok (.invokestatic 38, 3) := by decide +kernel
theorem dX4_holds_11 : decode cX4_holds 11 = .ok (.ifCond .eq 21, 3) := by decide +kernel
theorem dX4_holds_14 : decode cX4_holds 14 = .ok (.iload_n 2, 1) := by decide +kernel
theorem dX4_holds_15 : decode cX4_holds 15 = .ok (.iconst 0, 1) := by decide +kernel
theorem dX4_holds_16 : decode cX4_holds 16 = .ok (.aload_n 0, 1) := by decide +kernel
theorem dX4_holds_17 : decode cX4_holds 17 = .ok (.getfield 19, 3) := by decide +kernel
theorem dX4_holds_20 : decode cX4_holds 20 = .ok (.iconst 1, 1) := by decide +kernel
theorem dX4_holds_21 : decode cX4_holds 21 = .ok (.isub, 1) := by decide +kernel
theorem dX4_holds_22 : decode cX4_holds 22 = .ok (.invokestatic 38, 3) := by decide +kernel
theorem dX4_holds_25 : decode cX4_holds 25 = .ok (.ifCond .eq 7, 3) := by decide +kernel
theorem dX4_holds_28 : decode cX4_holds 28 = .ok (.iconst 1, 1) := by decide +kernel
theorem dX4_holds_29 : decode cX4_holds 29 = .ok (.goto 4, 3) := by decide +kernel
theorem dX4_holds_32 : decode cX4_holds 32 = .ok (.iconst 0, 1) := by decide +kernel
theorem dX4_holds_33 : decode cX4_holds 33 = .ok (.ireturn, 1) := by decide +kernel
theorem dX4_bitOf_0 : decode cX4_bitOf 0 = .ok (.iconst 1, 1) := by decide +kernel
theorem dX4_bitOf_1 : decode cX4_bitOf 1 = .ok (.aload_n 0, 1) := by decide +kernel
theorem dX4_bitOf_2 : decode cX4_bitOf 2 = .ok (.getfield 15, 3) := by decide +kernel
theorem dX4_bitOf_5 : decode cX4_bitOf 5 = .ok (.iload_n 2, 1) := by decide +kernel
theorem dX4_bitOf_6 : decode cX4_bitOf 6 = .ok (.imul, 1) := by decide +kernel
theorem dX4_bitOf_7 : decode cX4_bitOf 7 = .ok (.iload_n 1, 1) := by decide +kernel
theorem dX4_bitOf_8 : decode cX4_bitOf 8 = .ok (.iadd, 1) := by decide +kernel
theorem dX4_bitOf_9 : decode cX4_bitOf 9 = .ok (.ishl, 1) := by decide +kernel
theorem dX4_bitOf_10 : decode cX4_bitOf 10 = .ok (.ireturn, 1) := by decide +kernel
set_option maxRecDepth 20000 in
theorem ggX4_pairOf_X6_quotient : GoodIn wsX4_pairOf wsX6_quotient := goodIn_r _ [4] (by decide +kernel) (by decide +kernel)
set_option maxRecDepth 20000 in
theorem gX4_pairOf_X6_quotient_n42 : GoodIn wsX4_pairOf (wsX6_quotient) := ggX4_pairOf_X6_quotient
theorem dX4_pairOf_0 : decode cX4_pairOf 0 = .ok (.iload_n 1, 1) := by decide +kernel
theorem dX4_pairOf_1 : decode cX4_pairOf 1 = .ok (.aload_n 0, 1) := by decide +kernel
theorem dX4_pairOf_2 : decode cX4_pairOf 2 = .ok (.getfield 15, 3) := by decide +kernel
theorem dX4_pairOf_5 : decode cX4_pairOf 5 = .ok (.invokestatic 42, 3) := by decide +kernel
theorem dX4_pairOf_8 : decode cX4_pairOf 8 = .ok (.istore_n 2, 1) := by decide +kernel
theorem dX4_pairOf_9 : decode cX4_pairOf 9 = .ok (.bipush 10, 2) := by decide +kernel
theorem dX4_pairOf_11 : decode cX4_pairOf 11 = .ok (.iload_n 1, 1) := by decide +kernel
theorem dX4_pairOf_12 : decode cX4_pairOf 12 = .ok (.aload_n 0, 1) := by decide +kernel
theorem dX4_pairOf_13 : decode cX4_pairOf 13 = .ok (.getfield 15, 3) := by decide +kernel
theorem dX4_pairOf_16 : decode cX4_pairOf 16 = .ok (.iload_n 2, 1) := by decide +kernel
theorem dX4_pairOf_17 : decode cX4_pairOf 17 = .ok (.imul, 1) := by decide +kernel
theorem dX4_pairOf_18 : decode cX4_pairOf 18 = .ok (.isub, 1) := by decide +kernel
theorem dX4_pairOf_19 : decode cX4_pairOf 19 = .ok (.imul, 1) := by decide +kernel
theorem dX4_pairOf_20 : decode cX4_pairOf 20 = .ok (.iload_n 2, 1) := by decide +kernel
theorem dX4_pairOf_21 : decode cX4_pairOf 21 = .ok (.iadd, 1) := by decide +kernel
theorem dX4_pairOf_22 : decode cX4_pairOf 22 = .ok (.ireturn, 1) := by decide +kernel
theorem dX4_partsIn_0 : decode cX4_partsIn 0 = .ok (.iconst 0, 1) := by decide +kernel
theorem dX4_partsIn_1 : decode cX4_partsIn 1 = .ok (.istore_n 2, 1) := by decide +kernel
theorem dX4_partsIn_2 : decode cX4_partsIn 2 = .ok (.iconst 0, 1) := by decide +kernel
theorem dX4_partsIn_3 : decode cX4_partsIn 3 = .ok (.istore_n 3, 1) := by decide +kernel
theorem dX4_partsIn_4 : decode cX4_partsIn 4 = .ok (.iload_n 3, 1) := by decide +kernel
theorem dX4_partsIn_5 : decode cX4_partsIn 5 = .ok (.bipush 16, 2) := by decide +kernel
theorem dX4_partsIn_7 : decode cX4_partsIn 7 = .ok (.if_icmp .ge 26, 3) := by decide +kernel
theorem dX4_partsIn_10 : decode cX4_partsIn 10 = .ok (.iload_n 1, 1) := by decide +kernel
theorem dX4_partsIn_11 : decode cX4_partsIn 11 = .ok (.iload_n 3, 1) := by decide +kernel
theorem dX4_partsIn_12 : decode cX4_partsIn 12 = .ok (.ishr, 1) := by decide +kernel
theorem dX4_partsIn_13 : decode cX4_partsIn 13 = .ok (.iconst 1, 1) := by decide +kernel
theorem dX4_partsIn_14 : decode cX4_partsIn 14 = .ok (.iand, 1) := by decide +kernel
theorem dX4_partsIn_15 : decode cX4_partsIn 15 = .ok (.ifCond .eq 12, 3) := by decide +kernel
theorem dX4_partsIn_18 : decode cX4_partsIn 18 = .ok (.iload_n 2, 1) := by decide +kernel
theorem dX4_partsIn_19 : decode cX4_partsIn 19 = .ok (.aload_n 0, 1) := by decide +kernel
theorem dX4_partsIn_20 : decode cX4_partsIn 20 = .ok (.getfield 9, 3) := by decide +kernel
theorem dX4_partsIn_23 : decode cX4_partsIn 23 = .ok (.iload_n 3, 1) := by decide +kernel
theorem dX4_partsIn_24 : decode cX4_partsIn 24 = .ok (.iaload, 1) := by decide +kernel
theorem dX4_partsIn_25 : decode cX4_partsIn 25 = .ok (.iadd, 1) := by decide +kernel
theorem dX4_partsIn_26 : decode cX4_partsIn 26 = .ok (.istore_n 2, 1) := by decide +kernel
theorem dX4_partsIn_27 : decode cX4_partsIn 27 = .ok (.iinc 3 1, 3) := by decide +kernel
theorem dX4_partsIn_30 : decode cX4_partsIn 30 = .ok (.goto (-26), 3) := by decide +kernel
theorem dX4_partsIn_33 : decode cX4_partsIn 33 = .ok (.iload_n 2, 1) := by decide +kernel
theorem dX4_partsIn_34 : decode cX4_partsIn 34 = .ok (.ireturn, 1) := by decide +kernel
theorem dX4_beside_0 : decode cX4_beside 0 = .ok (.iload_n 1, 1) := by decide +kernel
theorem dX4_beside_1 : decode cX4_beside 1 = .ok (.aload_n 0, 1) := by decide +kernel
theorem dX4_beside_2 : decode cX4_beside 2 = .ok (.getfield 28, 3) := by decide +kernel
theorem dX4_beside_5 : decode cX4_beside 5 = .ok (.iconst (-1), 1) := by decide +kernel
theorem dX4_beside_6 : decode cX4_beside 6 = .ok (.ixor, 1) := by decide +kernel
theorem dX4_beside_7 : decode cX4_beside 7 = .ok (.iand, 1) := by decide +kernel
theorem dX4_beside_8 : decode cX4_beside 8 = .ok (.iconst 1, 1) := by decide +kernel
theorem dX4_beside_9 : decode cX4_beside 9 = .ok (.ishr, 1) := by decide +kernel
theorem dX4_beside_10 : decode cX4_beside 10 = .ok (.iload_n 1, 1) := by decide +kernel
theorem dX4_beside_11 : decode cX4_beside 11 = .ok (.aload_n 0, 1) := by decide +kernel
theorem dX4_beside_12 : decode cX4_beside 12 = .ok (.getfield 31, 3) := by decide +kernel
theorem dX4_beside_15 : decode cX4_beside 15 = .ok (.iconst (-1), 1) := by decide +kernel
theorem dX4_beside_16 : decode cX4_beside 16 = .ok (.ixor, 1) := by decide +kernel
theorem dX4_beside_17 : decode cX4_beside 17 = .ok (.iand, 1) := by decide +kernel
theorem dX4_beside_18 : decode cX4_beside 18 = .ok (.iconst 1, 1) := by decide +kernel
theorem dX4_beside_19 : decode cX4_beside 19 = .ok (.ishl, 1) := by decide +kernel
theorem dX4_beside_20 : decode cX4_beside 20 = .ok (.ior, 1) := by decide +kernel
theorem dX4_beside_21 : decode cX4_beside 21 = .ok (.istore_n 2, 1) := by decide +kernel
theorem dX4_beside_22 : decode cX4_beside 22 = .ok (.aload_n 0, 1) := by decide +kernel
theorem dX4_beside_23 : decode cX4_beside 23 = .ok (.getfield 22, 3) := by decide +kernel
theorem dX4_beside_26 : decode cX4_beside 26 = .ok (.iload_n 1, 1) := by decide +kernel
theorem dX4_beside_27 : decode cX4_beside 27 = .ok (.aload_n 0, 1) := by decide +kernel
theorem dX4_beside_28 : decode cX4_beside 28 = .ok (.getfield 15, 3) := by decide +kernel
theorem dX4_beside_31 : decode cX4_beside 31 = .ok (.ishr, 1) := by decide +kernel
theorem dX4_beside_32 : decode cX4_beside 32 = .ok (.iload_n 1, 1) := by decide +kernel
theorem dX4_beside_33 : decode cX4_beside 33 = .ok (.aload_n 0, 1) := by decide +kernel
theorem dX4_beside_34 : decode cX4_beside 34 = .ok (.getfield 15, 3) := by decide +kernel
theorem dX4_beside_37 : decode cX4_beside 37 = .ok (.ishl, 1) := by decide +kernel
theorem dX4_beside_38 : decode cX4_beside 38 = .ok (.ior, 1) := by decide +kernel
theorem dX4_beside_39 : decode cX4_beside 39 = .ok (.iload_n 2, 1) := by decide +kernel
theorem dX4_beside_40 : decode cX4_beside 40 = .ok (.ior, 1) := by decide +kernel
theorem dX4_beside_41 : decode cX4_beside 41 = .ok (.iand, 1) := by decide +kernel
theorem dX4_beside_42 : decode cX4_beside 42 = .ok (.ireturn, 1) := by decide +kernel
set_option maxRecDepth 20000 in
theorem ggX4_openFrom_X4_beside : GoodIn wsX4_openFrom wsX4_beside := goodIn_r _ [7, 8, 9, 1, 10, 11, 12, 13, 14, 15, 16, 17] (by decide +kernel) (by decide +kernel)
set_option maxRecDepth 20000 in
theorem gX4_openFrom_X4_beside : GoodIn wsX4_openFrom (wsV RX4 45 RX4 yX4_beside wsX4_beside) := goodIn_app (goodIn_of _ (by decide +kernel)) ggX4_openFrom_X4_beside
theorem dX4_openFrom_0 : decode cX4_openFrom 0 = .ok (.aload_n 0, 1) := by decide +kernel
theorem dX4_openFrom_1 : decode cX4_openFrom 1 = .ok (.getfield 22, 3) := by decide +kernel
theorem dX4_openFrom_4 : decode cX4_openFrom 4 = .ok (.iload_n 1, 1) := by decide +kernel
theorem dX4_openFrom_5 : decode cX4_openFrom 5 = .ok (.iconst (-1), 1) := by decide +kernel
theorem dX4_openFrom_6 : decode cX4_openFrom 6 = .ok (.ixor, 1) := by decide +kernel
theorem dX4_openFrom_7 : decode cX4_openFrom 7 = .ok (.iand, 1) := by decide +kernel
theorem dX4_openFrom_8 : decode cX4_openFrom 8 = .ok (.aload_n 0, 1) := by decide +kernel
theorem dX4_openFrom_9 : decode cX4_openFrom 9 = .ok (.getfield 25, 3) := by decide +kernel
theorem dX4_openFrom_12 : decode cX4_openFrom 12 = .ok (.aload_n 0, 1) := by decide +kernel
theorem dX4_openFrom_13 : decode cX4_openFrom 13 = .ok (.iload_n 1, 1) := by decide +kernel
theorem dX4_openFrom_14 : decode cX4_openFrom 14 = .ok (.invokevirtual 45, 3) := by decide +kernel
theorem dX4_openFrom_17 : decode cX4_openFrom 17 = .ok (.ior, 1) := by decide +kernel
theorem dX4_openFrom_18 : decode cX4_openFrom 18 = .ok (.iand, 1) := by decide +kernel
theorem dX4_openFrom_19 : decode cX4_openFrom 19 = .ok (.ireturn, 1) := by decide +kernel
set_option maxRecDepth 20000 in
theorem ggX4_canAllBeDug_X4_openFrom : GoodIn wsX4_canAllBeDug wsX4_openFrom := goodIn_r _ [5, 6, 7, 8, 9, 10, 4, 11, 12, 13, 14, 15, 16, 17, 18, 19, 20, 21] (by decide +kernel) (by decide +kernel)
set_option maxRecDepth 20000 in
theorem gX4_canAllBeDug_X4_openFrom : GoodIn wsX4_canAllBeDug (wsV RX4 49 RX4 yX4_openFrom wsX4_openFrom) := goodIn_app (goodIn_of _ (by decide +kernel)) ggX4_canAllBeDug_X4_openFrom
set_option maxRecDepth 20000 in
theorem ggX4_canAllBeDug_X4_beside : GoodIn wsX4_canAllBeDug wsX4_beside := goodIn_r _ [11, 12, 13, 6, 14, 15, 16, 17, 18, 19, 20, 21] (by decide +kernel) (by decide +kernel)
set_option maxRecDepth 20000 in
theorem gX4_canAllBeDug_X4_beside : GoodIn wsX4_canAllBeDug (wsV RX4 45 RX4 yX4_beside wsX4_beside) := goodIn_app (goodIn_of _ (by decide +kernel)) ggX4_canAllBeDug_X4_beside
theorem dX4_canAllBeDug_0 : decode cX4_canAllBeDug 0 = .ok (.iload_n 1, 1) := by decide +kernel
theorem dX4_canAllBeDug_1 : decode cX4_canAllBeDug 1 = .ok (.aload_n 0, 1) := by decide +kernel
theorem dX4_canAllBeDug_2 : decode cX4_canAllBeDug 2 = .ok (.iload_n 2, 1) := by decide +kernel
theorem dX4_canAllBeDug_3 : decode cX4_canAllBeDug 3 = .ok (.invokevirtual 49, 3) := by decide +kernel
theorem dX4_canAllBeDug_6 : decode cX4_canAllBeDug 6 = .ok (.iand, 1) := by decide +kernel
theorem dX4_canAllBeDug_7 : decode cX4_canAllBeDug 7 = .ok (.istore_n 3, 1) := by decide +kernel
theorem dX4_canAllBeDug_8 : decode cX4_canAllBeDug 8 = .ok (.iconst 0, 1) := by decide +kernel
theorem dX4_canAllBeDug_9 : decode cX4_canAllBeDug 9 = .ok (.istore 4, 2) := by decide +kernel
theorem dX4_canAllBeDug_11 : decode cX4_canAllBeDug 11 = .ok (.iload 4, 2) := by decide +kernel
theorem dX4_canAllBeDug_13 : decode cX4_canAllBeDug 13 = .ok (.bipush 16, 2) := by decide +kernel
theorem dX4_canAllBeDug_15 : decode cX4_canAllBeDug 15 = .ok (.if_icmp .ge 32, 3) := by decide +kernel
theorem dX4_canAllBeDug_18 : decode cX4_canAllBeDug 18 = .ok (.iload_n 3, 1) := by decide +kernel
theorem dX4_canAllBeDug_19 : decode cX4_canAllBeDug 19 = .ok (.iload_n 1, 1) := by decide +kernel
theorem dX4_canAllBeDug_20 : decode cX4_canAllBeDug 20 = .ok (.aload_n 0, 1) := by decide +kernel
theorem dX4_canAllBeDug_21 : decode cX4_canAllBeDug 21 = .ok (.iload_n 3, 1) := by decide +kernel
theorem dX4_canAllBeDug_22 : decode cX4_canAllBeDug 22 = .ok (.invokevirtual 45, 3) := by decide +kernel
theorem dX4_canAllBeDug_25 : decode cX4_canAllBeDug 25 = .ok (.iand, 1) := by decide +kernel
theorem dX4_canAllBeDug_26 : decode cX4_canAllBeDug 26 = .ok (.ior, 1) := by decide +kernel
theorem dX4_canAllBeDug_27 : decode cX4_canAllBeDug 27 = .ok (.istore 5, 2) := by decide +kernel
theorem dX4_canAllBeDug_29 : decode cX4_canAllBeDug 29 = .ok (.iload 5, 2) := by decide +kernel
theorem dX4_canAllBeDug_31 : decode cX4_canAllBeDug 31 = .ok (.iload_n 3, 1) := by decide +kernel
theorem dX4_canAllBeDug_32 : decode cX4_canAllBeDug 32 = .ok (.if_icmp .ne 6, 3) := by decide +kernel
theorem dX4_canAllBeDug_35 : decode cX4_canAllBeDug 35 = .ok (.goto 12, 3) := by decide +kernel
theorem dX4_canAllBeDug_38 : decode cX4_canAllBeDug 38 = .ok (.iload 5, 2) := by decide +kernel
theorem dX4_canAllBeDug_40 : decode cX4_canAllBeDug 40 = .ok (.istore_n 3, 1) := by decide +kernel
theorem dX4_canAllBeDug_41 : decode cX4_canAllBeDug 41 = .ok (.iinc 4 1, 3) := by decide +kernel
theorem dX4_canAllBeDug_44 : decode cX4_canAllBeDug 44 = .ok (.goto (-33), 3) := by decide +kernel
theorem dX4_canAllBeDug_47 : decode cX4_canAllBeDug 47 = .ok (.iload_n 3, 1) := by decide +kernel
theorem dX4_canAllBeDug_48 : decode cX4_canAllBeDug 48 = .ok (.iload_n 1, 1) := by decide +kernel
theorem dX4_canAllBeDug_49 : decode cX4_canAllBeDug 49 = .ok (.if_icmp .ne 7, 3) := by decide +kernel
theorem dX4_canAllBeDug_52 : decode cX4_canAllBeDug 52 = .ok (.iconst 1, 1) := by decide +kernel
theorem dX4_canAllBeDug_53 : decode cX4_canAllBeDug 53 = .ok (.goto 4, 3) := by decide +kernel
theorem dX4_canAllBeDug_56 : decode cX4_canAllBeDug 56 = .ok (.iconst 0, 1) := by decide +kernel
theorem dX4_canAllBeDug_57 : decode cX4_canAllBeDug 57 = .ok (.ireturn, 1) := by decide +kernel
set_option maxRecDepth 20000 in
theorem ggX5_init_X4_init : GoodIn wsX5_init wsX4_init := goodIn_r _ [16, 17, 2, 3, 10, 18, 19, 20, 21, 22, 23, 24, 25] (by decide +kernel) (by decide +kernel)
set_option maxRecDepth 20000 in
theorem gX5_init_X4_init_n11 : GoodIn wsX5_init (wsX4_init) := ggX5_init_X4_init
theorem dX5_init_0 : decode cX5_init 0 = .ok (.aload_n 0, 1) := by decide +kernel
theorem dX5_init_1 : decode cX5_init 1 = .ok (.invokespecial 3, 3) := by decide +kernel
theorem dX5_init_4 : decode cX5_init 4 = .ok (.aload_n 0, 1) := by decide +kernel
theorem dX5_init_5 : decode cX5_init 5 = .ok (.new 9, 3) := by decide +kernel
theorem dX5_init_8 : decode cX5_init 8 = .ok (.dup, 1) := by decide +kernel
theorem dX5_init_9 : decode cX5_init 9 = .ok (.invokespecial 11, 3) := by decide +kernel
theorem dX5_init_12 : decode cX5_init 12 = .ok (.putfield 12, 3) := by decide +kernel
theorem dX5_init_15 : decode cX5_init 15 = .ok (.aload_n 0, 1) := by decide +kernel
theorem dX5_init_16 : decode cX5_init 16 = .ok (.iconst 5, 1) := by decide +kernel
theorem dX5_init_17 : decode cX5_init 17 = .ok (.putfield 18, 3) := by decide +kernel
theorem dX5_init_20 : decode cX5_init 20 = .ok (.aload_n 0, 1) := by decide +kernel
theorem dX5_init_21 : decode cX5_init 21 = .ok (.iconst 3, 1) := by decide +kernel
theorem dX5_init_22 : decode cX5_init 22 = .ok (.putfield 22, 3) := by decide +kernel
theorem dX5_init_25 : decode cX5_init 25 = .ok (.aload_n 0, 1) := by decide +kernel
theorem dX5_init_26 : decode cX5_init 26 = .ok (.bipush 6, 2) := by decide +kernel
theorem dX5_init_28 : decode cX5_init 28 = .ok (.newarray .int, 2) := by decide +kernel
theorem dX5_init_30 : decode cX5_init 30 = .ok (.putfield 25, 3) := by decide +kernel
theorem dX5_init_33 : decode cX5_init 33 = .ok (.aload_n 0, 1) := by decide +kernel
theorem dX5_init_34 : decode cX5_init 34 = .ok (.bipush 6, 2) := by decide +kernel
theorem dX5_init_36 : decode cX5_init 36 = .ok (.newarray .int, 2) := by decide +kernel
theorem dX5_init_38 : decode cX5_init 38 = .ok (.putfield 29, 3) := by decide +kernel
theorem dX5_init_41 : decode cX5_init 41 = .ok (.aload_n 0, 1) := by decide +kernel
theorem dX5_init_42 : decode cX5_init 42 = .ok (.bipush 6, 2) := by decide +kernel
theorem dX5_init_44 : decode cX5_init 44 = .ok (.newarray .int, 2) := by decide +kernel
theorem dX5_init_46 : decode cX5_init 46 = .ok (.putfield 32, 3) := by decide +kernel
theorem dX5_init_49 : decode cX5_init 49 = .ok (.aload_n 0, 1) := by decide +kernel
theorem dX5_init_50 : decode cX5_init 50 = .ok (.bipush 6, 2) := by decide +kernel
theorem dX5_init_52 : decode cX5_init 52 = .ok (.newarray .int, 2) := by decide +kernel
theorem dX5_init_54 : decode cX5_init 54 = .ok (.putfield 35, 3) := by decide +kernel
theorem dX5_init_57 : decode cX5_init 57 = .ok (.return_, 1) := by decide +kernel
set_option maxRecDepth 20000 in
theorem ggX5_wipe_X4_shape : GoodIn wsX5_wipe wsX4_shape := goodIn_r _ [12, 13, 14, 15, 16, 17, 18, 19, 20, 21, 22, 11, 23, 35, 36, 37, 38, 39, 40, 41] (by decide +kernel) (by decide +kernel)
set_option maxRecDepth 20000 in
theorem gX5_wipe_X4_shape : GoodIn wsX5_wipe (wsV RX5 38 RX4 yX4_shape wsX4_shape) := goodIn_app (goodIn_of _ (by decide +kernel)) ggX5_wipe_X4_shape
theorem dX5_wipe_0 : decode cX5_wipe 0 = .ok (.aload_n 0, 1) := by decide +kernel
theorem dX5_wipe_1 : decode cX5_wipe 1 = .ok (.getfield 12, 3) := by decide +kernel
theorem dX5_wipe_4 : decode cX5_wipe 4 = .ok (.iconst 0, 1) := by decide +kernel
theorem dX5_wipe_5 : decode cX5_wipe 5 = .ok (.iconst 0, 1) := by decide +kernel
theorem dX5_wipe_6 : decode cX5_wipe 6 = .ok (.invokevirtual 38, 3) := by decide +kernel
theorem dX5_wipe_9 : decode cX5_wipe 9 = .ok (.aload_n 0, 1) := by decide +kernel
theorem dX5_wipe_10 : decode cX5_wipe 10 = .ok (.iconst 0, 1) := by decide +kernel
theorem dX5_wipe_11 : decode cX5_wipe 11 = .ok (.putfield 42, 3) := by decide +kernel
theorem dX5_wipe_14 : decode cX5_wipe 14 = .ok (.aload_n 0, 1) := by decide +kernel
theorem dX5_wipe_15 : decode cX5_wipe 15 = .ok (.iconst 0, 1) := by decide +kernel
theorem dX5_wipe_16 : decode cX5_wipe 16 = .ok (.putfield 46, 3) := by decide +kernel
theorem dX5_wipe_19 : decode cX5_wipe 19 = .ok (.aload_n 0, 1) := by decide +kernel
theorem dX5_wipe_20 : decode cX5_wipe 20 = .ok (.iconst 0, 1) := by decide +kernel
theorem dX5_wipe_21 : decode cX5_wipe 21 = .ok (.putfield 49, 3) := by decide +kernel
theorem dX5_wipe_24 : decode cX5_wipe 24 = .ok (.aload_n 0, 1) := by decide +kernel
theorem dX5_wipe_25 : decode cX5_wipe 25 = .ok (.iconst 5, 1) := by decide +kernel
theorem dX5_wipe_26 : decode cX5_wipe 26 = .ok (.putfield 18, 3) := by decide +kernel
theorem dX5_wipe_29 : decode cX5_wipe 29 = .ok (.aload_n 0, 1) := by decide +kernel
theorem dX5_wipe_30 : decode cX5_wipe 30 = .ok (.iconst 3, 1) := by decide +kernel
theorem dX5_wipe_31 : decode cX5_wipe 31 = .ok (.putfield 22, 3) := by decide +kernel
theorem dX5_wipe_34 : decode cX5_wipe 34 = .ok (.aload_n 0, 1) := by decide +kernel
theorem dX5_wipe_35 : decode cX5_wipe 35 = .ok (.iconst 0, 1) := by decide +kernel
theorem dX5_wipe_36 : decode cX5_wipe 36 = .ok (.putfield 52, 3) := by decide +kernel
theorem dX5_wipe_39 : decode cX5_wipe 39 = .ok (.return_, 1) := by decide +kernel
set_option maxRecDepth 20000 in
theorem ggX6_init_X3_init : GoodIn wsX6_init wsX3_init := goodIn_r _ [31, 32, 2, 3, 33, 34, 72, 73, 74, 75] (by decide +kernel) (by decide +kernel)
set_option maxRecDepth 20000 in
theorem gX6_init_X3_init_n9 : GoodIn wsX6_init (wsX3_init) := ggX6_init_X3_init
set_option maxRecDepth 20000 in
theorem ggX6_init_X5_init : GoodIn wsX6_init wsX5_init := goodIn_r _ [36, 37, 2, 3, 38, 39, 40, 41, 42, 43, 44, 45, 46, 47, 48, 49, 50, 51, 52, 111, 112, 113, 114, 115, 116, 117, 86, 87, 88, 89, 90, 91, 92, 93, 94, 95, 96] (by decide +kernel) (by decide +kernel)
set_option maxRecDepth 20000 in
theorem gX6_init_X5_init_n18 : GoodIn wsX6_init (wsX5_init) := ggX6_init_X5_init
set_option maxRecDepth 20000 in
theorem ggX6_init_X2_init : GoodIn wsX6_init wsX2_init := goodIn_r _ [54, 55, 2, 3, 44, 56, 97, 98] (by decide +kernel) (by decide +kernel)
set_option maxRecDepth 20000 in
theorem gX6_init_X2_init_n28 : GoodIn wsX6_init (wsX2_init) := ggX6_init_X2_init
set_option maxRecDepth 20000 in
theorem ggX6_init_X0_init : GoodIn wsX6_init wsX0_init := goodIn_r _ [58, 59, 2, 3, 44, 60, 61, 62, 63, 64, 99, 100, 101, 102, 103] (by decide +kernel) (by decide +kernel)
set_option maxRecDepth 20000 in
theorem gX6_init_X0_init_n45 : GoodIn wsX6_init (wsX0_init) := ggX6_init_X0_init
set_option maxRecDepth 20000 in
theorem ggX6_init_X1_init : GoodIn wsX6_init wsX1_init := goodIn_r _ [66, 67, 2, 3, 44, 68, 69, 70, 71, 104, 105, 106, 107, 108, 109, 110] (by decide +kernel) (by decide +kernel)
set_option maxRecDepth 20000 in
theorem gX6_init_X1_init_n52 : GoodIn wsX6_init (wsX1_init) := ggX6_init_X1_init
theorem dX6_init_0 : decode cX6_init 0 = .ok (.aload_n 0, 1) := by decide +kernel
theorem dX6_init_1 : decode cX6_init 1 = .ok (.invokespecial 1, 3) := by decide +kernel
theorem dX6_init_4 : decode cX6_init 4 = .ok (.aload_n 0, 1) := by decide +kernel
theorem dX6_init_5 : decode cX6_init 5 = .ok (.new 7, 3) := by decide +kernel
theorem dX6_init_8 : decode cX6_init 8 = .ok (.dup, 1) := by decide +kernel
theorem dX6_init_9 : decode cX6_init 9 = .ok (.invokespecial 9, 3) := by decide +kernel
theorem dX6_init_12 : decode cX6_init 12 = .ok (.putfield 10, 3) := by decide +kernel
theorem dX6_init_15 : decode cX6_init 15 = .ok (.aload_n 0, 1) := by decide +kernel
theorem dX6_init_16 : decode cX6_init 16 = .ok (.new 16, 3) := by decide +kernel
theorem dX6_init_19 : decode cX6_init 19 = .ok (.dup, 1) := by decide +kernel
theorem dX6_init_20 : decode cX6_init 20 = .ok (.invokespecial 18, 3) := by decide +kernel
theorem dX6_init_23 : decode cX6_init 23 = .ok (.putfield 19, 3) := by decide +kernel
theorem dX6_init_26 : decode cX6_init 26 = .ok (.aload_n 0, 1) := by decide +kernel
theorem dX6_init_27 : decode cX6_init 27 = .ok (.new 16, 3) := by decide +kernel
theorem dX6_init_30 : decode cX6_init 30 = .ok (.dup, 1) := by decide +kernel
theorem dX6_init_31 : decode cX6_init 31 = .ok (.invokespecial 18, 3) := by decide +kernel
theorem dX6_init_34 : decode cX6_init 34 = .ok (.putfield 23, 3) := by decide +kernel
theorem dX6_init_37 : decode cX6_init 37 = .ok (.aload_n 0, 1) := by decide +kernel
theorem dX6_init_38 : decode cX6_init 38 = .ok (.new 26, 3) := by decide +kernel
theorem dX6_init_41 : decode cX6_init 41 = .ok (.dup, 1) := by decide +kernel
theorem dX6_init_42 : decode cX6_init 42 = .ok (.invokespecial 28, 3) := by decide +kernel
theorem dX6_init_45 : decode cX6_init 45 = .ok (.putfield 29, 3) := by decide +kernel
theorem dX6_init_48 : decode cX6_init 48 = .ok (.aload_n 0, 1) := by decide +kernel
theorem dX6_init_49 : decode cX6_init 49 = .ok (.new 26, 3) := by decide +kernel
theorem dX6_init_52 : decode cX6_init 52 = .ok (.dup, 1) := by decide +kernel
theorem dX6_init_53 : decode cX6_init 53 = .ok (.invokespecial 28, 3) := by decide +kernel
theorem dX6_init_56 : decode cX6_init 56 = .ok (.putfield 33, 3) := by decide +kernel
theorem dX6_init_59 : decode cX6_init 59 = .ok (.aload_n 0, 1) := by decide +kernel
theorem dX6_init_60 : decode cX6_init 60 = .ok (.new 26, 3) := by decide +kernel
theorem dX6_init_63 : decode cX6_init 63 = .ok (.dup, 1) := by decide +kernel
theorem dX6_init_64 : decode cX6_init 64 = .ok (.invokespecial 28, 3) := by decide +kernel
theorem dX6_init_67 : decode cX6_init 67 = .ok (.putfield 36, 3) := by decide +kernel
theorem dX6_init_70 : decode cX6_init 70 = .ok (.aload_n 0, 1) := by decide +kernel
theorem dX6_init_71 : decode cX6_init 71 = .ok (.iconst 2, 1) := by decide +kernel
theorem dX6_init_72 : decode cX6_init 72 = .ok (.newarray .boolean, 2) := by decide +kernel
theorem dX6_init_74 : decode cX6_init 74 = .ok (.putfield 39, 3) := by decide +kernel
theorem dX6_init_77 : decode cX6_init 77 = .ok (.aload_n 0, 1) := by decide +kernel
theorem dX6_init_78 : decode cX6_init 78 = .ok (.new 43, 3) := by decide +kernel
theorem dX6_init_81 : decode cX6_init 81 = .ok (.dup, 1) := by decide +kernel
theorem dX6_init_82 : decode cX6_init 82 = .ok (.invokespecial 45, 3) := by decide +kernel
theorem dX6_init_85 : decode cX6_init 85 = .ok (.putfield 46, 3) := by decide +kernel
theorem dX6_init_88 : decode cX6_init 88 = .ok (.aload_n 0, 1) := by decide +kernel
theorem dX6_init_89 : decode cX6_init 89 = .ok (.new 50, 3) := by decide +kernel
theorem dX6_init_92 : decode cX6_init 92 = .ok (.dup, 1) := by decide +kernel
theorem dX6_init_93 : decode cX6_init 93 = .ok (.invokespecial 52, 3) := by decide +kernel
theorem dX6_init_96 : decode cX6_init 96 = .ok (.putfield 53, 3) := by decide +kernel
theorem dX6_init_99 : decode cX6_init 99 = .ok (.aload_n 0, 1) := by decide +kernel
theorem dX6_init_100 : decode cX6_init 100 = .ok (.lconst 0, 1) := by decide +kernel
theorem dX6_init_101 : decode cX6_init 101 = .ok (.putfield 57, 3) := by decide +kernel
theorem dX6_init_104 : decode cX6_init 104 = .ok (.return_, 1) := by decide +kernel
set_option maxRecDepth 20000 in
theorem ggX6_type_X6_within : GoodIn wsX6_type wsX6_within := goodIn_r _ [5] (by decide +kernel) (by decide +kernel)
set_option maxRecDepth 20000 in
theorem gX6_type_X6_within : GoodIn wsX6_type (va_wsS RX6 61 yX6_within wsX6_within) := goodIn_app (goodIn_of _ (by decide +kernel)) ggX6_type_X6_within
set_option maxRecDepth 20000 in
theorem ggX6_type_X3_add : GoodIn wsX6_type wsX3_add := goodIn_r _ [10, 11, 12, 23, 24, 25, 26] (by decide +kernel) (by decide +kernel)
set_option maxRecDepth 20000 in
theorem gX6_type_X3_add : GoodIn wsX6_type (wsV RX6 65 RX3 yX3_add wsX3_add) := goodIn_app (goodIn_of _ (by decide +kernel)) ggX6_type_X3_add
theorem dX6_type_0 : decode cX6_type 0 = .ok (.iload_n 1, 1) := by decide +kernel
theorem dX6_type_1 : decode cX6_type 1 = .ok (.iconst 0, 1) := by decide +kernel
theorem dX6_type_2 : decode cX6_type 2 = .ok (.sipush 255, 3) := by decide +kernel
theorem dX6_type_5 : decode cX6_type 5 = .ok (.invokestatic 61, 3) := by decide +kernel
theorem dX6_type_8 : decode cX6_type 8 = .ok (.ifCond .ne 5, 3) := by decide +kernel
theorem dX6_type_11 : decode cX6_type 11 = .ok (.iconst (-1), 1) := by decide +kernel
theorem dX6_type_12 : decode cX6_type 12 = .ok (.ireturn, 1) := by decide +kernel
theorem dX6_type_13 : decode cX6_type 13 = .ok (.aload_n 0, 1) := by decide +kernel
theorem dX6_type_14 : decode cX6_type 14 = .ok (.getfield 10, 3) := by decide +kernel
theorem dX6_type_17 : decode cX6_type 17 = .ok (.iload_n 1, 1) := by decide +kernel
theorem dX6_type_18 : decode cX6_type 18 = .ok (.invokevirtual 65, 3) := by decide +kernel
theorem dX6_type_21 : decode cX6_type 21 = .ok (.ifCond .eq 13, 3) := by decide +kernel
theorem dX6_type_24 : decode cX6_type 24 = .ok (.aload_n 0, 1) := by decide +kernel
theorem dX6_type_25 : decode cX6_type 25 = .ok (.getfield 10, 3) := by decide +kernel
theorem dX6_type_28 : decode cX6_type 28 = .ok (.getfield 69, 3) := by decide +kernel
theorem dX6_type_31 : decode cX6_type 31 = .ok (.goto 5, 3) := by decide +kernel
theorem dX6_type_34 : decode cX6_type 34 = .ok (.bipush (-3), 2) := by decide +kernel
theorem dX6_type_36 : decode cX6_type 36 = .ok (.ireturn, 1) := by decide +kernel
theorem dX6_clear_0 : decode cX6_clear 0 = .ok (.aload_n 0, 1) := by decide +kernel
theorem dX6_clear_1 : decode cX6_clear 1 = .ok (.getfield 10, 3) := by decide +kernel
theorem dX6_clear_4 : decode cX6_clear 4 = .ok (.getfield 69, 3) := by decide +kernel
theorem dX6_clear_7 : decode cX6_clear 7 = .ok (.istore_n 1, 1) := by decide +kernel
theorem dX6_clear_8 : decode cX6_clear 8 = .ok (.aload_n 0, 1) := by decide +kernel
theorem dX6_clear_9 : decode cX6_clear 9 = .ok (.getfield 10, 3) := by decide +kernel
theorem dX6_clear_12 : decode cX6_clear 12 = .ok (.iconst 0, 1) := by decide +kernel
theorem dX6_clear_13 : decode cX6_clear 13 = .ok (.putfield 69, 3) := by decide +kernel
theorem dX6_clear_16 : decode cX6_clear 16 = .ok (.iload_n 1, 1) := by decide +kernel
theorem dX6_clear_17 : decode cX6_clear 17 = .ok (.ireturn, 1) := by decide +kernel
set_option maxRecDepth 20000 in
theorem ggX6_hill_X3_readInto : GoodIn wsX6_hill wsX3_readInto := goodIn_r _ [12, 13, 14, 15, 16, 17, 18, 19, 20, 21, 22, 23, 24, 25, 26, 27, 28, 29, 30, 31, 32, 33, 34, 35, 36, 37, 38, 39, 40, 41, 42, 43, 44, 45, 46, 11, 47, 48, 49, 50, 51, 52, 53, 54, 55, 56, 57, 58, 59, 60, 61, 62, 63, 64, 65, 66, 67, 68, 69, 70, 71, 72, 73, 74, 75, 76, 77, 78, 79, 80, 81, 82, 83, 84, 85, 86, 87, 88, 89, 90, 91, 92, 93, 94, 95, 96, 135, 136, 137, 138, 139, 140, 141, 142, 143, 144, 145, 146, 147, 148, 149, 150, 151, 152, 153, 154, 155, 156] (by decide +kernel) (by decide +kernel)
set_option maxRecDepth 20000 in
theorem gX6_hill_X3_readInto : GoodIn wsX6_hill (wsV RX6 73 RX3 yX3_readInto wsX3_readInto) := goodIn_app (goodIn_of _ (by decide +kernel)) ggX6_hill_X3_readInto
set_option maxRecDepth 20000 in
theorem ggX6_hill_X2_begin : GoodIn wsX6_hill wsX2_begin := goodIn_r _ [101, 102, 103, 104, 105, 106, 100, 107, 108, 109, 110, 111, 157, 158, 139, 140, 141, 142, 143, 144, 145, 146, 147, 148, 149] (by decide +kernel) (by decide +kernel)
set_option maxRecDepth 20000 in
theorem gX6_hill_X2_begin : GoodIn wsX6_hill (wsV RX6 77 RX2 yX2_begin wsX2_begin) := goodIn_app (goodIn_of _ (by decide +kernel)) ggX6_hill_X2_begin
set_option maxRecDepth 20000 in
theorem ggX6_hill_X1_wipe : GoodIn wsX6_hill wsX1_wipe := goodIn_r _ [116, 117, 118, 159, 160, 161, 162, 163, 164, 165] (by decide +kernel) (by decide +kernel)
set_option maxRecDepth 20000 in
theorem gX6_hill_X1_wipe : GoodIn wsX6_hill (wsV RX6 81 RX1 yX1_wipe wsX1_wipe) := goodIn_app (goodIn_of _ (by decide +kernel)) ggX6_hill_X1_wipe
set_option maxRecDepth 20000 in
theorem ggX6_hill_X0_wipe : GoodIn wsX6_hill wsX0_wipe := goodIn_r _ [123, 124, 166, 167, 168, 169, 170] (by decide +kernel) (by decide +kernel)
set_option maxRecDepth 20000 in
theorem gX6_hill_X0_wipe : GoodIn wsX6_hill (wsV RX6 84 RX0 yX0_wipe wsX0_wipe) := goodIn_app (goodIn_of _ (by decide +kernel)) ggX6_hill_X0_wipe
theorem dX6_hill_0 : decode cX6_hill 0 = .ok (.aload_n 0, 1) := by decide +kernel
theorem dX6_hill_1 : decode cX6_hill 1 = .ok (.getfield 10, 3) := by decide +kernel
theorem dX6_hill_4 : decode cX6_hill 4 = .ok (.aload_n 0, 1) := by decide +kernel
theorem dX6_hill_5 : decode cX6_hill 5 = .ok (.getfield 23, 3) := by decide +kernel
theorem dX6_hill_8 : decode cX6_hill 8 = .ok (.invokevirtual 73, 3) := by decide +kernel
theorem dX6_hill_11 : decode cX6_hill 11 = .ok (.istore_n 1, 1) := by decide +kernel
theorem dX6_hill_12 : decode cX6_hill 12 = .ok (.iload_n 1, 1) := by decide +kernel
theorem dX6_hill_13 : decode cX6_hill 13 = .ok (.ifCond .ge 5, 3) := by decide +kernel
theorem dX6_hill_16 : decode cX6_hill 16 = .ok (.iload_n 1, 1) := by decide +kernel
theorem dX6_hill_17 : decode cX6_hill 17 = .ok (.ireturn, 1) := by decide +kernel
theorem dX6_hill_18 : decode cX6_hill 18 = .ok (.aload_n 0, 1) := by decide +kernel
theorem dX6_hill_19 : decode cX6_hill 19 = .ok (.getfield 19, 3) := by decide +kernel
theorem dX6_hill_22 : decode cX6_hill 22 = .ok (.astore_n 2, 1) := by decide +kernel
theorem dX6_hill_23 : decode cX6_hill 23 = .ok (.aload_n 0, 1) := by decide +kernel
theorem dX6_hill_24 : decode cX6_hill 24 = .ok (.aload_n 0, 1) := by decide +kernel
theorem dX6_hill_25 : decode cX6_hill 25 = .ok (.getfield 23, 3) := by decide +kernel
theorem dX6_hill_28 : decode cX6_hill 28 = .ok (.putfield 19, 3) := by decide +kernel
theorem dX6_hill_31 : decode cX6_hill 31 = .ok (.aload_n 0, 1) := by decide +kernel
theorem dX6_hill_32 : decode cX6_hill 32 = .ok (.aload_n 2, 1) := by decide +kernel
theorem dX6_hill_33 : decode cX6_hill 33 = .ok (.putfield 23, 3) := by decide +kernel
theorem dX6_hill_36 : decode cX6_hill 36 = .ok (.aload_n 0, 1) := by decide +kernel
theorem dX6_hill_37 : decode cX6_hill 37 = .ok (.getfield 10, 3) := by decide +kernel
theorem dX6_hill_40 : decode cX6_hill 40 = .ok (.iconst 0, 1) := by decide +kernel
theorem dX6_hill_41 : decode cX6_hill 41 = .ok (.putfield 69, 3) := by decide +kernel
theorem dX6_hill_44 : decode cX6_hill 44 = .ok (.aload_n 0, 1) := by decide +kernel
theorem dX6_hill_45 : decode cX6_hill 45 = .ok (.getfield 29, 3) := by decide +kernel
theorem dX6_hill_48 : decode cX6_hill 48 = .ok (.aload_n 0, 1) := by decide +kernel
theorem dX6_hill_49 : decode cX6_hill 49 = .ok (.getfield 19, 3) := by decide +kernel
theorem dX6_hill_52 : decode cX6_hill 52 = .ok (.invokevirtual 77, 3) := by decide +kernel
theorem dX6_hill_55 : decode cX6_hill 55 = .ok (.aload_n 0, 1) := by decide +kernel
theorem dX6_hill_56 : decode cX6_hill 56 = .ok (.getfield 53, 3) := by decide +kernel
theorem dX6_hill_59 : decode cX6_hill 59 = .ok (.invokevirtual 81, 3) := by decide +kernel
theorem dX6_hill_62 : decode cX6_hill 62 = .ok (.aload_n 0, 1) := by decide +kernel
theorem dX6_hill_63 : decode cX6_hill 63 = .ok (.getfield 46, 3) := by decide +kernel
theorem dX6_hill_66 : decode cX6_hill 66 = .ok (.invokevirtual 84, 3) := by decide +kernel
theorem dX6_hill_69 : decode cX6_hill 69 = .ok (.aload_n 0, 1) := by decide +kernel
theorem dX6_hill_70 : decode cX6_hill 70 = .ok (.getfield 39, 3) := by decide +kernel
theorem dX6_hill_73 : decode cX6_hill 73 = .ok (.iconst 0, 1) := by decide +kernel
theorem dX6_hill_74 : decode cX6_hill 74 = .ok (.iconst 0, 1) := by decide +kernel
theorem dX6_hill_75 : decode cX6_hill 75 = .ok (.bastore, 1) := by decide +kernel
theorem dX6_hill_76 : decode cX6_hill 76 = .ok (.aload_n 0, 1) := by decide +kernel
theorem dX6_hill_77 : decode cX6_hill 77 = .ok (.getfield 39, 3) := by decide +kernel
theorem dX6_hill_80 : decode cX6_hill 80 = .ok (.iconst 1, 1) := by decide +kernel
theorem dX6_hill_81 : decode cX6_hill 81 = .ok (.iconst 0, 1) := by decide +kernel
theorem dX6_hill_82 : decode cX6_hill 82 = .ok (.bastore, 1) := by decide +kernel
theorem dX6_hill_83 : decode cX6_hill 83 = .ok (.iload_n 1, 1) := by decide +kernel
theorem dX6_hill_84 : decode cX6_hill 84 = .ok (.ireturn, 1) := by decide +kernel
set_option maxRecDepth 20000 in
theorem ggX6_cell_X4_holds : GoodIn wsX6_cell wsX4_holds := goodIn_r _ [7, 8, 9, 10, 11, 12, 68, 69, 70, 71, 72, 73, 74] (by decide +kernel) (by decide +kernel)
set_option maxRecDepth 20000 in
theorem gX6_cell_X4_holds : GoodIn wsX6_cell (wsV RX6 89 RX4 yX4_holds wsX4_holds) := goodIn_app (goodIn_of _ (by decide +kernel)) ggX6_cell_X4_holds
set_option maxRecDepth 20000 in
theorem ggX6_cell_X4_bitOf : GoodIn wsX6_cell wsX4_bitOf := goodIn_r _ [16, 8, 68, 69, 70, 71, 72, 73, 74] (by decide +kernel) (by decide +kernel)
set_option maxRecDepth 20000 in
theorem gX6_cell_X4_bitOf : GoodIn wsX6_cell (wsV RX6 95 RX4 yX4_bitOf wsX4_bitOf) := goodIn_app (goodIn_of _ (by decide +kernel)) ggX6_cell_X4_bitOf
set_option maxRecDepth 20000 in
theorem ggX6_cell_X4_partsIn : GoodIn wsX6_cell wsX4_partsIn := goodIn_r _ [20, 21, 68, 69, 70, 71, 72, 73, 74] (by decide +kernel) (by decide +kernel)
set_option maxRecDepth 20000 in
theorem gX6_cell_X4_partsIn : GoodIn wsX6_cell (wsV RX6 99 RX4 yX4_partsIn wsX4_partsIn) := goodIn_app (goodIn_of _ (by decide +kernel)) ggX6_cell_X4_partsIn
set_option maxRecDepth 20000 in
theorem ggX6_cell_X2_dug : GoodIn wsX6_cell wsX2_dug := goodIn_r _ [26, 27, 75, 76] (by decide +kernel) (by decide +kernel)
set_option maxRecDepth 20000 in
theorem gX6_cell_X2_dug : GoodIn wsX6_cell (wsV RX6 103 RX2 yX2_dug wsX2_dug) := goodIn_app (goodIn_of _ (by decide +kernel)) ggX6_cell_X2_dug
set_option maxRecDepth 20000 in
theorem ggX6_cell_X6_oneIf : GoodIn wsX6_cell wsX6_oneIf := goodIn_r _ [30] (by decide +kernel) (by decide +kernel)
set_option maxRecDepth 20000 in
theorem gX6_cell_X6_oneIf : GoodIn wsX6_cell (va_wsS RX6 107 yX6_oneIf wsX6_oneIf) := goodIn_app (goodIn_of _ (by decide +kernel)) ggX6_cell_X6_oneIf
set_option maxRecDepth 20000 in
theorem ggX6_cell_X6_canBeDugNow : GoodIn wsX6_cell wsX6_canBeDugNow := goodIn_r _ [34, 1, 2, 22, 23, 24, 25, 26, 27, 35, 36, 37, 6, 38, 39, 40, 41, 42, 43, 44, 45, 46, 8, 47, 48, 49, 50, 51, 52, 53, 54, 55, 56, 57, 58, 59, 60, 61, 62, 63, 64, 65, 66, 67, 75, 76, 68, 69, 70, 71, 72, 73, 74] (by decide +kernel) (by decide +kernel)
set_option maxRecDepth 20000 in
theorem gX6_cell_X6_canBeDugNow : GoodIn wsX6_cell (wsV RX6 111 RX6 yX6_canBeDugNow wsX6_canBeDugNow) := goodIn_app (goodIn_of _ (by decide +kernel)) ggX6_cell_X6_canBeDugNow
theorem dX6_cell_0 : decode cX6_cell 0 = .ok (.aload_n 0, 1) := by decide +kernel
theorem dX6_cell_1 : decode cX6_cell 1 = .ok (.getfield 19, 3) := by decide +kernel
theorem dX6_cell_4 : decode cX6_cell 4 = .ok (.getfield 85, 3) := by decide +kernel
theorem dX6_cell_7 : decode cX6_cell 7 = .ok (.iload_n 1, 1) := by decide +kernel
theorem dX6_cell_8 : decode cX6_cell 8 = .ok (.iload_n 2, 1) := by decide +kernel
theorem dX6_cell_9 : decode cX6_cell 9 = .ok (.invokevirtual 89, 3) := by decide +kernel
theorem dX6_cell_12 : decode cX6_cell 12 = .ok (.ifCond .ne 5, 3) := by decide +kernel
theorem dX6_cell_15 : decode cX6_cell 15 = .ok (.iconst (-1), 1) := by decide +kernel
theorem dX6_cell_16 : decode cX6_cell 16 = .ok (.ireturn, 1) := by decide +kernel
theorem dX6_cell_17 : decode cX6_cell 17 = .ok (.aload_n 0, 1) := by decide +kernel
theorem dX6_cell_18 : decode cX6_cell 18 = .ok (.getfield 19, 3) := by decide +kernel
theorem dX6_cell_21 : decode cX6_cell 21 = .ok (.getfield 85, 3) := by decide +kernel
theorem dX6_cell_24 : decode cX6_cell 24 = .ok (.iload_n 1, 1) := by decide +kernel
theorem dX6_cell_25 : decode cX6_cell 25 = .ok (.iload_n 2, 1) := by decide +kernel
theorem dX6_cell_26 : decode cX6_cell 26 = .ok (.invokevirtual 95, 3) := by decide +kernel
theorem dX6_cell_29 : decode cX6_cell 29 = .ok (.istore 4, 2) := by decide +kernel
theorem dX6_cell_31 : decode cX6_cell 31 = .ok (.iload_n 3, 1) := by decide +kernel
theorem dX6_cell_32 : decode cX6_cell 32 = .ok (.tableswitch 73 0 2 #[28, 41, 63], 28) := by decide +kernel
theorem dX6_cell_60 : decode cX6_cell 60 = .ok (.aload_n 0, 1) := by decide +kernel
theorem dX6_cell_61 : decode cX6_cell 61 = .ok (.getfield 19, 3) := by decide +kernel
theorem dX6_cell_64 : decode cX6_cell 64 = .ok (.getfield 85, 3) := by decide +kernel
theorem dX6_cell_67 : decode cX6_cell 67 = .ok (.iload 4, 2) := by decide +kernel
theorem dX6_cell_69 : decode cX6_cell 69 = .ok (.invokevirtual 99, 3) := by decide +kernel
theorem dX6_cell_72 : decode cX6_cell 72 = .ok (.ireturn, 1) := by decide +kernel
theorem dX6_cell_73 : decode cX6_cell 73 = .ok (.aload_n 0, 1) := by decide +kernel
theorem dX6_cell_74 : decode cX6_cell 74 = .ok (.getfield 29, 3) := by decide +kernel
theorem dX6_cell_77 : decode cX6_cell 77 = .ok (.invokevirtual 103, 3) := by decide +kernel
theorem dX6_cell_80 : decode cX6_cell 80 = .ok (.iload 4, 2) := by decide +kernel
theorem dX6_cell_82 : decode cX6_cell 82 = .ok (.iand, 1) := by decide +kernel
theorem dX6_cell_83 : decode cX6_cell 83 = .ok (.ifCond .eq 7, 3) := by decide +kernel
theorem dX6_cell_86 : decode cX6_cell 86 = .ok (.iconst 1, 1) := by decide +kernel
theorem dX6_cell_87 : decode cX6_cell 87 = .ok (.goto 4, 3) := by decide +kernel
theorem dX6_cell_90 : decode cX6_cell 90 = .ok (.iconst 0, 1) := by decide +kernel
theorem dX6_cell_91 : decode cX6_cell 91 = .ok (.invokestatic 107, 3) := by decide +kernel
theorem dX6_cell_94 : decode cX6_cell 94 = .ok (.ireturn, 1) := by decide +kernel
theorem dX6_cell_95 : decode cX6_cell 95 = .ok (.aload_n 0, 1) := by decide +kernel
theorem dX6_cell_96 : decode cX6_cell 96 = .ok (.iload 4, 2) := by decide +kernel
theorem dX6_cell_98 : decode cX6_cell 98 = .ok (.invokevirtual 111, 3) := by decide +kernel
theorem dX6_cell_101 : decode cX6_cell 101 = .ok (.invokestatic 107, 3) := by decide +kernel
theorem dX6_cell_104 : decode cX6_cell 104 = .ok (.ireturn, 1) := by decide +kernel
theorem dX6_cell_105 : decode cX6_cell 105 = .ok (.iconst (-1), 1) := by decide +kernel
theorem dX6_cell_106 : decode cX6_cell 106 = .ok (.ireturn, 1) := by decide +kernel
set_option maxRecDepth 20000 in
theorem ggX6_thing_X6_isThing : GoodIn wsX6_thing wsX6_isThing := goodIn_r _ [7, 2, 8, 9, 6, 10, 40, 41, 42, 43, 44, 45, 46, 47, 48, 49, 50, 51, 52, 53, 54, 55, 56, 57, 58, 59, 60] (by decide +kernel) (by decide +kernel)
set_option maxRecDepth 20000 in
theorem gX6_thing_X6_isThing : GoodIn wsX6_thing (wsV RX6 114 RX6 yX6_isThing wsX6_isThing) := goodIn_app (goodIn_of _ (by decide +kernel)) ggX6_thing_X6_isThing
set_option maxRecDepth 20000 in
theorem ggX6_thing_X2_yellow : GoodIn wsX6_thing wsX2_yellow := goodIn_r _ [15, 16, 61, 62] (by decide +kernel) (by decide +kernel)
set_option maxRecDepth 20000 in
theorem gX6_thing_X2_yellow : GoodIn wsX6_thing (wsV RX6 117 RX2 yX2_yellow wsX2_yellow) := goodIn_app (goodIn_of _ (by decide +kernel)) ggX6_thing_X2_yellow
set_option maxRecDepth 20000 in
theorem ggX6_thing_X2_white : GoodIn wsX6_thing wsX2_white := goodIn_r _ [20, 16, 61, 62] (by decide +kernel) (by decide +kernel)
set_option maxRecDepth 20000 in
theorem gX6_thing_X2_white : GoodIn wsX6_thing (wsV RX6 120 RX2 yX2_white wsX2_white) := goodIn_app (goodIn_of _ (by decide +kernel)) ggX6_thing_X2_white
set_option maxRecDepth 20000 in
theorem ggX6_thing_X6_calledAfter : GoodIn wsX6_thing wsX6_calledAfter := goodIn_r _ [24, 1, 25, 26, 27, 6, 28, 2, 29, 30, 31, 32, 11, 12, 13, 14, 15, 16, 17, 18, 19, 20, 33, 34, 35, 36, 40, 41, 42, 43, 44, 45, 46, 47, 48, 49, 50, 51, 52, 53, 54, 55, 56, 57, 58, 59, 60, 61, 62] (by decide +kernel) (by decide +kernel)
set_option maxRecDepth 20000 in
theorem gX6_thing_X6_calledAfter : GoodIn wsX6_thing (wsV RX6 130 RX6 yX6_calledAfter wsX6_calledAfter) := goodIn_app (goodIn_of _ (by decide +kernel)) ggX6_thing_X6_calledAfter
set_option maxRecDepth 20000 in
theorem ggX6_thing_X6_oneIf : GoodIn wsX6_thing wsX6_oneIf := goodIn_r _ [39] (by decide +kernel) (by decide +kernel)
set_option maxRecDepth 20000 in
theorem gX6_thing_X6_oneIf : GoodIn wsX6_thing (va_wsS RX6 107 yX6_oneIf wsX6_oneIf) := goodIn_app (goodIn_of _ (by decide +kernel)) ggX6_thing_X6_oneIf
theorem dX6_thing_0 : decode cX6_thing 0 = .ok (.aload_n 0, 1) := by decide +kernel
theorem dX6_thing_1 : decode cX6_thing 1 = .ok (.iload_n 1, 1) := by decide +kernel
theorem dX6_thing_2 : decode cX6_thing 2 = .ok (.invokevirtual 114, 3) := by decide +kernel
theorem dX6_thing_5 : decode cX6_thing 5 = .ok (.ifCond .ne 5, 3) := by decide +kernel
theorem dX6_thing_8 : decode cX6_thing 8 = .ok (.iconst (-1), 1) := by decide +kernel
theorem dX6_thing_9 : decode cX6_thing 9 = .ok (.ireturn, 1) := by decide +kernel
theorem dX6_thing_10 : decode cX6_thing 10 = .ok (.iload_n 2, 1) := by decide +kernel
theorem dX6_thing_11 : decode cX6_thing 11 = .ok (.tableswitch 81 0 4 #[33, 42, 51, 61, 71], 33) := by decide +kernel
theorem dX6_thing_44 : decode cX6_thing 44 = .ok (.aload_n 0, 1) := by decide +kernel
theorem dX6_thing_45 : decode cX6_thing 45 = .ok (.getfield 29, 3) := by decide +kernel
theorem dX6_thing_48 : decode cX6_thing 48 = .ok (.iload_n 1, 1) := by decide +kernel
theorem dX6_thing_49 : decode cX6_thing 49 = .ok (.invokevirtual 117, 3) := by decide +kernel
theorem dX6_thing_52 : decode cX6_thing 52 = .ok (.ireturn, 1) := by decide +kernel
theorem dX6_thing_53 : decode cX6_thing 53 = .ok (.aload_n 0, 1) := by decide +kernel
theorem dX6_thing_54 : decode cX6_thing 54 = .ok (.getfield 29, 3) := by decide +kernel
theorem dX6_thing_57 : decode cX6_thing 57 = .ok (.iload_n 1, 1) := by decide +kernel
theorem dX6_thing_58 : decode cX6_thing 58 = .ok (.invokevirtual 120, 3) := by decide +kernel
theorem dX6_thing_61 : decode cX6_thing 61 = .ok (.ireturn, 1) := by decide +kernel
theorem dX6_thing_62 : decode cX6_thing 62 = .ok (.aload_n 0, 1) := by decide +kernel
theorem dX6_thing_63 : decode cX6_thing 63 = .ok (.getfield 19, 3) := by decide +kernel
theorem dX6_thing_66 : decode cX6_thing 66 = .ok (.getfield 123, 3) := by decide +kernel
theorem dX6_thing_69 : decode cX6_thing 69 = .ok (.iload_n 1, 1) := by decide +kernel
theorem dX6_thing_70 : decode cX6_thing 70 = .ok (.iaload, 1) := by decide +kernel
theorem dX6_thing_71 : decode cX6_thing 71 = .ok (.ireturn, 1) := by decide +kernel
theorem dX6_thing_72 : decode cX6_thing 72 = .ok (.aload_n 0, 1) := by decide +kernel
theorem dX6_thing_73 : decode cX6_thing 73 = .ok (.getfield 19, 3) := by decide +kernel
theorem dX6_thing_76 : decode cX6_thing 76 = .ok (.getfield 127, 3) := by decide +kernel
theorem dX6_thing_79 : decode cX6_thing 79 = .ok (.iload_n 1, 1) := by decide +kernel
theorem dX6_thing_80 : decode cX6_thing 80 = .ok (.iaload, 1) := by decide +kernel
theorem dX6_thing_81 : decode cX6_thing 81 = .ok (.ireturn, 1) := by decide +kernel
theorem dX6_thing_82 : decode cX6_thing 82 = .ok (.aload_n 0, 1) := by decide +kernel
theorem dX6_thing_83 : decode cX6_thing 83 = .ok (.iload_n 1, 1) := by decide +kernel
theorem dX6_thing_84 : decode cX6_thing 84 = .ok (.iconst 0, 1) := by decide +kernel
theorem dX6_thing_85 : decode cX6_thing 85 = .ok (.invokevirtual 130, 3) := by decide +kernel
theorem dX6_thing_88 : decode cX6_thing 88 = .ok (.invokestatic 107, 3) := by decide +kernel
theorem dX6_thing_91 : decode cX6_thing 91 = .ok (.ireturn, 1) := by decide +kernel
theorem dX6_thing_92 : decode cX6_thing 92 = .ok (.iconst (-1), 1) := by decide +kernel
theorem dX6_thing_93 : decode cX6_thing 93 = .ok (.ireturn, 1) := by decide +kernel
set_option maxRecDepth 20000 in
theorem ggX6_digs_X4_holds : GoodIn wsX6_digs wsX4_holds := goodIn_r _ [7, 8, 9, 10, 11, 12, 90, 91, 92, 93, 94, 95, 96] (by decide +kernel) (by decide +kernel)
set_option maxRecDepth 20000 in
theorem gX6_digs_X4_holds : GoodIn wsX6_digs (wsV RX6 89 RX4 yX4_holds wsX4_holds) := goodIn_app (goodIn_of _ (by decide +kernel)) ggX6_digs_X4_holds
set_option maxRecDepth 20000 in
theorem ggX6_digs_X4_bitOf : GoodIn wsX6_digs wsX4_bitOf := goodIn_r _ [16, 8, 90, 91, 92, 93, 94, 95, 96] (by decide +kernel) (by decide +kernel)
set_option maxRecDepth 20000 in
theorem gX6_digs_X4_bitOf : GoodIn wsX6_digs (wsV RX6 95 RX4 yX4_bitOf wsX4_bitOf) := goodIn_app (goodIn_of _ (by decide +kernel)) ggX6_digs_X4_bitOf
set_option maxRecDepth 20000 in
theorem ggX6_digs_X6_canBeDugNow : GoodIn wsX6_digs wsX6_canBeDugNow := goodIn_r _ [20, 1, 2, 21, 22, 23, 24, 25, 26, 27, 28, 29, 6, 30, 31, 32, 33, 34, 35, 36, 37, 38, 8, 69, 70, 71, 72, 73, 74, 75, 76, 77, 78, 79, 80, 81, 82, 83, 84, 85, 86, 87, 88, 89, 97, 98, 90, 91, 92, 93, 94, 95, 96] (by decide +kernel) (by decide +kernel)
set_option maxRecDepth 20000 in
theorem gX6_digs_X6_canBeDugNow : GoodIn wsX6_digs (wsV RX6 111 RX6 yX6_canBeDugNow wsX6_canBeDugNow) := goodIn_app (goodIn_of _ (by decide +kernel)) ggX6_digs_X6_canBeDugNow
set_option maxRecDepth 20000 in
theorem ggX6_digs_X2_remember : GoodIn wsX6_digs wsX2_remember := goodIn_r _ [42, 26, 43, 44, 45, 46, 47, 48, 49, 50, 51, 97, 98] (by decide +kernel) (by decide +kernel)
set_option maxRecDepth 20000 in
theorem gX6_digs_X2_remember : GoodIn wsX6_digs (wsV RX6 133 RX2 yX2_remember wsX2_remember) := goodIn_app (goodIn_of _ (by decide +kernel)) ggX6_digs_X2_remember
set_option maxRecDepth 20000 in
theorem ggX6_digs_X2_dug : GoodIn wsX6_digs wsX2_dug := goodIn_r _ [25, 26, 97, 98] (by decide +kernel) (by decide +kernel)
set_option maxRecDepth 20000 in
theorem gX6_digs_X2_dug : GoodIn wsX6_digs (wsV RX6 103 RX2 yX2_dug wsX2_dug) := goodIn_app (goodIn_of _ (by decide +kernel)) ggX6_digs_X2_dug
set_option maxRecDepth 20000 in
theorem ggX6_digs_X2_setDug : GoodIn wsX6_digs wsX2_setDug := goodIn_r _ [55, 26, 97, 98] (by decide +kernel) (by decide +kernel)
set_option maxRecDepth 20000 in
theorem gX6_digs_X2_setDug : GoodIn wsX6_digs (wsV RX6 136 RX2 yX2_setDug wsX2_setDug) := goodIn_app (goodIn_of _ (by decide +kernel)) ggX6_digs_X2_setDug
set_option maxRecDepth 20000 in
theorem ggX6_digs_X4_partsIn : GoodIn wsX6_digs wsX4_partsIn := goodIn_r _ [59, 60, 90, 91, 92, 93, 94, 95, 96] (by decide +kernel) (by decide +kernel)
set_option maxRecDepth 20000 in
theorem gX6_digs_X4_partsIn : GoodIn wsX6_digs (wsV RX6 99 RX4 yX4_partsIn wsX4_partsIn) := goodIn_app (goodIn_of _ (by decide +kernel)) ggX6_digs_X4_partsIn
set_option maxRecDepth 20000 in
theorem ggX6_digs_X2_addStore : GoodIn wsX6_digs wsX2_addStore := goodIn_r _ [64, 26, 97, 98] (by decide +kernel) (by decide +kernel)
set_option maxRecDepth 20000 in
theorem gX6_digs_X2_addStore : GoodIn wsX6_digs (wsV RX6 140 RX2 yX2_addStore wsX2_addStore) := goodIn_app (goodIn_of _ (by decide +kernel)) ggX6_digs_X2_addStore
set_option maxRecDepth 20000 in
theorem ggX6_digs_X2_store : GoodIn wsX6_digs wsX2_store := goodIn_r _ [68, 26, 97, 98] (by decide +kernel) (by decide +kernel)
set_option maxRecDepth 20000 in
theorem gX6_digs_X2_store : GoodIn wsX6_digs (wsV RX6 143 RX2 yX2_store wsX2_store) := goodIn_app (goodIn_of _ (by decide +kernel)) ggX6_digs_X2_store
theorem dX6_digs_0 : decode cX6_digs 0 = .ok (.aload_n 0, 1) := by decide +kernel
theorem dX6_digs_1 : decode cX6_digs 1 = .ok (.getfield 19, 3) := by decide +kernel
theorem dX6_digs_4 : decode cX6_digs 4 = .ok (.getfield 85, 3) := by decide +kernel
theorem dX6_digs_7 : decode cX6_digs 7 = .ok (.iload_n 1, 1) := by decide +kernel
theorem dX6_digs_8 : decode cX6_digs 8 = .ok (.iload_n 2, 1) := by decide +kernel
theorem dX6_digs_9 : decode cX6_digs 9 = .ok (.invokevirtual 89, 3) := by decide +kernel
theorem dX6_digs_12 : decode cX6_digs 12 = .ok (.ifCond .ne 5, 3) := by decide +kernel
theorem dX6_digs_15 : decode cX6_digs 15 = .ok (.iconst (-1), 1) := by decide +kernel
theorem dX6_digs_16 : decode cX6_digs 16 = .ok (.ireturn, 1) := by decide +kernel
theorem dX6_digs_17 : decode cX6_digs 17 = .ok (.aload_n 0, 1) := by decide +kernel
theorem dX6_digs_18 : decode cX6_digs 18 = .ok (.getfield 19, 3) := by decide +kernel
theorem dX6_digs_21 : decode cX6_digs 21 = .ok (.getfield 85, 3) := by decide +kernel
theorem dX6_digs_24 : decode cX6_digs 24 = .ok (.iload_n 1, 1) := by decide +kernel
theorem dX6_digs_25 : decode cX6_digs 25 = .ok (.iload_n 2, 1) := by decide +kernel
theorem dX6_digs_26 : decode cX6_digs 26 = .ok (.invokevirtual 95, 3) := by decide +kernel
theorem dX6_digs_29 : decode cX6_digs 29 = .ok (.istore_n 3, 1) := by decide +kernel
theorem dX6_digs_30 : decode cX6_digs 30 = .ok (.aload_n 0, 1) := by decide +kernel
theorem dX6_digs_31 : decode cX6_digs 31 = .ok (.iload_n 3, 1) := by decide +kernel
theorem dX6_digs_32 : decode cX6_digs 32 = .ok (.invokevirtual 111, 3) := by decide +kernel
theorem dX6_digs_35 : decode cX6_digs 35 = .ok (.ifCond .ne 6, 3) := by decide +kernel
theorem dX6_digs_38 : decode cX6_digs 38 = .ok (.bipush (-2), 2) := by decide +kernel
theorem dX6_digs_40 : decode cX6_digs 40 = .ok (.ireturn, 1) := by decide +kernel
theorem dX6_digs_41 : decode cX6_digs 41 = .ok (.aload_n 0, 1) := by decide +kernel
theorem dX6_digs_42 : decode cX6_digs 42 = .ok (.getfield 29, 3) := by decide +kernel
theorem dX6_digs_45 : decode cX6_digs 45 = .ok (.invokevirtual 133, 3) := by decide +kernel
theorem dX6_digs_48 : decode cX6_digs 48 = .ok (.aload_n 0, 1) := by decide +kernel
theorem dX6_digs_49 : decode cX6_digs 49 = .ok (.getfield 29, 3) := by decide +kernel
theorem dX6_digs_52 : decode cX6_digs 52 = .ok (.aload_n 0, 1) := by decide +kernel
theorem dX6_digs_53 : decode cX6_digs 53 = .ok (.getfield 29, 3) := by decide +kernel
theorem dX6_digs_56 : decode cX6_digs 56 = .ok (.invokevirtual 103, 3) := by decide +kernel
theorem dX6_digs_59 : decode cX6_digs 59 = .ok (.iload_n 3, 1) := by decide +kernel
theorem dX6_digs_60 : decode cX6_digs 60 = .ok (.ior, 1) := by decide +kernel
theorem dX6_digs_61 : decode cX6_digs 61 = .ok (.invokevirtual 136, 3) := by decide +kernel
theorem dX6_digs_64 : decode cX6_digs 64 = .ok (.aload_n 0, 1) := by decide +kernel
theorem dX6_digs_65 : decode cX6_digs 65 = .ok (.getfield 29, 3) := by decide +kernel
theorem dX6_digs_68 : decode cX6_digs 68 = .ok (.aload_n 0, 1) := by decide +kernel
theorem dX6_digs_69 : decode cX6_digs 69 = .ok (.getfield 19, 3) := by decide +kernel
theorem dX6_digs_72 : decode cX6_digs 72 = .ok (.getfield 85, 3) := by decide +kernel
theorem dX6_digs_75 : decode cX6_digs 75 = .ok (.iload_n 3, 1) := by decide +kernel
theorem dX6_digs_76 : decode cX6_digs 76 = .ok (.invokevirtual 99, 3) := by decide +kernel
theorem dX6_digs_79 : decode cX6_digs 79 = .ok (.invokevirtual 140, 3) := by decide +kernel
theorem dX6_digs_82 : decode cX6_digs 82 = .ok (.aload_n 0, 1) := by decide +kernel
theorem dX6_digs_83 : decode cX6_digs 83 = .ok (.getfield 29, 3) := by decide +kernel
theorem dX6_digs_86 : decode cX6_digs 86 = .ok (.invokevirtual 143, 3) := by decide +kernel
theorem dX6_digs_89 : decode cX6_digs 89 = .ok (.ireturn, 1) := by decide +kernel
set_option maxRecDepth 20000 in
theorem ggX6_scrapes_X6_isThing : GoodIn wsX6_scrapes wsX6_isThing := goodIn_r _ [6, 7, 8, 9, 5, 10, 46, 47, 48, 49, 50, 51, 52, 53, 54, 55, 56, 57, 58, 59, 60, 61, 62, 63, 64, 65, 66] (by decide +kernel) (by decide +kernel)
set_option maxRecDepth 20000 in
theorem gX6_scrapes_X6_isThing : GoodIn wsX6_scrapes (wsV RX6 114 RX6 yX6_isThing wsX6_isThing) := goodIn_app (goodIn_of _ (by decide +kernel)) ggX6_scrapes_X6_isThing
set_option maxRecDepth 20000 in
theorem ggX6_scrapes_X2_yellow : GoodIn wsX6_scrapes wsX2_yellow := goodIn_r _ [15, 16, 67, 68] (by decide +kernel) (by decide +kernel)
set_option maxRecDepth 20000 in
theorem gX6_scrapes_X2_yellow : GoodIn wsX6_scrapes (wsV RX6 117 RX2 yX2_yellow wsX2_yellow) := goodIn_app (goodIn_of _ (by decide +kernel)) ggX6_scrapes_X2_yellow
set_option maxRecDepth 20000 in
theorem ggX6_scrapes_X6_scrapedFrom : GoodIn wsX6_scrapes wsX6_scrapedFrom := goodIn_r _ [20, 1, 7, 11, 12, 13, 14, 15, 16, 46, 47, 48, 49, 50, 51, 52, 53, 54, 55, 56, 57, 58, 59, 60, 61, 62, 63, 64, 65, 66, 67, 68] (by decide +kernel) (by decide +kernel)
set_option maxRecDepth 20000 in
theorem gX6_scrapes_X6_scrapedFrom : GoodIn wsX6_scrapes (wsV RX6 146 RX6 yX6_scrapedFrom wsX6_scrapedFrom) := goodIn_app (goodIn_of _ (by decide +kernel)) ggX6_scrapes_X6_scrapedFrom
set_option maxRecDepth 20000 in
theorem ggX6_scrapes_X2_remember : GoodIn wsX6_scrapes wsX2_remember := goodIn_r _ [24, 16, 25, 26, 27, 28, 29, 30, 31, 32, 33, 67, 68] (by decide +kernel) (by decide +kernel)
set_option maxRecDepth 20000 in
theorem gX6_scrapes_X2_remember : GoodIn wsX6_scrapes (wsV RX6 133 RX2 yX2_remember wsX2_remember) := goodIn_app (goodIn_of _ (by decide +kernel)) ggX6_scrapes_X2_remember
set_option maxRecDepth 20000 in
theorem ggX6_scrapes_X2_addStore : GoodIn wsX6_scrapes wsX2_addStore := goodIn_r _ [37, 16, 67, 68] (by decide +kernel) (by decide +kernel)
set_option maxRecDepth 20000 in
theorem gX6_scrapes_X2_addStore : GoodIn wsX6_scrapes (wsV RX6 140 RX2 yX2_addStore wsX2_addStore) := goodIn_app (goodIn_of _ (by decide +kernel)) ggX6_scrapes_X2_addStore
set_option maxRecDepth 20000 in
theorem ggX6_scrapes_X2_setYellow : GoodIn wsX6_scrapes wsX2_setYellow := goodIn_r _ [41, 16, 67, 68] (by decide +kernel) (by decide +kernel)
set_option maxRecDepth 20000 in
theorem gX6_scrapes_X2_setYellow : GoodIn wsX6_scrapes (wsV RX6 149 RX2 yX2_setYellow wsX2_setYellow) := goodIn_app (goodIn_of _ (by decide +kernel)) ggX6_scrapes_X2_setYellow
set_option maxRecDepth 20000 in
theorem ggX6_scrapes_X2_setWhite : GoodIn wsX6_scrapes wsX2_setWhite := goodIn_r _ [45, 16, 67, 68] (by decide +kernel) (by decide +kernel)
set_option maxRecDepth 20000 in
theorem gX6_scrapes_X2_setWhite : GoodIn wsX6_scrapes (wsV RX6 153 RX2 yX2_setWhite wsX2_setWhite) := goodIn_app (goodIn_of _ (by decide +kernel)) ggX6_scrapes_X2_setWhite
theorem dX6_scrapes_0 : decode cX6_scrapes 0 = .ok (.aload_n 0, 1) := by decide +kernel
theorem dX6_scrapes_1 : decode cX6_scrapes 1 = .ok (.iload_n 1, 1) := by decide +kernel
theorem dX6_scrapes_2 : decode cX6_scrapes 2 = .ok (.invokevirtual 114, 3) := by decide +kernel
theorem dX6_scrapes_5 : decode cX6_scrapes 5 = .ok (.ifCond .ne 5, 3) := by decide +kernel
theorem dX6_scrapes_8 : decode cX6_scrapes 8 = .ok (.iconst (-1), 1) := by decide +kernel
theorem dX6_scrapes_9 : decode cX6_scrapes 9 = .ok (.ireturn, 1) := by decide +kernel
theorem dX6_scrapes_10 : decode cX6_scrapes 10 = .ok (.aload_n 0, 1) := by decide +kernel
theorem dX6_scrapes_11 : decode cX6_scrapes 11 = .ok (.getfield 29, 3) := by decide +kernel
theorem dX6_scrapes_14 : decode cX6_scrapes 14 = .ok (.iload_n 1, 1) := by decide +kernel
theorem dX6_scrapes_15 : decode cX6_scrapes 15 = .ok (.invokevirtual 117, 3) := by decide +kernel
theorem dX6_scrapes_18 : decode cX6_scrapes 18 = .ok (.ifCond .ne 6, 3) := by decide +kernel
theorem dX6_scrapes_21 : decode cX6_scrapes 21 = .ok (.bipush (-2), 2) := by decide +kernel
theorem dX6_scrapes_23 : decode cX6_scrapes 23 = .ok (.ireturn, 1) := by decide +kernel
theorem dX6_scrapes_24 : decode cX6_scrapes 24 = .ok (.aload_n 0, 1) := by decide +kernel
theorem dX6_scrapes_25 : decode cX6_scrapes 25 = .ok (.iload_n 1, 1) := by decide +kernel
theorem dX6_scrapes_26 : decode cX6_scrapes 26 = .ok (.invokevirtual 146, 3) := by decide +kernel
theorem dX6_scrapes_29 : decode cX6_scrapes 29 = .ok (.istore_n 2, 1) := by decide +kernel
theorem dX6_scrapes_30 : decode cX6_scrapes 30 = .ok (.aload_n 0, 1) := by decide +kernel
theorem dX6_scrapes_31 : decode cX6_scrapes 31 = .ok (.getfield 29, 3) := by decide +kernel
theorem dX6_scrapes_34 : decode cX6_scrapes 34 = .ok (.invokevirtual 133, 3) := by decide +kernel
theorem dX6_scrapes_37 : decode cX6_scrapes 37 = .ok (.aload_n 0, 1) := by decide +kernel
theorem dX6_scrapes_38 : decode cX6_scrapes 38 = .ok (.getfield 29, 3) := by decide +kernel
theorem dX6_scrapes_41 : decode cX6_scrapes 41 = .ok (.iload_n 2, 1) := by decide +kernel
theorem dX6_scrapes_42 : decode cX6_scrapes 42 = .ok (.invokevirtual 140, 3) := by decide +kernel
theorem dX6_scrapes_45 : decode cX6_scrapes 45 = .ok (.aload_n 0, 1) := by decide +kernel
theorem dX6_scrapes_46 : decode cX6_scrapes 46 = .ok (.getfield 29, 3) := by decide +kernel
theorem dX6_scrapes_49 : decode cX6_scrapes 49 = .ok (.iload_n 1, 1) := by decide +kernel
theorem dX6_scrapes_50 : decode cX6_scrapes 50 = .ok (.iconst 0, 1) := by decide +kernel
theorem dX6_scrapes_51 : decode cX6_scrapes 51 = .ok (.invokevirtual 149, 3) := by decide +kernel
theorem dX6_scrapes_54 : decode cX6_scrapes 54 = .ok (.aload_n 0, 1) := by decide +kernel
theorem dX6_scrapes_55 : decode cX6_scrapes 55 = .ok (.getfield 29, 3) := by decide +kernel
theorem dX6_scrapes_58 : decode cX6_scrapes 58 = .ok (.iload_n 1, 1) := by decide +kernel
theorem dX6_scrapes_59 : decode cX6_scrapes 59 = .ok (.iconst 0, 1) := by decide +kernel
theorem dX6_scrapes_60 : decode cX6_scrapes 60 = .ok (.invokevirtual 153, 3) := by decide +kernel
theorem dX6_scrapes_63 : decode cX6_scrapes 63 = .ok (.iload_n 2, 1) := by decide +kernel
theorem dX6_scrapes_64 : decode cX6_scrapes 64 = .ok (.ireturn, 1) := by decide +kernel
set_option maxRecDepth 20000 in
theorem ggX6_paints_X6_isThing : GoodIn wsX6_paints wsX6_isThing := goodIn_r _ [6, 7, 8, 9, 5, 10, 42, 43, 44, 45, 46, 47, 48, 49, 50, 51, 52, 53, 54, 55, 56, 57, 58, 59, 60, 61, 62] (by decide +kernel) (by decide +kernel)
set_option maxRecDepth 20000 in
theorem gX6_paints_X6_isThing : GoodIn wsX6_paints (wsV RX6 114 RX6 yX6_isThing wsX6_isThing) := goodIn_app (goodIn_of _ (by decide +kernel)) ggX6_paints_X6_isThing
set_option maxRecDepth 20000 in
theorem ggX6_paints_X6_within : GoodIn wsX6_paints wsX6_within := goodIn_r _ [10] (by decide +kernel) (by decide +kernel)
set_option maxRecDepth 20000 in
theorem gX6_paints_X6_within : GoodIn wsX6_paints (va_wsS RX6 61 yX6_within wsX6_within) := goodIn_app (goodIn_of _ (by decide +kernel)) ggX6_paints_X6_within
set_option maxRecDepth 20000 in
theorem ggX6_paints_X2_store : GoodIn wsX6_paints wsX2_store := goodIn_r _ [15, 16, 63, 64] (by decide +kernel) (by decide +kernel)
set_option maxRecDepth 20000 in
theorem gX6_paints_X2_store : GoodIn wsX6_paints (wsV RX6 143 RX2 yX2_store wsX2_store) := goodIn_app (goodIn_of _ (by decide +kernel)) ggX6_paints_X2_store
set_option maxRecDepth 20000 in
theorem ggX6_paints_X2_yellow : GoodIn wsX6_paints wsX2_yellow := goodIn_r _ [20, 16, 63, 64] (by decide +kernel) (by decide +kernel)
set_option maxRecDepth 20000 in
theorem gX6_paints_X2_yellow : GoodIn wsX6_paints (wsV RX6 117 RX2 yX2_yellow wsX2_yellow) := goodIn_app (goodIn_of _ (by decide +kernel)) ggX6_paints_X2_yellow
set_option maxRecDepth 20000 in
theorem ggX6_paints_X2_remember : GoodIn wsX6_paints wsX2_remember := goodIn_r _ [24, 16, 25, 26, 27, 28, 29, 30, 31, 32, 33, 63, 64] (by decide +kernel) (by decide +kernel)
set_option maxRecDepth 20000 in
theorem gX6_paints_X2_remember : GoodIn wsX6_paints (wsV RX6 133 RX2 yX2_remember wsX2_remember) := goodIn_app (goodIn_of _ (by decide +kernel)) ggX6_paints_X2_remember
set_option maxRecDepth 20000 in
theorem ggX6_paints_X2_addStore : GoodIn wsX6_paints wsX2_addStore := goodIn_r _ [37, 16, 63, 64] (by decide +kernel) (by decide +kernel)
set_option maxRecDepth 20000 in
theorem gX6_paints_X2_addStore : GoodIn wsX6_paints (wsV RX6 140 RX2 yX2_addStore wsX2_addStore) := goodIn_app (goodIn_of _ (by decide +kernel)) ggX6_paints_X2_addStore
set_option maxRecDepth 20000 in
theorem ggX6_paints_X2_setYellow : GoodIn wsX6_paints wsX2_setYellow := goodIn_r _ [41, 16, 63, 64] (by decide +kernel) (by decide +kernel)
set_option maxRecDepth 20000 in
theorem gX6_paints_X2_setYellow : GoodIn wsX6_paints (wsV RX6 149 RX2 yX2_setYellow wsX2_setYellow) := goodIn_app (goodIn_of _ (by decide +kernel)) ggX6_paints_X2_setYellow
theorem dX6_paints_0 : decode cX6_paints 0 = .ok (.aload_n 0, 1) := by decide +kernel
theorem dX6_paints_1 : decode cX6_paints 1 = .ok (.iload_n 1, 1) := by decide +kernel
theorem dX6_paints_2 : decode cX6_paints 2 = .ok (.invokevirtual 114, 3) := by decide +kernel
theorem dX6_paints_5 : decode cX6_paints 5 = .ok (.ifCond .eq 13, 3) := by decide +kernel
theorem dX6_paints_8 : decode cX6_paints 8 = .ok (.iload_n 2, 1) := by decide +kernel
theorem dX6_paints_9 : decode cX6_paints 9 = .ok (.iconst 1, 1) := by decide +kernel
theorem dX6_paints_10 : decode cX6_paints 10 = .ok (.bipush 99, 2) := by decide +kernel
theorem dX6_paints_12 : decode cX6_paints 12 = .ok (.invokestatic 61, 3) := by decide +kernel
theorem dX6_paints_15 : decode cX6_paints 15 = .ok (.ifCond .ne 5, 3) := by decide +kernel
theorem dX6_paints_18 : decode cX6_paints 18 = .ok (.iconst (-1), 1) := by decide +kernel
theorem dX6_paints_19 : decode cX6_paints 19 = .ok (.ireturn, 1) := by decide +kernel
theorem dX6_paints_20 : decode cX6_paints 20 = .ok (.aload_n 0, 1) := by decide +kernel
theorem dX6_paints_21 : decode cX6_paints 21 = .ok (.getfield 29, 3) := by decide +kernel
theorem dX6_paints_24 : decode cX6_paints 24 = .ok (.invokevirtual 143, 3) := by decide +kernel
theorem dX6_paints_27 : decode cX6_paints 27 = .ok (.iload_n 2, 1) := by decide +kernel
theorem dX6_paints_28 : decode cX6_paints 28 = .ok (.if_icmp .ge 6, 3) := by decide +kernel
theorem dX6_paints_31 : decode cX6_paints 31 = .ok (.bipush (-2), 2) := by decide +kernel
theorem dX6_paints_33 : decode cX6_paints 33 = .ok (.ireturn, 1) := by decide +kernel
theorem dX6_paints_34 : decode cX6_paints 34 = .ok (.aload_n 0, 1) := by decide +kernel
theorem dX6_paints_35 : decode cX6_paints 35 = .ok (.getfield 29, 3) := by decide +kernel
theorem dX6_paints_38 : decode cX6_paints 38 = .ok (.iload_n 1, 1) := by decide +kernel
theorem dX6_paints_39 : decode cX6_paints 39 = .ok (.invokevirtual 117, 3) := by decide +kernel
theorem dX6_paints_42 : decode cX6_paints 42 = .ok (.iload_n 2, 1) := by decide +kernel
theorem dX6_paints_43 : decode cX6_paints 43 = .ok (.iadd, 1) := by decide +kernel
theorem dX6_paints_44 : decode cX6_paints 44 = .ok (.sipush 999, 3) := by decide +kernel
theorem dX6_paints_47 : decode cX6_paints 47 = .ok (.if_icmp .le 6, 3) := by decide +kernel
theorem dX6_paints_50 : decode cX6_paints 50 = .ok (.bipush (-3), 2) := by decide +kernel
theorem dX6_paints_52 : decode cX6_paints 52 = .ok (.ireturn, 1) := by decide +kernel
theorem dX6_paints_53 : decode cX6_paints 53 = .ok (.aload_n 0, 1) := by decide +kernel
theorem dX6_paints_54 : decode cX6_paints 54 = .ok (.getfield 29, 3) := by decide +kernel
theorem dX6_paints_57 : decode cX6_paints 57 = .ok (.invokevirtual 133, 3) := by decide +kernel
theorem dX6_paints_60 : decode cX6_paints 60 = .ok (.aload_n 0, 1) := by decide +kernel
theorem dX6_paints_61 : decode cX6_paints 61 = .ok (.getfield 29, 3) := by decide +kernel
theorem dX6_paints_64 : decode cX6_paints 64 = .ok (.iload_n 2, 1) := by decide +kernel
theorem dX6_paints_65 : decode cX6_paints 65 = .ok (.ineg, 1) := by decide +kernel
theorem dX6_paints_66 : decode cX6_paints 66 = .ok (.invokevirtual 140, 3) := by decide +kernel
theorem dX6_paints_69 : decode cX6_paints 69 = .ok (.aload_n 0, 1) := by decide +kernel
theorem dX6_paints_70 : decode cX6_paints 70 = .ok (.getfield 29, 3) := by decide +kernel
theorem dX6_paints_73 : decode cX6_paints 73 = .ok (.iload_n 1, 1) := by decide +kernel
theorem dX6_paints_74 : decode cX6_paints 74 = .ok (.aload_n 0, 1) := by decide +kernel
theorem dX6_paints_75 : decode cX6_paints 75 = .ok (.getfield 29, 3) := by decide +kernel
theorem dX6_paints_78 : decode cX6_paints 78 = .ok (.iload_n 1, 1) := by decide +kernel
theorem dX6_paints_79 : decode cX6_paints 79 = .ok (.invokevirtual 117, 3) := by decide +kernel
theorem dX6_paints_82 : decode cX6_paints 82 = .ok (.iload_n 2, 1) := by decide +kernel
theorem dX6_paints_83 : decode cX6_paints 83 = .ok (.iadd, 1) := by decide +kernel
theorem dX6_paints_84 : decode cX6_paints 84 = .ok (.invokevirtual 149, 3) := by decide +kernel
theorem dX6_paints_87 : decode cX6_paints 87 = .ok (.aload_n 0, 1) := by decide +kernel
theorem dX6_paints_88 : decode cX6_paints 88 = .ok (.getfield 29, 3) := by decide +kernel
theorem dX6_paints_91 : decode cX6_paints 91 = .ok (.iload_n 1, 1) := by decide +kernel
theorem dX6_paints_92 : decode cX6_paints 92 = .ok (.invokevirtual 117, 3) := by decide +kernel
theorem dX6_paints_95 : decode cX6_paints 95 = .ok (.ireturn, 1) := by decide +kernel
set_option maxRecDepth 20000 in
theorem ggX6_stretches_X6_isThing : GoodIn wsX6_stretches wsX6_isThing := goodIn_r _ [6, 7, 8, 9, 5, 10, 34, 35, 36, 37, 38, 39, 40, 41, 42, 43, 44, 45, 46, 47, 48, 49, 50, 51, 52, 53, 54] (by decide +kernel) (by decide +kernel)
set_option maxRecDepth 20000 in
theorem gX6_stretches_X6_isThing : GoodIn wsX6_stretches (wsV RX6 114 RX6 yX6_isThing wsX6_isThing) := goodIn_app (goodIn_of _ (by decide +kernel)) ggX6_stretches_X6_isThing
set_option maxRecDepth 20000 in
theorem ggX6_stretches_X6_within : GoodIn wsX6_stretches wsX6_within := goodIn_r _ [10] (by decide +kernel) (by decide +kernel)
set_option maxRecDepth 20000 in
theorem gX6_stretches_X6_within : GoodIn wsX6_stretches (va_wsS RX6 61 yX6_within wsX6_within) := goodIn_app (goodIn_of _ (by decide +kernel)) ggX6_stretches_X6_within
set_option maxRecDepth 20000 in
theorem ggX6_stretches_X2_white : GoodIn wsX6_stretches wsX2_white := goodIn_r _ [15, 16, 55, 56] (by decide +kernel) (by decide +kernel)
