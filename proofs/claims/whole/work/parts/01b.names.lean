theorem dX0_init_0 : decode cX0_init 0 = .ok (.aload_n 0, 1) := by decide +kernel
theorem dX0_init_1 : decode cX0_init 1 = .ok (.invokespecial 3, 3) := by decide +kernel
theorem dX0_init_4 : decode cX0_init 4 = .ok (.aload_n 0, 1) := by decide +kernel
theorem dX0_init_5 : decode cX0_init 5 = .ok (.bipush 17, 2) := by decide +kernel
theorem dX0_init_7 : decode cX0_init 7 = .ok (.newarray .int, 2) := by decide +kernel
theorem dX0_init_9 : decode cX0_init 9 = .ok (.putfield 9, 3) := by decide +kernel
theorem dX0_init_12 : decode cX0_init 12 = .ok (.aload_n 0, 1) := by decide +kernel
theorem dX0_init_13 : decode cX0_init 13 = .ok (.bipush 17, 2) := by decide +kernel
theorem dX0_init_15 : decode cX0_init 15 = .ok (.newarray .int, 2) := by decide +kernel
theorem dX0_init_17 : decode cX0_init 17 = .ok (.putfield 15, 3) := by decide +kernel
theorem dX0_init_20 : decode cX0_init 20 = .ok (.aload_n 0, 1) := by decide +kernel
theorem dX0_init_21 : decode cX0_init 21 = .ok (.sipush 256, 3) := by decide +kernel
theorem dX0_init_24 : decode cX0_init 24 = .ok (.newarray .int, 2) := by decide +kernel
theorem dX0_init_26 : decode cX0_init 26 = .ok (.putfield 18, 3) := by decide +kernel
theorem dX0_init_29 : decode cX0_init 29 = .ok (.aload_n 0, 1) := by decide +kernel
theorem dX0_init_30 : decode cX0_init 30 = .ok (.sipush 256, 3) := by decide +kernel
theorem dX0_init_33 : decode cX0_init 33 = .ok (.newarray .int, 2) := by decide +kernel
theorem dX0_init_35 : decode cX0_init 35 = .ok (.putfield 21, 3) := by decide +kernel
theorem dX0_init_38 : decode cX0_init 38 = .ok (.aload_n 0, 1) := by decide +kernel
theorem dX0_init_39 : decode cX0_init 39 = .ok (.iconst (-1), 1) := by decide +kernel
theorem dX0_init_40 : decode cX0_init 40 = .ok (.putfield 24, 3) := by decide +kernel
theorem dX0_init_43 : decode cX0_init 43 = .ok (.return_, 1) := by decide +kernel
theorem dX0_wipe_0 : decode cX0_wipe 0 = .ok (.aload_n 0, 1) := by decide +kernel
theorem dX0_wipe_1 : decode cX0_wipe 1 = .ok (.iconst (-1), 1) := by decide +kernel
theorem dX0_wipe_2 : decode cX0_wipe 2 = .ok (.putfield 24, 3) := by decide +kernel
theorem dX0_wipe_5 : decode cX0_wipe 5 = .ok (.return_, 1) := by decide +kernel
set_option maxRecDepth 20000 in
theorem ggX0_lookFrom_X0_addUp : GoodIn wsX0_lookFrom wsX0_addUp := goodIn_r _ [10] (by decide +kernel) (by decide +kernel)
set_option maxRecDepth 20000 in
theorem gX0_lookFrom_X0_addUp : GoodIn wsX0_lookFrom (va_wsS RX0 33 yX0_addUp wsX0_addUp) := goodIn_app (goodIn_of _ (by decide +kernel)) ggX0_lookFrom_X0_addUp
set_option maxRecDepth 20000 in
theorem ggX0_lookFrom_X0_weigh : GoodIn wsX0_lookFrom wsX0_weigh := goodIn_r _ [14, 2, 3, 5, 4, 15, 16, 17, 18, 19, 20, 21, 22, 23, 24, 25, 26, 27, 28, 29, 30, 31, 32, 33, 34, 35, 36, 37, 38, 39, 40, 41, 42, 43, 44, 45, 46, 47, 48, 49, 50, 51] (by decide +kernel) (by decide +kernel)
set_option maxRecDepth 20000 in
theorem gX0_lookFrom_X0_weigh : GoodIn wsX0_lookFrom (wsV RX0 41 RX0 yX0_weigh wsX0_weigh) := goodIn_app (goodIn_of _ (by decide +kernel)) ggX0_lookFrom_X0_weigh
theorem dX0_lookFrom_0 : decode cX0_lookFrom 0 = .ok (.aload_n 0, 1) := by decide +kernel
theorem dX0_lookFrom_1 : decode cX0_lookFrom 1 = .ok (.getfield 24, 3) := by decide +kernel
theorem dX0_lookFrom_4 : decode cX0_lookFrom 4 = .ok (.iload_n 2, 1) := by decide +kernel
theorem dX0_lookFrom_5 : decode cX0_lookFrom 5 = .ok (.if_icmp .ne 4, 3) := by decide +kernel
theorem dX0_lookFrom_8 : decode cX0_lookFrom 8 = .ok (.return_, 1) := by decide +kernel
theorem dX0_lookFrom_9 : decode cX0_lookFrom 9 = .ok (.aload_n 0, 1) := by decide +kernel
theorem dX0_lookFrom_10 : decode cX0_lookFrom 10 = .ok (.iload_n 2, 1) := by decide +kernel
theorem dX0_lookFrom_11 : decode cX0_lookFrom 11 = .ok (.putfield 24, 3) := by decide +kernel
theorem dX0_lookFrom_14 : decode cX0_lookFrom 14 = .ok (.aload_n 1, 1) := by decide +kernel
theorem dX0_lookFrom_15 : decode cX0_lookFrom 15 = .ok (.getfield 28, 3) := by decide +kernel
theorem dX0_lookFrom_18 : decode cX0_lookFrom 18 = .ok (.iconst 0, 1) := by decide +kernel
theorem dX0_lookFrom_19 : decode cX0_lookFrom 19 = .ok (.aload_n 0, 1) := by decide +kernel
theorem dX0_lookFrom_20 : decode cX0_lookFrom 20 = .ok (.getfield 18, 3) := by decide +kernel
theorem dX0_lookFrom_23 : decode cX0_lookFrom 23 = .ok (.invokestatic 33, 3) := by decide +kernel
theorem dX0_lookFrom_26 : decode cX0_lookFrom 26 = .ok (.aload_n 1, 1) := by decide +kernel
theorem dX0_lookFrom_27 : decode cX0_lookFrom 27 = .ok (.getfield 28, 3) := by decide +kernel
theorem dX0_lookFrom_30 : decode cX0_lookFrom 30 = .ok (.bipush 8, 2) := by decide +kernel
theorem dX0_lookFrom_32 : decode cX0_lookFrom 32 = .ok (.aload_n 0, 1) := by decide +kernel
theorem dX0_lookFrom_33 : decode cX0_lookFrom 33 = .ok (.getfield 21, 3) := by decide +kernel
theorem dX0_lookFrom_36 : decode cX0_lookFrom 36 = .ok (.invokestatic 33, 3) := by decide +kernel
theorem dX0_lookFrom_39 : decode cX0_lookFrom 39 = .ok (.iconst 0, 1) := by decide +kernel
theorem dX0_lookFrom_40 : decode cX0_lookFrom 40 = .ok (.istore_n 3, 1) := by decide +kernel
theorem dX0_lookFrom_41 : decode cX0_lookFrom 41 = .ok (.iload_n 3, 1) := by decide +kernel
theorem dX0_lookFrom_42 : decode cX0_lookFrom 42 = .ok (.bipush 16, 2) := by decide +kernel
theorem dX0_lookFrom_44 : decode cX0_lookFrom 44 = .ok (.if_icmp .gt 23, 3) := by decide +kernel
theorem dX0_lookFrom_47 : decode cX0_lookFrom 47 = .ok (.aload_n 0, 1) := by decide +kernel
theorem dX0_lookFrom_48 : decode cX0_lookFrom 48 = .ok (.getfield 9, 3) := by decide +kernel
theorem dX0_lookFrom_51 : decode cX0_lookFrom 51 = .ok (.iload_n 3, 1) := by decide +kernel
theorem dX0_lookFrom_52 : decode cX0_lookFrom 52 = .ok (.iconst 0, 1) := by decide +kernel
theorem dX0_lookFrom_53 : decode cX0_lookFrom 53 = .ok (.iastore, 1) := by decide +kernel
theorem dX0_lookFrom_54 : decode cX0_lookFrom 54 = .ok (.aload_n 0, 1) := by decide +kernel
theorem dX0_lookFrom_55 : decode cX0_lookFrom 55 = .ok (.getfield 15, 3) := by decide +kernel
theorem dX0_lookFrom_58 : decode cX0_lookFrom 58 = .ok (.iload_n 3, 1) := by decide +kernel
theorem dX0_lookFrom_59 : decode cX0_lookFrom 59 = .ok (.iconst (-1), 1) := by decide +kernel
theorem dX0_lookFrom_60 : decode cX0_lookFrom 60 = .ok (.iastore, 1) := by decide +kernel
theorem dX0_lookFrom_61 : decode cX0_lookFrom 61 = .ok (.iinc 3 1, 3) := by decide +kernel
theorem dX0_lookFrom_64 : decode cX0_lookFrom 64 = .ok (.goto (-23), 3) := by decide +kernel
theorem dX0_lookFrom_67 : decode cX0_lookFrom 67 = .ok (.aload_n 1, 1) := by decide +kernel
theorem dX0_lookFrom_68 : decode cX0_lookFrom 68 = .ok (.getfield 37, 3) := by decide +kernel
theorem dX0_lookFrom_71 : decode cX0_lookFrom 71 = .ok (.iload_n 2, 1) := by decide +kernel
theorem dX0_lookFrom_72 : decode cX0_lookFrom 72 = .ok (.iconst (-1), 1) := by decide +kernel
theorem dX0_lookFrom_73 : decode cX0_lookFrom 73 = .ok (.ixor, 1) := by decide +kernel
theorem dX0_lookFrom_74 : decode cX0_lookFrom 74 = .ok (.iand, 1) := by decide +kernel
theorem dX0_lookFrom_75 : decode cX0_lookFrom 75 = .ok (.istore_n 3, 1) := by decide +kernel
theorem dX0_lookFrom_76 : decode cX0_lookFrom 76 = .ok (.iconst 0, 1) := by decide +kernel
theorem dX0_lookFrom_77 : decode cX0_lookFrom 77 = .ok (.istore 4, 2) := by decide +kernel
theorem dX0_lookFrom_79 : decode cX0_lookFrom 79 = .ok (.iconst 0, 1) := by decide +kernel
theorem dX0_lookFrom_80 : decode cX0_lookFrom 80 = .ok (.istore 5, 2) := by decide +kernel
theorem dX0_lookFrom_82 : decode cX0_lookFrom 82 = .ok (.iload 5, 2) := by decide +kernel
theorem dX0_lookFrom_84 : decode cX0_lookFrom 84 = .ok (.ldc 40, 2) := by decide +kernel
theorem dX0_lookFrom_86 : decode cX0_lookFrom 86 = .ok (.if_icmp .ge 33, 3) := by decide +kernel
theorem dX0_lookFrom_89 : decode cX0_lookFrom 89 = .ok (.aload_n 0, 1) := by decide +kernel
theorem dX0_lookFrom_90 : decode cX0_lookFrom 90 = .ok (.aload_n 1, 1) := by decide +kernel
theorem dX0_lookFrom_91 : decode cX0_lookFrom 91 = .ok (.iload_n 2, 1) := by decide +kernel
theorem dX0_lookFrom_92 : decode cX0_lookFrom 92 = .ok (.iload 4, 2) := by decide +kernel
theorem dX0_lookFrom_94 : decode cX0_lookFrom 94 = .ok (.invokevirtual 41, 3) := by decide +kernel
theorem dX0_lookFrom_97 : decode cX0_lookFrom 97 = .ok (.iload 4, 2) := by decide +kernel
theorem dX0_lookFrom_99 : decode cX0_lookFrom 99 = .ok (.iload_n 3, 1) := by decide +kernel
theorem dX0_lookFrom_100 : decode cX0_lookFrom 100 = .ok (.isub, 1) := by decide +kernel
theorem dX0_lookFrom_101 : decode cX0_lookFrom 101 = .ok (.iload_n 3, 1) := by decide +kernel
theorem dX0_lookFrom_102 : decode cX0_lookFrom 102 = .ok (.iand, 1) := by decide +kernel
theorem dX0_lookFrom_103 : decode cX0_lookFrom 103 = .ok (.istore 4, 2) := by decide +kernel
theorem dX0_lookFrom_105 : decode cX0_lookFrom 105 = .ok (.iload 4, 2) := by decide +kernel
theorem dX0_lookFrom_107 : decode cX0_lookFrom 107 = .ok (.ifCond .ne 6, 3) := by decide +kernel
theorem dX0_lookFrom_110 : decode cX0_lookFrom 110 = .ok (.goto 9, 3) := by decide +kernel
theorem dX0_lookFrom_113 : decode cX0_lookFrom 113 = .ok (.iinc 5 1, 3) := by decide +kernel
theorem dX0_lookFrom_116 : decode cX0_lookFrom 116 = .ok (.goto (-34), 3) := by decide +kernel
theorem dX0_lookFrom_119 : decode cX0_lookFrom 119 = .ok (.return_, 1) := by decide +kernel
theorem dX0_bestSize_0 : decode cX0_bestSize 0 = .ok (.iconst 0, 1) := by decide +kernel
theorem dX0_bestSize_1 : decode cX0_bestSize 1 = .ok (.istore_n 2, 1) := by decide +kernel
theorem dX0_bestSize_2 : decode cX0_bestSize 2 = .ok (.iconst 1, 1) := by decide +kernel
theorem dX0_bestSize_3 : decode cX0_bestSize 3 = .ok (.istore_n 3, 1) := by decide +kernel
theorem dX0_bestSize_4 : decode cX0_bestSize 4 = .ok (.iload_n 3, 1) := by decide +kernel
theorem dX0_bestSize_5 : decode cX0_bestSize 5 = .ok (.iload_n 1, 1) := by decide +kernel
theorem dX0_bestSize_6 : decode cX0_bestSize 6 = .ok (.if_icmp .gt 32, 3) := by decide +kernel
theorem dX0_bestSize_9 : decode cX0_bestSize 9 = .ok (.iload_n 3, 1) := by decide +kernel
theorem dX0_bestSize_10 : decode cX0_bestSize 10 = .ok (.bipush 16, 2) := by decide +kernel
theorem dX0_bestSize_12 : decode cX0_bestSize 12 = .ok (.if_icmp .gt 26, 3) := by decide +kernel
theorem dX0_bestSize_15 : decode cX0_bestSize 15 = .ok (.aload_n 0, 1) := by decide +kernel
theorem dX0_bestSize_16 : decode cX0_bestSize 16 = .ok (.getfield 15, 3) := by decide +kernel
theorem dX0_bestSize_19 : decode cX0_bestSize 19 = .ok (.iload_n 3, 1) := by decide +kernel
theorem dX0_bestSize_20 : decode cX0_bestSize 20 = .ok (.iaload, 1) := by decide +kernel
theorem dX0_bestSize_21 : decode cX0_bestSize 21 = .ok (.aload_n 0, 1) := by decide +kernel
theorem dX0_bestSize_22 : decode cX0_bestSize 22 = .ok (.getfield 15, 3) := by decide +kernel
theorem dX0_bestSize_25 : decode cX0_bestSize 25 = .ok (.iload_n 2, 1) := by decide +kernel
theorem dX0_bestSize_26 : decode cX0_bestSize 26 = .ok (.iaload, 1) := by decide +kernel
theorem dX0_bestSize_27 : decode cX0_bestSize 27 = .ok (.if_icmp .le 5, 3) := by decide +kernel
theorem dX0_bestSize_30 : decode cX0_bestSize 30 = .ok (.iload_n 3, 1) := by decide +kernel
theorem dX0_bestSize_31 : decode cX0_bestSize 31 = .ok (.istore_n 2, 1) := by decide +kernel
theorem dX0_bestSize_32 : decode cX0_bestSize 32 = .ok (.iinc 3 1, 3) := by decide +kernel
theorem dX0_bestSize_35 : decode cX0_bestSize 35 = .ok (.goto (-31), 3) := by decide +kernel
theorem dX0_bestSize_38 : decode cX0_bestSize 38 = .ok (.iload_n 2, 1) := by decide +kernel
theorem dX0_bestSize_39 : decode cX0_bestSize 39 = .ok (.ireturn, 1) := by decide +kernel
set_option maxRecDepth 20000 in
theorem ggX0_weigh_J6_bitCount_0f7a4 : GoodIn wsX0_weigh wsJ6_bitCount_0f7a4 := goodIn_r _ [8, 9, 10, 11] (by decide +kernel) (by decide +kernel)
set_option maxRecDepth 20000 in
theorem gX0_weigh_J6_bitCount_0f7a4 : GoodIn wsX0_weigh (va_wsS RX0 45 yJ6_bitCount_0f7a4 wsJ6_bitCount_0f7a4) := goodIn_app (goodIn_of _ (by decide +kernel)) ggX0_weigh_J6_bitCount_0f7a4
set_option maxRecDepth 20000 in
theorem ggX0_weigh_X4_canAllBeDug : GoodIn wsX0_weigh wsX4_canAllBeDug := goodIn_r _ [16, 17, 18, 19, 15, 20, 21, 22, 23, 24, 25, 26, 27, 28, 29, 35, 36, 37, 38, 39, 40, 41] (by decide +kernel) (by decide +kernel)
set_option maxRecDepth 20000 in
theorem gX0_weigh_X4_canAllBeDug : GoodIn wsX0_weigh (wsV RX0 51 RX4 yX4_canAllBeDug wsX4_canAllBeDug) := goodIn_app (goodIn_of _ (by decide +kernel)) ggX0_weigh_X4_canAllBeDug
theorem dX0_weigh_0 : decode cX0_weigh 0 = .ok (.iload_n 3, 1) := by decide +kernel
theorem dX0_weigh_1 : decode cX0_weigh 1 = .ok (.invokestatic 45, 3) := by decide +kernel
theorem dX0_weigh_4 : decode cX0_weigh 4 = .ok (.istore 4, 2) := by decide +kernel
theorem dX0_weigh_6 : decode cX0_weigh 6 = .ok (.aload_n 0, 1) := by decide +kernel
theorem dX0_weigh_7 : decode cX0_weigh 7 = .ok (.getfield 18, 3) := by decide +kernel
theorem dX0_weigh_10 : decode cX0_weigh 10 = .ok (.iload_n 3, 1) := by decide +kernel
theorem dX0_weigh_11 : decode cX0_weigh 11 = .ok (.sipush 255, 3) := by decide +kernel
theorem dX0_weigh_14 : decode cX0_weigh 14 = .ok (.iand, 1) := by decide +kernel
theorem dX0_weigh_15 : decode cX0_weigh 15 = .ok (.iaload, 1) := by decide +kernel
theorem dX0_weigh_16 : decode cX0_weigh 16 = .ok (.aload_n 0, 1) := by decide +kernel
theorem dX0_weigh_17 : decode cX0_weigh 17 = .ok (.getfield 21, 3) := by decide +kernel
theorem dX0_weigh_20 : decode cX0_weigh 20 = .ok (.iload_n 3, 1) := by decide +kernel
theorem dX0_weigh_21 : decode cX0_weigh 21 = .ok (.bipush 8, 2) := by decide +kernel
theorem dX0_weigh_23 : decode cX0_weigh 23 = .ok (.ishr, 1) := by decide +kernel
theorem dX0_weigh_24 : decode cX0_weigh 24 = .ok (.sipush 255, 3) := by decide +kernel
theorem dX0_weigh_27 : decode cX0_weigh 27 = .ok (.iand, 1) := by decide +kernel
theorem dX0_weigh_28 : decode cX0_weigh 28 = .ok (.iaload, 1) := by decide +kernel
theorem dX0_weigh_29 : decode cX0_weigh 29 = .ok (.iadd, 1) := by decide +kernel
theorem dX0_weigh_30 : decode cX0_weigh 30 = .ok (.istore 5, 2) := by decide +kernel
theorem dX0_weigh_32 : decode cX0_weigh 32 = .ok (.iload 4, 2) := by decide +kernel
theorem dX0_weigh_34 : decode cX0_weigh 34 = .ok (.bipush 16, 2) := by decide +kernel
theorem dX0_weigh_36 : decode cX0_weigh 36 = .ok (.if_icmp .gt 41, 3) := by decide +kernel
theorem dX0_weigh_39 : decode cX0_weigh 39 = .ok (.iload 5, 2) := by decide +kernel
theorem dX0_weigh_41 : decode cX0_weigh 41 = .ok (.aload_n 0, 1) := by decide +kernel
theorem dX0_weigh_42 : decode cX0_weigh 42 = .ok (.getfield 15, 3) := by decide +kernel
theorem dX0_weigh_45 : decode cX0_weigh 45 = .ok (.iload 4, 2) := by decide +kernel
theorem dX0_weigh_47 : decode cX0_weigh 47 = .ok (.iaload, 1) := by decide +kernel
theorem dX0_weigh_48 : decode cX0_weigh 48 = .ok (.if_icmp .le 29, 3) := by decide +kernel
theorem dX0_weigh_51 : decode cX0_weigh 51 = .ok (.aload_n 1, 1) := by decide +kernel
theorem dX0_weigh_52 : decode cX0_weigh 52 = .ok (.iload_n 3, 1) := by decide +kernel
theorem dX0_weigh_53 : decode cX0_weigh 53 = .ok (.iload_n 2, 1) := by decide +kernel
theorem dX0_weigh_54 : decode cX0_weigh 54 = .ok (.invokevirtual 51, 3) := by decide +kernel
theorem dX0_weigh_57 : decode cX0_weigh 57 = .ok (.ifCond .eq 20, 3) := by decide +kernel
theorem dX0_weigh_60 : decode cX0_weigh 60 = .ok (.aload_n 0, 1) := by decide +kernel
theorem dX0_weigh_61 : decode cX0_weigh 61 = .ok (.getfield 15, 3) := by decide +kernel
theorem dX0_weigh_64 : decode cX0_weigh 64 = .ok (.iload 4, 2) := by decide +kernel
theorem dX0_weigh_66 : decode cX0_weigh 66 = .ok (.iload 5, 2) := by decide +kernel
theorem dX0_weigh_68 : decode cX0_weigh 68 = .ok (.iastore, 1) := by decide +kernel
theorem dX0_weigh_69 : decode cX0_weigh 69 = .ok (.aload_n 0, 1) := by decide +kernel
theorem dX0_weigh_70 : decode cX0_weigh 70 = .ok (.getfield 9, 3) := by decide +kernel
theorem dX0_weigh_73 : decode cX0_weigh 73 = .ok (.iload 4, 2) := by decide +kernel
theorem dX0_weigh_75 : decode cX0_weigh 75 = .ok (.iload_n 3, 1) := by decide +kernel
theorem dX0_weigh_76 : decode cX0_weigh 76 = .ok (.iastore, 1) := by decide +kernel
theorem dX0_weigh_77 : decode cX0_weigh 77 = .ok (.return_, 1) := by decide +kernel
theorem dX0_addUp_0 : decode cX0_addUp 0 = .ok (.aload_n 2, 1) := by decide +kernel
theorem dX0_addUp_1 : decode cX0_addUp 1 = .ok (.iconst 0, 1) := by decide +kernel
theorem dX0_addUp_2 : decode cX0_addUp 2 = .ok (.iconst 0, 1) := by decide +kernel
theorem dX0_addUp_3 : decode cX0_addUp 3 = .ok (.iastore, 1) := by decide +kernel
theorem dX0_addUp_4 : decode cX0_addUp 4 = .ok (.iconst 0, 1) := by decide +kernel
theorem dX0_addUp_5 : decode cX0_addUp 5 = .ok (.istore_n 3, 1) := by decide +kernel
theorem dX0_addUp_6 : decode cX0_addUp 6 = .ok (.iload_n 3, 1) := by decide +kernel
theorem dX0_addUp_7 : decode cX0_addUp 7 = .ok (.bipush 8, 2) := by decide +kernel
theorem dX0_addUp_9 : decode cX0_addUp 9 = .ok (.if_icmp .ge 65, 3) := by decide +kernel
theorem dX0_addUp_12 : decode cX0_addUp 12 = .ok (.iload_n 1, 1) := by decide +kernel
theorem dX0_addUp_13 : decode cX0_addUp 13 = .ok (.iload_n 3, 1) := by decide +kernel
theorem dX0_addUp_14 : decode cX0_addUp 14 = .ok (.iadd, 1) := by decide +kernel
theorem dX0_addUp_15 : decode cX0_addUp 15 = .ok (.aload_n 0, 1) := by decide +kernel
theorem dX0_addUp_16 : decode cX0_addUp 16 = .ok (.arraylength, 1) := by decide +kernel
theorem dX0_addUp_17 : decode cX0_addUp 17 = .ok (.if_icmp .ge 57, 3) := by decide +kernel
theorem dX0_addUp_20 : decode cX0_addUp 20 = .ok (.iconst 1, 1) := by decide +kernel
theorem dX0_addUp_21 : decode cX0_addUp 21 = .ok (.iload_n 3, 1) := by decide +kernel
theorem dX0_addUp_22 : decode cX0_addUp 22 = .ok (.ishl, 1) := by decide +kernel
theorem dX0_addUp_23 : decode cX0_addUp 23 = .ok (.istore 4, 2) := by decide +kernel
theorem dX0_addUp_25 : decode cX0_addUp 25 = .ok (.iconst 0, 1) := by decide +kernel
theorem dX0_addUp_26 : decode cX0_addUp 26 = .ok (.istore 5, 2) := by decide +kernel
theorem dX0_addUp_28 : decode cX0_addUp 28 = .ok (.iload 5, 2) := by decide +kernel
theorem dX0_addUp_30 : decode cX0_addUp 30 = .ok (.iload 4, 2) := by decide +kernel
theorem dX0_addUp_32 : decode cX0_addUp 32 = .ok (.if_icmp .ge 36, 3) := by decide +kernel
theorem dX0_addUp_35 : decode cX0_addUp 35 = .ok (.iload 4, 2) := by decide +kernel
theorem dX0_addUp_37 : decode cX0_addUp 37 = .ok (.iload 5, 2) := by decide +kernel
theorem dX0_addUp_39 : decode cX0_addUp 39 = .ok (.iadd, 1) := by decide +kernel
theorem dX0_addUp_40 : decode cX0_addUp 40 = .ok (.aload_n 2, 1) := by decide +kernel
theorem dX0_addUp_41 : decode cX0_addUp 41 = .ok (.arraylength, 1) := by decide +kernel
theorem dX0_addUp_42 : decode cX0_addUp 42 = .ok (.if_icmp .ge 26, 3) := by decide +kernel
theorem dX0_addUp_45 : decode cX0_addUp 45 = .ok (.aload_n 2, 1) := by decide +kernel
theorem dX0_addUp_46 : decode cX0_addUp 46 = .ok (.iload 4, 2) := by decide +kernel
theorem dX0_addUp_48 : decode cX0_addUp 48 = .ok (.iload 5, 2) := by decide +kernel
theorem dX0_addUp_50 : decode cX0_addUp 50 = .ok (.iadd, 1) := by decide +kernel
theorem dX0_addUp_51 : decode cX0_addUp 51 = .ok (.aload_n 2, 1) := by decide +kernel
theorem dX0_addUp_52 : decode cX0_addUp 52 = .ok (.iload 5, 2) := by decide +kernel
theorem dX0_addUp_54 : decode cX0_addUp 54 = .ok (.iaload, 1) := by decide +kernel
theorem dX0_addUp_55 : decode cX0_addUp 55 = .ok (.aload_n 0, 1) := by decide +kernel
theorem dX0_addUp_56 : decode cX0_addUp 56 = .ok (.iload_n 1, 1) := by decide +kernel
theorem dX0_addUp_57 : decode cX0_addUp 57 = .ok (.iload_n 3, 1) := by decide +kernel
theorem dX0_addUp_58 : decode cX0_addUp 58 = .ok (.iadd, 1) := by decide +kernel
theorem dX0_addUp_59 : decode cX0_addUp 59 = .ok (.iaload, 1) := by decide +kernel
theorem dX0_addUp_60 : decode cX0_addUp 60 = .ok (.iadd, 1) := by decide +kernel
theorem dX0_addUp_61 : decode cX0_addUp 61 = .ok (.iastore, 1) := by decide +kernel
theorem dX0_addUp_62 : decode cX0_addUp 62 = .ok (.iinc 5 1, 3) := by decide +kernel
theorem dX0_addUp_65 : decode cX0_addUp 65 = .ok (.goto (-37), 3) := by decide +kernel
theorem dX0_addUp_68 : decode cX0_addUp 68 = .ok (.iinc 3 1, 3) := by decide +kernel
theorem dX0_addUp_71 : decode cX0_addUp 71 = .ok (.goto (-65), 3) := by decide +kernel
theorem dX0_addUp_74 : decode cX0_addUp 74 = .ok (.return_, 1) := by decide +kernel
theorem dX1_init_0 : decode cX1_init 0 = .ok (.aload_n 0, 1) := by decide +kernel
theorem dX1_init_1 : decode cX1_init 1 = .ok (.invokespecial 3, 3) := by decide +kernel
theorem dX1_init_4 : decode cX1_init 4 = .ok (.aload_n 0, 1) := by decide +kernel
theorem dX1_init_5 : decode cX1_init 5 = .ok (.iconst 5, 1) := by decide +kernel
theorem dX1_init_6 : decode cX1_init 6 = .ok (.newarray .int, 2) := by decide +kernel
theorem dX1_init_8 : decode cX1_init 8 = .ok (.putfield 9, 3) := by decide +kernel
theorem dX1_init_11 : decode cX1_init 11 = .ok (.aload_n 0, 1) := by decide +kernel
theorem dX1_init_12 : decode cX1_init 12 = .ok (.iconst 5, 1) := by decide +kernel
theorem dX1_init_13 : decode cX1_init 13 = .ok (.newarray .int, 2) := by decide +kernel
theorem dX1_init_15 : decode cX1_init 15 = .ok (.putfield 15, 3) := by decide +kernel
theorem dX1_init_18 : decode cX1_init 18 = .ok (.aload_n 0, 1) := by decide +kernel
theorem dX1_init_19 : decode cX1_init 19 = .ok (.iconst 5, 1) := by decide +kernel
theorem dX1_init_20 : decode cX1_init 20 = .ok (.newarray .int, 2) := by decide +kernel
theorem dX1_init_22 : decode cX1_init 22 = .ok (.putfield 18, 3) := by decide +kernel
theorem dX1_init_25 : decode cX1_init 25 = .ok (.aload_n 0, 1) := by decide +kernel
theorem dX1_init_26 : decode cX1_init 26 = .ok (.iconst (-1), 1) := by decide +kernel
theorem dX1_init_27 : decode cX1_init 27 = .ok (.putfield 21, 3) := by decide +kernel
theorem dX1_init_30 : decode cX1_init 30 = .ok (.return_, 1) := by decide +kernel
theorem dX1_add_0 : decode cX1_add 0 = .ok (.aload_n 0, 1) := by decide +kernel
theorem dX1_add_1 : decode cX1_add 1 = .ok (.getfield 25, 3) := by decide +kernel
theorem dX1_add_4 : decode cX1_add 4 = .ok (.iconst 5, 1) := by decide +kernel
theorem dX1_add_5 : decode cX1_add 5 = .ok (.if_icmp .lt 5, 3) := by decide +kernel
theorem dX1_add_8 : decode cX1_add 8 = .ok (.iconst 0, 1) := by decide +kernel
theorem dX1_add_9 : decode cX1_add 9 = .ok (.ireturn, 1) := by decide +kernel
theorem dX1_add_10 : decode cX1_add 10 = .ok (.aload_n 0, 1) := by decide +kernel
theorem dX1_add_11 : decode cX1_add 11 = .ok (.getfield 9, 3) := by decide +kernel
theorem dX1_add_14 : decode cX1_add 14 = .ok (.aload_n 0, 1) := by decide +kernel
theorem dX1_add_15 : decode cX1_add 15 = .ok (.getfield 25, 3) := by decide +kernel
theorem dX1_add_18 : decode cX1_add 18 = .ok (.iload_n 1, 1) := by decide +kernel
theorem dX1_add_19 : decode cX1_add 19 = .ok (.iastore, 1) := by decide +kernel
theorem dX1_add_20 : decode cX1_add 20 = .ok (.aload_n 0, 1) := by decide +kernel
theorem dX1_add_21 : decode cX1_add 21 = .ok (.dup, 1) := by decide +kernel
theorem dX1_add_22 : decode cX1_add 22 = .ok (.getfield 25, 3) := by decide +kernel
theorem dX1_add_25 : decode cX1_add 25 = .ok (.iconst 1, 1) := by decide +kernel
theorem dX1_add_26 : decode cX1_add 26 = .ok (.iadd, 1) := by decide +kernel
theorem dX1_add_27 : decode cX1_add 27 = .ok (.putfield 25, 3) := by decide +kernel
theorem dX1_add_30 : decode cX1_add 30 = .ok (.aload_n 0, 1) := by decide +kernel
theorem dX1_add_31 : decode cX1_add 31 = .ok (.iconst (-1), 1) := by decide +kernel
theorem dX1_add_32 : decode cX1_add 32 = .ok (.putfield 21, 3) := by decide +kernel
theorem dX1_add_35 : decode cX1_add 35 = .ok (.iconst 1, 1) := by decide +kernel
theorem dX1_add_36 : decode cX1_add 36 = .ok (.ireturn, 1) := by decide +kernel
theorem dX1_wipe_0 : decode cX1_wipe 0 = .ok (.aload_n 0, 1) := by decide +kernel
theorem dX1_wipe_1 : decode cX1_wipe 1 = .ok (.iconst 0, 1) := by decide +kernel
theorem dX1_wipe_2 : decode cX1_wipe 2 = .ok (.putfield 25, 3) := by decide +kernel
theorem dX1_wipe_5 : decode cX1_wipe 5 = .ok (.aload_n 0, 1) := by decide +kernel
theorem dX1_wipe_6 : decode cX1_wipe 6 = .ok (.iconst (-1), 1) := by decide +kernel
theorem dX1_wipe_7 : decode cX1_wipe 7 = .ok (.putfield 21, 3) := by decide +kernel
theorem dX1_wipe_10 : decode cX1_wipe 10 = .ok (.return_, 1) := by decide +kernel
set_option maxRecDepth 20000 in
theorem ggX1_lookFrom_X1_follow : GoodIn wsX1_lookFrom wsX1_follow := goodIn_r _ [8, 9, 10, 11, 12, 13, 14, 7, 15, 2, 3, 16, 17, 18, 19, 20, 21, 22, 23, 24, 25, 26, 27, 28, 29, 30, 31, 32, 33, 34, 35, 36, 37, 38, 39, 4, 5, 6, 40, 41, 42, 43, 44, 45, 46, 47, 48, 49, 50, 51, 52, 53] (by decide +kernel) (by decide +kernel)
set_option maxRecDepth 20000 in
theorem gX1_lookFrom_X1_follow : GoodIn wsX1_lookFrom (wsV RX1 34 RX1 yX1_follow wsX1_follow) := goodIn_app (goodIn_of _ (by decide +kernel)) ggX1_lookFrom_X1_follow
theorem dX1_lookFrom_0 : decode cX1_lookFrom 0 = .ok (.aload_n 0, 1) := by decide +kernel
theorem dX1_lookFrom_1 : decode cX1_lookFrom 1 = .ok (.getfield 21, 3) := by decide +kernel
theorem dX1_lookFrom_4 : decode cX1_lookFrom 4 = .ok (.iload_n 2, 1) := by decide +kernel
theorem dX1_lookFrom_5 : decode cX1_lookFrom 5 = .ok (.if_icmp .ne 4, 3) := by decide +kernel
theorem dX1_lookFrom_8 : decode cX1_lookFrom 8 = .ok (.return_, 1) := by decide +kernel
theorem dX1_lookFrom_9 : decode cX1_lookFrom 9 = .ok (.aload_n 0, 1) := by decide +kernel
theorem dX1_lookFrom_10 : decode cX1_lookFrom 10 = .ok (.iload_n 2, 1) := by decide +kernel
theorem dX1_lookFrom_11 : decode cX1_lookFrom 11 = .ok (.putfield 21, 3) := by decide +kernel
theorem dX1_lookFrom_14 : decode cX1_lookFrom 14 = .ok (.aload_n 0, 1) := by decide +kernel
theorem dX1_lookFrom_15 : decode cX1_lookFrom 15 = .ok (.iconst 0, 1) := by decide +kernel
theorem dX1_lookFrom_16 : decode cX1_lookFrom 16 = .ok (.putfield 28, 3) := by decide +kernel
theorem dX1_lookFrom_19 : decode cX1_lookFrom 19 = .ok (.aload_n 0, 1) := by decide +kernel
theorem dX1_lookFrom_20 : decode cX1_lookFrom 20 = .ok (.iconst 0, 1) := by decide +kernel
theorem dX1_lookFrom_21 : decode cX1_lookFrom 21 = .ok (.putfield 31, 3) := by decide +kernel
theorem dX1_lookFrom_24 : decode cX1_lookFrom 24 = .ok (.aload_n 0, 1) := by decide +kernel
theorem dX1_lookFrom_25 : decode cX1_lookFrom 25 = .ok (.aload_n 1, 1) := by decide +kernel
theorem dX1_lookFrom_26 : decode cX1_lookFrom 26 = .ok (.iconst 0, 1) := by decide +kernel
theorem dX1_lookFrom_27 : decode cX1_lookFrom 27 = .ok (.iload_n 2, 1) := by decide +kernel
theorem dX1_lookFrom_28 : decode cX1_lookFrom 28 = .ok (.iconst 0, 1) := by decide +kernel
theorem dX1_lookFrom_29 : decode cX1_lookFrom 29 = .ok (.invokevirtual 34, 3) := by decide +kernel
theorem dX1_lookFrom_32 : decode cX1_lookFrom 32 = .ok (.return_, 1) := by decide +kernel
set_option maxRecDepth 20000 in
theorem ggX1_follow_X1_take : GoodIn wsX1_follow wsX1_take := goodIn_r _ [8, 9, 10, 3, 11, 12, 13, 14, 15, 38, 39, 40, 41, 42, 43, 44] (by decide +kernel) (by decide +kernel)
set_option maxRecDepth 20000 in
theorem gX1_follow_X1_take : GoodIn wsX1_follow (wsV RX1 38 RX1 yX1_take wsX1_take) := goodIn_app (goodIn_of _ (by decide +kernel)) ggX1_follow_X1_take
set_option maxRecDepth 20000 in
theorem ggX1_follow_X4_openFrom : GoodIn wsX1_follow wsX4_openFrom := goodIn_r _ [20, 21, 22, 23, 24, 25, 19, 26, 27, 28, 29, 45, 46, 47, 48, 49, 50, 51] (by decide +kernel) (by decide +kernel)
set_option maxRecDepth 20000 in
theorem gX1_follow_X4_openFrom : GoodIn wsX1_follow (wsV RX1 42 RX4 yX4_openFrom wsX4_openFrom) := goodIn_app (goodIn_of _ (by decide +kernel)) ggX1_follow_X4_openFrom
set_option maxRecDepth 20000 in
theorem ggX1_follow_X4_cells : GoodIn wsX1_follow wsX4_cells := goodIn_r _ [33, 29, 34, 45, 46, 47, 48, 49, 50, 51] (by decide +kernel) (by decide +kernel)
set_option maxRecDepth 20000 in
theorem gX1_follow_X4_cells : GoodIn wsX1_follow (wsV RX1 48 RX4 yX4_cells wsX4_cells) := goodIn_app (goodIn_of _ (by decide +kernel)) ggX1_follow_X4_cells
set_option maxRecDepth 20000 in
theorem ggX1_follow_X1_follow : GoodIn wsX1_follow wsX1_follow := goodIn_r _ [0, 1, 2, 3, 4, 5, 6, 7, 8, 9, 10, 11, 12, 13, 14, 15, 16, 17, 18, 19, 20, 21, 22, 23, 24, 25, 26, 27, 28, 29, 30, 31, 32, 33, 34, 35, 36, 37, 38, 39, 40, 41, 42, 43, 44, 45, 46, 47, 48, 49, 50, 51] (by decide +kernel) (by decide +kernel)
set_option maxRecDepth 20000 in
theorem gX1_follow_X1_follow : GoodIn wsX1_follow (wsV RX1 34 RX1 yX1_follow wsX1_follow) := goodIn_app (goodIn_of _ (by decide +kernel)) ggX1_follow_X1_follow
theorem dX1_follow_0 : decode cX1_follow 0 = .ok (.iload_n 2, 1) := by decide +kernel
theorem dX1_follow_1 : decode cX1_follow 1 = .ok (.aload_n 0, 1) := by decide +kernel
theorem dX1_follow_2 : decode cX1_follow 2 = .ok (.getfield 25, 3) := by decide +kernel
theorem dX1_follow_5 : decode cX1_follow 5 = .ok (.if_icmp .ge 8, 3) := by decide +kernel
theorem dX1_follow_8 : decode cX1_follow 8 = .ok (.iload_n 2, 1) := by decide +kernel
theorem dX1_follow_9 : decode cX1_follow 9 = .ok (.iconst 5, 1) := by decide +kernel
theorem dX1_follow_10 : decode cX1_follow 10 = .ok (.if_icmp .lt 10, 3) := by decide +kernel
theorem dX1_follow_13 : decode cX1_follow 13 = .ok (.aload_n 0, 1) := by decide +kernel
theorem dX1_follow_14 : decode cX1_follow 14 = .ok (.iload 4, 2) := by decide +kernel
theorem dX1_follow_16 : decode cX1_follow 16 = .ok (.invokevirtual 38, 3) := by decide +kernel
theorem dX1_follow_19 : decode cX1_follow 19 = .ok (.return_, 1) := by decide +kernel
theorem dX1_follow_20 : decode cX1_follow 20 = .ok (.aload_n 1, 1) := by decide +kernel
theorem dX1_follow_21 : decode cX1_follow 21 = .ok (.iload_n 3, 1) := by decide +kernel
theorem dX1_follow_22 : decode cX1_follow 22 = .ok (.invokevirtual 42, 3) := by decide +kernel
theorem dX1_follow_25 : decode cX1_follow 25 = .ok (.istore 5, 2) := by decide +kernel
theorem dX1_follow_27 : decode cX1_follow 27 = .ok (.iconst 0, 1) := by decide +kernel
theorem dX1_follow_28 : decode cX1_follow 28 = .ok (.istore 6, 2) := by decide +kernel
theorem dX1_follow_30 : decode cX1_follow 30 = .ok (.iload 6, 2) := by decide +kernel
theorem dX1_follow_32 : decode cX1_follow 32 = .ok (.aload_n 1, 1) := by decide +kernel
theorem dX1_follow_33 : decode cX1_follow 33 = .ok (.invokevirtual 48, 3) := by decide +kernel
theorem dX1_follow_36 : decode cX1_follow 36 = .ok (.if_icmp .ge 71, 3) := by decide +kernel
theorem dX1_follow_39 : decode cX1_follow 39 = .ok (.iload 6, 2) := by decide +kernel
theorem dX1_follow_41 : decode cX1_follow 41 = .ok (.bipush 16, 2) := by decide +kernel
theorem dX1_follow_43 : decode cX1_follow 43 = .ok (.if_icmp .ge 64, 3) := by decide +kernel
theorem dX1_follow_46 : decode cX1_follow 46 = .ok (.iconst 1, 1) := by decide +kernel
theorem dX1_follow_47 : decode cX1_follow 47 = .ok (.iload 6, 2) := by decide +kernel
theorem dX1_follow_49 : decode cX1_follow 49 = .ok (.ishl, 1) := by decide +kernel
theorem dX1_follow_50 : decode cX1_follow 50 = .ok (.istore 7, 2) := by decide +kernel
theorem dX1_follow_52 : decode cX1_follow 52 = .ok (.iload 5, 2) := by decide +kernel
theorem dX1_follow_54 : decode cX1_follow 54 = .ok (.iload 7, 2) := by decide +kernel
theorem dX1_follow_56 : decode cX1_follow 56 = .ok (.iand, 1) := by decide +kernel
theorem dX1_follow_57 : decode cX1_follow 57 = .ok (.ifCond .eq 44, 3) := by decide +kernel
theorem dX1_follow_60 : decode cX1_follow 60 = .ok (.aload_n 1, 1) := by decide +kernel
theorem dX1_follow_61 : decode cX1_follow 61 = .ok (.getfield 52, 3) := by decide +kernel
theorem dX1_follow_64 : decode cX1_follow 64 = .ok (.iload 6, 2) := by decide +kernel
theorem dX1_follow_66 : decode cX1_follow 66 = .ok (.iaload, 1) := by decide +kernel
theorem dX1_follow_67 : decode cX1_follow 67 = .ok (.aload_n 0, 1) := by decide +kernel
theorem dX1_follow_68 : decode cX1_follow 68 = .ok (.getfield 9, 3) := by decide +kernel
theorem dX1_follow_71 : decode cX1_follow 71 = .ok (.iload_n 2, 1) := by decide +kernel
theorem dX1_follow_72 : decode cX1_follow 72 = .ok (.iaload, 1) := by decide +kernel
theorem dX1_follow_73 : decode cX1_follow 73 = .ok (.if_icmp .ne 28, 3) := by decide +kernel
theorem dX1_follow_76 : decode cX1_follow 76 = .ok (.aload_n 0, 1) := by decide +kernel
theorem dX1_follow_77 : decode cX1_follow 77 = .ok (.getfield 15, 3) := by decide +kernel
theorem dX1_follow_80 : decode cX1_follow 80 = .ok (.iload_n 2, 1) := by decide +kernel
theorem dX1_follow_81 : decode cX1_follow 81 = .ok (.iload 6, 2) := by decide +kernel
theorem dX1_follow_83 : decode cX1_follow 83 = .ok (.iastore, 1) := by decide +kernel
theorem dX1_follow_84 : decode cX1_follow 84 = .ok (.aload_n 0, 1) := by decide +kernel
theorem dX1_follow_85 : decode cX1_follow 85 = .ok (.aload_n 1, 1) := by decide +kernel
theorem dX1_follow_86 : decode cX1_follow 86 = .ok (.iload_n 2, 1) := by decide +kernel
theorem dX1_follow_87 : decode cX1_follow 87 = .ok (.iconst 1, 1) := by decide +kernel
theorem dX1_follow_88 : decode cX1_follow 88 = .ok (.iadd, 1) := by decide +kernel
theorem dX1_follow_89 : decode cX1_follow 89 = .ok (.iload_n 3, 1) := by decide +kernel
theorem dX1_follow_90 : decode cX1_follow 90 = .ok (.iload 7, 2) := by decide +kernel
theorem dX1_follow_92 : decode cX1_follow 92 = .ok (.ior, 1) := by decide +kernel
theorem dX1_follow_93 : decode cX1_follow 93 = .ok (.iload 4, 2) := by decide +kernel
theorem dX1_follow_95 : decode cX1_follow 95 = .ok (.iload 7, 2) := by decide +kernel
theorem dX1_follow_97 : decode cX1_follow 97 = .ok (.ior, 1) := by decide +kernel
theorem dX1_follow_98 : decode cX1_follow 98 = .ok (.invokevirtual 34, 3) := by decide +kernel
theorem dX1_follow_101 : decode cX1_follow 101 = .ok (.iinc 6 1, 3) := by decide +kernel
theorem dX1_follow_104 : decode cX1_follow 104 = .ok (.goto (-74), 3) := by decide +kernel
theorem dX1_follow_107 : decode cX1_follow 107 = .ok (.return_, 1) := by decide +kernel
theorem dX1_take_0 : decode cX1_take 0 = .ok (.aload_n 0, 1) := by decide +kernel
theorem dX1_take_1 : decode cX1_take 1 = .ok (.getfield 28, 3) := by decide +kernel
theorem dX1_take_4 : decode cX1_take 4 = .ok (.ifCond .ne 22, 3) := by decide +kernel
theorem dX1_take_7 : decode cX1_take 7 = .ok (.aload_n 0, 1) := by decide +kernel
theorem dX1_take_8 : decode cX1_take 8 = .ok (.iload_n 1, 1) := by decide +kernel
theorem dX1_take_9 : decode cX1_take 9 = .ok (.putfield 31, 3) := by decide +kernel
theorem dX1_take_12 : decode cX1_take 12 = .ok (.aload_n 0, 1) := by decide +kernel
theorem dX1_take_13 : decode cX1_take 13 = .ok (.getfield 15, 3) := by decide +kernel
theorem dX1_take_16 : decode cX1_take 16 = .ok (.iconst 0, 1) := by decide +kernel
theorem dX1_take_17 : decode cX1_take 17 = .ok (.aload_n 0, 1) := by decide +kernel
theorem dX1_take_18 : decode cX1_take 18 = .ok (.getfield 18, 3) := by decide +kernel
theorem dX1_take_21 : decode cX1_take 21 = .ok (.iconst 0, 1) := by decide +kernel
theorem dX1_take_22 : decode cX1_take 22 = .ok (.iconst 5, 1) := by decide +kernel
theorem dX1_take_23 : decode cX1_take 23 = .ok (.invokestatic 53, 3) := by decide +kernel
theorem dX1_take_26 : decode cX1_take 26 = .ok (.aload_n 0, 1) := by decide +kernel
theorem dX1_take_27 : decode cX1_take 27 = .ok (.dup, 1) := by decide +kernel
theorem dX1_take_28 : decode cX1_take 28 = .ok (.getfield 31, 3) := by decide +kernel
theorem dX1_take_31 : decode cX1_take 31 = .ok (.iload_n 1, 1) := by decide +kernel
theorem dX1_take_32 : decode cX1_take 32 = .ok (.iand, 1) := by decide +kernel
theorem dX1_take_33 : decode cX1_take 33 = .ok (.putfield 31, 3) := by decide +kernel
theorem dX1_take_36 : decode cX1_take 36 = .ok (.aload_n 0, 1) := by decide +kernel
theorem dX1_take_37 : decode cX1_take 37 = .ok (.dup, 1) := by decide +kernel
theorem dX1_take_38 : decode cX1_take 38 = .ok (.getfield 28, 3) := by decide +kernel
theorem dX1_take_41 : decode cX1_take 41 = .ok (.iconst 1, 1) := by decide +kernel
theorem dX1_take_42 : decode cX1_take 42 = .ok (.iadd, 1) := by decide +kernel
theorem dX1_take_43 : decode cX1_take 43 = .ok (.putfield 28, 3) := by decide +kernel
theorem dX1_take_46 : decode cX1_take 46 = .ok (.return_, 1) := by decide +kernel
theorem dX2_init_0 : decode cX2_init 0 = .ok (.aload_n 0, 1) := by decide +kernel
theorem dX2_init_1 : decode cX2_init 1 = .ok (.invokespecial 5, 3) := by decide +kernel
theorem dX2_init_4 : decode cX2_init 4 = .ok (.aload_n 0, 1) := by decide +kernel
theorem dX2_init_5 : decode cX2_init 5 = .ok (.sipush 165, 3) := by decide +kernel
theorem dX2_init_8 : decode cX2_init 8 = .ok (.newarray .int, 2) := by decide +kernel
theorem dX2_init_10 : decode cX2_init 10 = .ok (.putfield 11, 3) := by decide +kernel
theorem dX2_init_13 : decode cX2_init 13 = .ok (.return_, 1) := by decide +kernel
set_option maxRecDepth 20000 in
theorem ggX2_begin_X2_setYellow : GoodIn wsX2_begin wsX2_setYellow := goodIn_r _ [7, 1, 12, 13] (by decide +kernel) (by decide +kernel)
set_option maxRecDepth 20000 in
theorem gX2_begin_X2_setYellow : GoodIn wsX2_begin (wsV RX2 24 RX2 yX2_setYellow wsX2_setYellow) := goodIn_app (goodIn_of _ (by decide +kernel)) ggX2_begin_X2_setYellow
set_option maxRecDepth 20000 in
theorem ggX2_begin_X2_setWhite : GoodIn wsX2_begin wsX2_setWhite := goodIn_r _ [11, 1, 12, 13] (by decide +kernel) (by decide +kernel)
set_option maxRecDepth 20000 in
theorem gX2_begin_X2_setWhite : GoodIn wsX2_begin (wsV RX2 31 RX2 yX2_setWhite wsX2_setWhite) := goodIn_app (goodIn_of _ (by decide +kernel)) ggX2_begin_X2_setWhite
theorem dX2_begin_0 : decode cX2_begin 0 = .ok (.aload_n 0, 1) := by decide +kernel
theorem dX2_begin_1 : decode cX2_begin 1 = .ok (.getfield 11, 3) := by decide +kernel
theorem dX2_begin_4 : decode cX2_begin 4 = .ok (.iconst 0, 1) := by decide +kernel
theorem dX2_begin_5 : decode cX2_begin 5 = .ok (.iconst 0, 1) := by decide +kernel
theorem dX2_begin_6 : decode cX2_begin 6 = .ok (.iastore, 1) := by decide +kernel
theorem dX2_begin_7 : decode cX2_begin 7 = .ok (.aload_n 0, 1) := by decide +kernel
theorem dX2_begin_8 : decode cX2_begin 8 = .ok (.getfield 11, 3) := by decide +kernel
theorem dX2_begin_11 : decode cX2_begin 11 = .ok (.iconst 1, 1) := by decide +kernel
theorem dX2_begin_12 : decode cX2_begin 12 = .ok (.iconst 0, 1) := by decide +kernel
theorem dX2_begin_13 : decode cX2_begin 13 = .ok (.iastore, 1) := by decide +kernel
theorem dX2_begin_14 : decode cX2_begin 14 = .ok (.aload_n 0, 1) := by decide +kernel
theorem dX2_begin_15 : decode cX2_begin 15 = .ok (.getfield 11, 3) := by decide +kernel
theorem dX2_begin_18 : decode cX2_begin 18 = .ok (.iconst 2, 1) := by decide +kernel
theorem dX2_begin_19 : decode cX2_begin 19 = .ok (.iconst 0, 1) := by decide +kernel
theorem dX2_begin_20 : decode cX2_begin 20 = .ok (.iastore, 1) := by decide +kernel
theorem dX2_begin_21 : decode cX2_begin 21 = .ok (.iconst 0, 1) := by decide +kernel
theorem dX2_begin_22 : decode cX2_begin 22 = .ok (.istore_n 2, 1) := by decide +kernel
theorem dX2_begin_23 : decode cX2_begin 23 = .ok (.iload_n 2, 1) := by decide +kernel
theorem dX2_begin_24 : decode cX2_begin 24 = .ok (.aload_n 1, 1) := by decide +kernel
theorem dX2_begin_25 : decode cX2_begin 25 = .ok (.getfield 15, 3) := by decide +kernel
theorem dX2_begin_28 : decode cX2_begin 28 = .ok (.if_icmp .ge 31, 3) := by decide +kernel
theorem dX2_begin_31 : decode cX2_begin 31 = .ok (.aload_n 0, 1) := by decide +kernel
theorem dX2_begin_32 : decode cX2_begin 32 = .ok (.iload_n 2, 1) := by decide +kernel
theorem dX2_begin_33 : decode cX2_begin 33 = .ok (.aload_n 1, 1) := by decide +kernel
theorem dX2_begin_34 : decode cX2_begin 34 = .ok (.getfield 21, 3) := by decide +kernel
theorem dX2_begin_37 : decode cX2_begin 37 = .ok (.iload_n 2, 1) := by decide +kernel
theorem dX2_begin_38 : decode cX2_begin 38 = .ok (.iaload, 1) := by decide +kernel
theorem dX2_begin_39 : decode cX2_begin 39 = .ok (.invokevirtual 24, 3) := by decide +kernel
theorem dX2_begin_42 : decode cX2_begin 42 = .ok (.aload_n 0, 1) := by decide +kernel
theorem dX2_begin_43 : decode cX2_begin 43 = .ok (.iload_n 2, 1) := by decide +kernel
theorem dX2_begin_44 : decode cX2_begin 44 = .ok (.aload_n 1, 1) := by decide +kernel
theorem dX2_begin_45 : decode cX2_begin 45 = .ok (.getfield 28, 3) := by decide +kernel
theorem dX2_begin_48 : decode cX2_begin 48 = .ok (.iload_n 2, 1) := by decide +kernel
theorem dX2_begin_49 : decode cX2_begin 49 = .ok (.iaload, 1) := by decide +kernel
theorem dX2_begin_50 : decode cX2_begin 50 = .ok (.invokevirtual 31, 3) := by decide +kernel
theorem dX2_begin_53 : decode cX2_begin 53 = .ok (.iinc 2 1, 3) := by decide +kernel
theorem dX2_begin_56 : decode cX2_begin 56 = .ok (.goto (-33), 3) := by decide +kernel
theorem dX2_begin_59 : decode cX2_begin 59 = .ok (.aload_n 0, 1) := by decide +kernel
theorem dX2_begin_60 : decode cX2_begin 60 = .ok (.iconst 0, 1) := by decide +kernel
theorem dX2_begin_61 : decode cX2_begin 61 = .ok (.putfield 34, 3) := by decide +kernel
theorem dX2_begin_64 : decode cX2_begin 64 = .ok (.return_, 1) := by decide +kernel
theorem dX2_remember_0 : decode cX2_remember 0 = .ok (.aload_n 0, 1) := by decide +kernel
theorem dX2_remember_1 : decode cX2_remember 1 = .ok (.getfield 11, 3) := by decide +kernel
theorem dX2_remember_4 : decode cX2_remember 4 = .ok (.iconst 0, 1) := by decide +kernel
theorem dX2_remember_5 : decode cX2_remember 5 = .ok (.aload_n 0, 1) := by decide +kernel
theorem dX2_remember_6 : decode cX2_remember 6 = .ok (.getfield 11, 3) := by decide +kernel
theorem dX2_remember_9 : decode cX2_remember 9 = .ok (.bipush 15, 2) := by decide +kernel
theorem dX2_remember_11 : decode cX2_remember 11 = .ok (.sipush 150, 3) := by decide +kernel
theorem dX2_remember_14 : decode cX2_remember 14 = .ok (.invokestatic 37, 3) := by decide +kernel
theorem dX2_remember_17 : decode cX2_remember 17 = .ok (.aload_n 0, 1) := by decide +kernel
theorem dX2_remember_18 : decode cX2_remember 18 = .ok (.aload_n 0, 1) := by decide +kernel
theorem dX2_remember_19 : decode cX2_remember 19 = .ok (.getfield 34, 3) := by decide +kernel
theorem dX2_remember_22 : decode cX2_remember 22 = .ok (.iconst 1, 1) := by decide +kernel
theorem dX2_remember_23 : decode cX2_remember 23 = .ok (.iadd, 1) := by decide +kernel
theorem dX2_remember_24 : decode cX2_remember 24 = .ok (.bipush 10, 2) := by decide +kernel
theorem dX2_remember_26 : decode cX2_remember 26 = .ok (.invokestatic 43, 3) := by decide +kernel
theorem dX2_remember_29 : decode cX2_remember 29 = .ok (.putfield 34, 3) := by decide +kernel
theorem dX2_remember_32 : decode cX2_remember 32 = .ok (.return_, 1) := by decide +kernel
theorem dX2_stepBack_0 : decode cX2_stepBack 0 = .ok (.aload_n 0, 1) := by decide +kernel
theorem dX2_stepBack_1 : decode cX2_stepBack 1 = .ok (.getfield 11, 3) := by decide +kernel
theorem dX2_stepBack_4 : decode cX2_stepBack 4 = .ok (.bipush 15, 2) := by decide +kernel
theorem dX2_stepBack_6 : decode cX2_stepBack 6 = .ok (.aload_n 0, 1) := by decide +kernel
theorem dX2_stepBack_7 : decode cX2_stepBack 7 = .ok (.getfield 11, 3) := by decide +kernel
theorem dX2_stepBack_10 : decode cX2_stepBack 10 = .ok (.iconst 0, 1) := by decide +kernel
theorem dX2_stepBack_11 : decode cX2_stepBack 11 = .ok (.sipush 150, 3) := by decide +kernel
theorem dX2_stepBack_14 : decode cX2_stepBack 14 = .ok (.invokestatic 37, 3) := by decide +kernel
theorem dX2_stepBack_17 : decode cX2_stepBack 17 = .ok (.aload_n 0, 1) := by decide +kernel
theorem dX2_stepBack_18 : decode cX2_stepBack 18 = .ok (.aload_n 0, 1) := by decide +kernel
theorem dX2_stepBack_19 : decode cX2_stepBack 19 = .ok (.getfield 34, 3) := by decide +kernel
theorem dX2_stepBack_22 : decode cX2_stepBack 22 = .ok (.iconst 1, 1) := by decide +kernel
theorem dX2_stepBack_23 : decode cX2_stepBack 23 = .ok (.isub, 1) := by decide +kernel
theorem dX2_stepBack_24 : decode cX2_stepBack 24 = .ok (.iconst 0, 1) := by decide +kernel
theorem dX2_stepBack_25 : decode cX2_stepBack 25 = .ok (.invokestatic 49, 3) := by decide +kernel
theorem dX2_stepBack_28 : decode cX2_stepBack 28 = .ok (.putfield 34, 3) := by decide +kernel
theorem dX2_stepBack_31 : decode cX2_stepBack 31 = .ok (.return_, 1) := by decide +kernel
theorem dX2_copyFrom_0 : decode cX2_copyFrom 0 = .ok (.aload_n 1, 1) := by decide +kernel
theorem dX2_copyFrom_1 : decode cX2_copyFrom 1 = .ok (.getfield 11, 3) := by decide +kernel
theorem dX2_copyFrom_4 : decode cX2_copyFrom 4 = .ok (.iconst 0, 1) := by decide +kernel
theorem dX2_copyFrom_5 : decode cX2_copyFrom 5 = .ok (.aload_n 0, 1) := by decide +kernel
theorem dX2_copyFrom_6 : decode cX2_copyFrom 6 = .ok (.getfield 11, 3) := by decide +kernel
theorem dX2_copyFrom_9 : decode cX2_copyFrom 9 = .ok (.iconst 0, 1) := by decide +kernel
theorem dX2_copyFrom_10 : decode cX2_copyFrom 10 = .ok (.sipush 165, 3) := by decide +kernel
theorem dX2_copyFrom_13 : decode cX2_copyFrom 13 = .ok (.invokestatic 37, 3) := by decide +kernel
theorem dX2_copyFrom_16 : decode cX2_copyFrom 16 = .ok (.aload_n 0, 1) := by decide +kernel
theorem dX2_copyFrom_17 : decode cX2_copyFrom 17 = .ok (.aload_n 1, 1) := by decide +kernel
theorem dX2_copyFrom_18 : decode cX2_copyFrom 18 = .ok (.getfield 34, 3) := by decide +kernel
theorem dX2_copyFrom_21 : decode cX2_copyFrom 21 = .ok (.putfield 34, 3) := by decide +kernel
theorem dX2_copyFrom_24 : decode cX2_copyFrom 24 = .ok (.return_, 1) := by decide +kernel
theorem dX2_dug_0 : decode cX2_dug 0 = .ok (.aload_n 0, 1) := by decide +kernel
theorem dX2_dug_1 : decode cX2_dug 1 = .ok (.getfield 11, 3) := by decide +kernel
theorem dX2_dug_4 : decode cX2_dug 4 = .ok (.iconst 0, 1) := by decide +kernel
theorem dX2_dug_5 : decode cX2_dug 5 = .ok (.iaload, 1) := by decide +kernel
theorem dX2_dug_6 : decode cX2_dug 6 = .ok (.ireturn, 1) := by decide +kernel
theorem dX2_store_0 : decode cX2_store 0 = .ok (.aload_n 0, 1) := by decide +kernel
theorem dX2_store_1 : decode cX2_store 1 = .ok (.getfield 11, 3) := by decide +kernel
theorem dX2_store_4 : decode cX2_store 4 = .ok (.iconst 1, 1) := by decide +kernel
theorem dX2_store_5 : decode cX2_store 5 = .ok (.iaload, 1) := by decide +kernel
theorem dX2_store_6 : decode cX2_store 6 = .ok (.ireturn, 1) := by decide +kernel
theorem dX2_year_0 : decode cX2_year 0 = .ok (.aload_n 0, 1) := by decide +kernel
theorem dX2_year_1 : decode cX2_year 1 = .ok (.getfield 11, 3) := by decide +kernel
theorem dX2_year_4 : decode cX2_year 4 = .ok (.iconst 2, 1) := by decide +kernel
theorem dX2_year_5 : decode cX2_year 5 = .ok (.iaload, 1) := by decide +kernel
theorem dX2_year_6 : decode cX2_year 6 = .ok (.ireturn, 1) := by decide +kernel
theorem dX2_yellow_0 : decode cX2_yellow 0 = .ok (.aload_n 0, 1) := by decide +kernel
theorem dX2_yellow_1 : decode cX2_yellow 1 = .ok (.getfield 11, 3) := by decide +kernel
theorem dX2_yellow_4 : decode cX2_yellow 4 = .ok (.iconst 3, 1) := by decide +kernel
theorem dX2_yellow_5 : decode cX2_yellow 5 = .ok (.iload_n 1, 1) := by decide +kernel
theorem dX2_yellow_6 : decode cX2_yellow 6 = .ok (.iadd, 1) := by decide +kernel
theorem dX2_yellow_7 : decode cX2_yellow 7 = .ok (.iaload, 1) := by decide +kernel
theorem dX2_yellow_8 : decode cX2_yellow 8 = .ok (.ireturn, 1) := by decide +kernel
theorem dX2_white_0 : decode cX2_white 0 = .ok (.aload_n 0, 1) := by decide +kernel
theorem dX2_white_1 : decode cX2_white 1 = .ok (.getfield 11, 3) := by decide +kernel
theorem dX2_white_4 : decode cX2_white 4 = .ok (.bipush 9, 2) := by decide +kernel
theorem dX2_white_6 : decode cX2_white 6 = .ok (.iload_n 1, 1) := by decide +kernel
theorem dX2_white_7 : decode cX2_white 7 = .ok (.iadd, 1) := by decide +kernel
theorem dX2_white_8 : decode cX2_white 8 = .ok (.iaload, 1) := by decide +kernel
theorem dX2_white_9 : decode cX2_white 9 = .ok (.ireturn, 1) := by decide +kernel
theorem dX2_setDug_0 : decode cX2_setDug 0 = .ok (.aload_n 0, 1) := by decide +kernel
theorem dX2_setDug_1 : decode cX2_setDug 1 = .ok (.getfield 11, 3) := by decide +kernel
theorem dX2_setDug_4 : decode cX2_setDug 4 = .ok (.iconst 0, 1) := by decide +kernel
theorem dX2_setDug_5 : decode cX2_setDug 5 = .ok (.iload_n 1, 1) := by decide +kernel
theorem dX2_setDug_6 : decode cX2_setDug 6 = .ok (.iastore, 1) := by decide +kernel
theorem dX2_setDug_7 : decode cX2_setDug 7 = .ok (.return_, 1) := by decide +kernel
theorem dX2_addStore_0 : decode cX2_addStore 0 = .ok (.aload_n 0, 1) := by decide +kernel
theorem dX2_addStore_1 : decode cX2_addStore 1 = .ok (.getfield 11, 3) := by decide +kernel
theorem dX2_addStore_4 : decode cX2_addStore 4 = .ok (.iconst 1, 1) := by decide +kernel
theorem dX2_addStore_5 : decode cX2_addStore 5 = .ok (.dup2, 1) := by decide +kernel
theorem dX2_addStore_6 : decode cX2_addStore 6 = .ok (.iaload, 1) := by decide +kernel
theorem dX2_addStore_7 : decode cX2_addStore 7 = .ok (.iload_n 1, 1) := by decide +kernel
theorem dX2_addStore_8 : decode cX2_addStore 8 = .ok (.iadd, 1) := by decide +kernel
theorem dX2_addStore_9 : decode cX2_addStore 9 = .ok (.iastore, 1) := by decide +kernel
theorem dX2_addStore_10 : decode cX2_addStore 10 = .ok (.return_, 1) := by decide +kernel
theorem dX2_setYear_0 : decode cX2_setYear 0 = .ok (.aload_n 0, 1) := by decide +kernel
theorem dX2_setYear_1 : decode cX2_setYear 1 = .ok (.getfield 11, 3) := by decide +kernel
theorem dX2_setYear_4 : decode cX2_setYear 4 = .ok (.iconst 2, 1) := by decide +kernel
theorem dX2_setYear_5 : decode cX2_setYear 5 = .ok (.iload_n 1, 1) := by decide +kernel
theorem dX2_setYear_6 : decode cX2_setYear 6 = .ok (.iastore, 1) := by decide +kernel
theorem dX2_setYear_7 : decode cX2_setYear 7 = .ok (.return_, 1) := by decide +kernel
theorem dX2_setYellow_0 : decode cX2_setYellow 0 = .ok (.aload_n 0, 1) := by decide +kernel
theorem dX2_setYellow_1 : decode cX2_setYellow 1 = .ok (.getfield 11, 3) := by decide +kernel
theorem dX2_setYellow_4 : decode cX2_setYellow 4 = .ok (.iconst 3, 1) := by decide +kernel
theorem dX2_setYellow_5 : decode cX2_setYellow 5 = .ok (.iload_n 1, 1) := by decide +kernel
theorem dX2_setYellow_6 : decode cX2_setYellow 6 = .ok (.iadd, 1) := by decide +kernel
theorem dX2_setYellow_7 : decode cX2_setYellow 7 = .ok (.iload_n 2, 1) := by decide +kernel
theorem dX2_setYellow_8 : decode cX2_setYellow 8 = .ok (.iastore, 1) := by decide +kernel
theorem dX2_setYellow_9 : decode cX2_setYellow 9 = .ok (.return_, 1) := by decide +kernel
theorem dX2_setWhite_0 : decode cX2_setWhite 0 = .ok (.aload_n 0, 1) := by decide +kernel
theorem dX2_setWhite_1 : decode cX2_setWhite 1 = .ok (.getfield 11, 3) := by decide +kernel
theorem dX2_setWhite_4 : decode cX2_setWhite 4 = .ok (.bipush 9, 2) := by decide +kernel
theorem dX2_setWhite_6 : decode cX2_setWhite 6 = .ok (.iload_n 1, 1) := by decide +kernel
theorem dX2_setWhite_7 : decode cX2_setWhite 7 = .ok (.iadd, 1) := by decide +kernel
theorem dX2_setWhite_8 : decode cX2_setWhite 8 = .ok (.iload_n 2, 1) := by decide +kernel
theorem dX2_setWhite_9 : decode cX2_setWhite 9 = .ok (.iastore, 1) := by decide +kernel
theorem dX2_setWhite_10 : decode cX2_setWhite 10 = .ok (.return_, 1) := by decide +kernel
theorem dX3_init_0 : decode cX3_init 0 = .ok (.aload_n 0, 1) := by decide +kernel
theorem dX3_init_1 : decode cX3_init 1 = .ok (.invokespecial 3, 3) := by decide +kernel
theorem dX3_init_4 : decode cX3_init 4 = .ok (.aload_n 0, 1) := by decide +kernel
theorem dX3_init_5 : decode cX3_init 5 = .ok (.sipush 150, 3) := by decide +kernel
theorem dX3_init_8 : decode cX3_init 8 = .ok (.newarray .char, 2) := by decide +kernel
theorem dX3_init_10 : decode cX3_init 10 = .ok (.putfield 9, 3) := by decide +kernel
theorem dX3_init_13 : decode cX3_init 13 = .ok (.return_, 1) := by decide +kernel
theorem dX3_add_0 : decode cX3_add 0 = .ok (.aload_n 0, 1) := by decide +kernel
theorem dX3_add_1 : decode cX3_add 1 = .ok (.getfield 15, 3) := by decide +kernel
theorem dX3_add_4 : decode cX3_add 4 = .ok (.sipush 150, 3) := by decide +kernel
theorem dX3_add_7 : decode cX3_add 7 = .ok (.if_icmp .lt 5, 3) := by decide +kernel
theorem dX3_add_10 : decode cX3_add 10 = .ok (.iconst 0, 1) := by decide +kernel
theorem dX3_add_11 : decode cX3_add 11 = .ok (.ireturn, 1) := by decide +kernel
theorem dX3_add_12 : decode cX3_add 12 = .ok (.aload_n 0, 1) := by decide +kernel
theorem dX3_add_13 : decode cX3_add 13 = .ok (.getfield 9, 3) := by decide +kernel
theorem dX3_add_16 : decode cX3_add 16 = .ok (.aload_n 0, 1) := by decide +kernel
theorem dX3_add_17 : decode cX3_add 17 = .ok (.getfield 15, 3) := by decide +kernel
theorem dX3_add_20 : decode cX3_add 20 = .ok (.iload_n 1, 1) := by decide +kernel
theorem dX3_add_21 : decode cX3_add 21 = .ok (.i2c, 1) := by decide +kernel
theorem dX3_add_22 : decode cX3_add 22 = .ok (.castore, 1) := by decide +kernel
theorem dX3_add_23 : decode cX3_add 23 = .ok (.aload_n 0, 1) := by decide +kernel
theorem dX3_add_24 : decode cX3_add 24 = .ok (.dup, 1) := by decide +kernel
theorem dX3_add_25 : decode cX3_add 25 = .ok (.getfield 15, 3) := by decide +kernel
theorem dX3_add_28 : decode cX3_add 28 = .ok (.iconst 1, 1) := by decide +kernel
theorem dX3_add_29 : decode cX3_add 29 = .ok (.iadd, 1) := by decide +kernel
theorem dX3_add_30 : decode cX3_add 30 = .ok (.putfield 15, 3) := by decide +kernel
theorem dX3_add_33 : decode cX3_add 33 = .ok (.iconst 1, 1) := by decide +kernel
theorem dX3_add_34 : decode cX3_add 34 = .ok (.ireturn, 1) := by decide +kernel
set_option maxRecDepth 20000 in
theorem ggX3_readInto_X5_wipe : GoodIn wsX3_readInto wsX5_wipe := goodIn_r _ [8, 9, 10, 11, 12, 13, 14, 15, 16, 17, 18, 19, 20, 21, 22, 23, 24, 25, 26, 27, 28, 29, 30, 31, 90, 91, 92, 93, 94, 95, 96, 97, 98, 99, 100, 101, 102, 103, 104, 105, 106, 107] (by decide +kernel) (by decide +kernel)
set_option maxRecDepth 20000 in
theorem gX3_readInto_X5_wipe : GoodIn wsX3_readInto (wsV RX3 19 RX5 yX5_wipe wsX5_wipe) := goodIn_app (goodIn_of _ (by decide +kernel)) ggX3_readInto_X5_wipe
set_option maxRecDepth 20000 in
theorem ggX3_readInto_X3_findToken : GoodIn wsX3_readInto wsX3_findToken := goodIn_r _ [36, 1, 3, 37, 2, 86, 87, 88, 89] (by decide +kernel) (by decide +kernel)
set_option maxRecDepth 20000 in
theorem gX3_readInto_X3_findToken : GoodIn wsX3_readInto (wsV RX3 27 RX3 yX3_findToken wsX3_findToken) := goodIn_app (goodIn_of _ (by decide +kernel)) ggX3_readInto_X3_findToken
set_option maxRecDepth 20000 in
theorem ggX3_readInto_X3_readItem : GoodIn wsX3_readInto wsX3_readItem := goodIn_r _ [41, 42, 43, 44, 35, 45, 1, 37, 2, 46, 47, 48, 49, 3, 50, 51, 52, 53, 54, 55, 56, 57, 58, 59, 60, 32, 33, 34, 36, 61, 62, 63, 64, 65, 17, 18, 19, 20, 21, 22, 23, 24, 25, 26, 27, 28, 29, 30, 31, 66, 67, 68, 69, 70, 71, 72, 73, 74, 75, 76, 77, 78, 79, 80, 81, 82, 83, 84, 85, 86, 87, 88, 89, 90, 91, 92, 93, 94, 95, 96, 97, 98, 99, 100, 101, 102, 103, 104, 105, 106, 107] (by decide +kernel) (by decide +kernel)
set_option maxRecDepth 20000 in
theorem gX3_readInto_X3_readItem : GoodIn wsX3_readInto (wsV RX3 33 RX3 yX3_readItem wsX3_readItem) := goodIn_app (goodIn_of _ (by decide +kernel)) ggX3_readInto_X3_readItem
theorem dX3_readInto_0 : decode cX3_readInto 0 = .ok (.aload_n 1, 1) := by decide +kernel
theorem dX3_readInto_1 : decode cX3_readInto 1 = .ok (.invokevirtual 19, 3) := by decide +kernel
theorem dX3_readInto_4 : decode cX3_readInto 4 = .ok (.aload_n 0, 1) := by decide +kernel
theorem dX3_readInto_5 : decode cX3_readInto 5 = .ok (.iconst 0, 1) := by decide +kernel
theorem dX3_readInto_6 : decode cX3_readInto 6 = .ok (.putfield 24, 3) := by decide +kernel
theorem dX3_readInto_9 : decode cX3_readInto 9 = .ok (.iconst 0, 1) := by decide +kernel
theorem dX3_readInto_10 : decode cX3_readInto 10 = .ok (.istore_n 2, 1) := by decide +kernel
theorem dX3_readInto_11 : decode cX3_readInto 11 = .ok (.iconst 0, 1) := by decide +kernel
theorem dX3_readInto_12 : decode cX3_readInto 12 = .ok (.istore_n 3, 1) := by decide +kernel
theorem dX3_readInto_13 : decode cX3_readInto 13 = .ok (.iload_n 3, 1) := by decide +kernel
theorem dX3_readInto_14 : decode cX3_readInto 14 = .ok (.sipush 150, 3) := by decide +kernel
theorem dX3_readInto_17 : decode cX3_readInto 17 = .ok (.if_icmp .gt 46, 3) := by decide +kernel
theorem dX3_readInto_20 : decode cX3_readInto 20 = .ok (.aload_n 0, 1) := by decide +kernel
theorem dX3_readInto_21 : decode cX3_readInto 21 = .ok (.invokevirtual 27, 3) := by decide +kernel
theorem dX3_readInto_24 : decode cX3_readInto 24 = .ok (.aload_n 0, 1) := by decide +kernel
theorem dX3_readInto_25 : decode cX3_readInto 25 = .ok (.getfield 30, 3) := by decide +kernel
theorem dX3_readInto_28 : decode cX3_readInto 28 = .ok (.aload_n 0, 1) := by decide +kernel
theorem dX3_readInto_29 : decode cX3_readInto 29 = .ok (.getfield 15, 3) := by decide +kernel
theorem dX3_readInto_32 : decode cX3_readInto 32 = .ok (.if_icmp .lt 6, 3) := by decide +kernel
theorem dX3_readInto_35 : decode cX3_readInto 35 = .ok (.goto 28, 3) := by decide +kernel
theorem dX3_readInto_38 : decode cX3_readInto 38 = .ok (.aload_n 0, 1) := by decide +kernel
theorem dX3_readInto_39 : decode cX3_readInto 39 = .ok (.aload_n 1, 1) := by decide +kernel
theorem dX3_readInto_40 : decode cX3_readInto 40 = .ok (.invokevirtual 33, 3) := by decide +kernel
theorem dX3_readInto_43 : decode cX3_readInto 43 = .ok (.ifCond .ne 11, 3) := by decide +kernel
theorem dX3_readInto_46 : decode cX3_readInto 46 = .ok (.bipush (-10), 2) := by decide +kernel
theorem dX3_readInto_48 : decode cX3_readInto 48 = .ok (.aload_n 0, 1) := by decide +kernel
theorem dX3_readInto_49 : decode cX3_readInto 49 = .ok (.getfield 30, 3) := by decide +kernel
theorem dX3_readInto_52 : decode cX3_readInto 52 = .ok (.isub, 1) := by decide +kernel
theorem dX3_readInto_53 : decode cX3_readInto 53 = .ok (.ireturn, 1) := by decide +kernel
theorem dX3_readInto_54 : decode cX3_readInto 54 = .ok (.iinc 2 1, 3) := by decide +kernel
theorem dX3_readInto_57 : decode cX3_readInto 57 = .ok (.iinc 3 1, 3) := by decide +kernel
theorem dX3_readInto_60 : decode cX3_readInto 60 = .ok (.goto (-47), 3) := by decide +kernel
theorem dX3_readInto_63 : decode cX3_readInto 63 = .ok (.iload_n 2, 1) := by decide +kernel
theorem dX3_readInto_64 : decode cX3_readInto 64 = .ok (.ireturn, 1) := by decide +kernel
set_option maxRecDepth 20000 in
theorem ggX3_readItem_X3_readLetter : GoodIn wsX3_readItem wsX3_readLetter := goodIn_r _ [5, 6, 7, 8, 9, 10, 11, 4, 12, 13, 14, 15, 16, 69, 70, 71, 72] (by decide +kernel) (by decide +kernel)
set_option maxRecDepth 20000 in
theorem gX3_readItem_X3_readLetter : GoodIn wsX3_readItem (wsV RX3 37 RX3 yX3_readLetter wsX3_readLetter) := goodIn_app (goodIn_of _ (by decide +kernel)) ggX3_readItem_X3_readLetter
set_option maxRecDepth 20000 in
theorem ggX3_readItem_X3_readSeam : GoodIn wsX3_readItem wsX3_readSeam := goodIn_r _ [20, 21, 22, 23, 4, 24, 6, 13, 8, 7, 25, 26, 27, 28, 29, 30, 31, 32, 14, 15, 16, 33, 34, 35, 36, 37, 38, 39, 40, 41, 42, 43, 44, 45, 46, 47, 48, 49, 50, 51, 52, 53, 54, 55, 56, 73, 74, 75, 76, 77, 78, 79, 80, 81, 82, 83, 84, 85, 86, 87, 88, 89, 90, 69, 70, 71, 72] (by decide +kernel) (by decide +kernel)
set_option maxRecDepth 20000 in
theorem gX3_readItem_X3_readSeam : GoodIn wsX3_readItem (wsV RX3 41 RX3 yX3_readSeam wsX3_readSeam) := goodIn_app (goodIn_of _ (by decide +kernel)) ggX3_readItem_X3_readSeam
set_option maxRecDepth 20000 in
theorem ggX3_readItem_X3_readThing : GoodIn wsX3_readItem wsX3_readThing := goodIn_r _ [60, 21, 22, 23, 4, 24, 6, 13, 8, 7, 25, 26, 27, 28, 29, 30, 31, 32, 14, 15, 16, 53, 54, 55, 56, 73, 74, 75, 76, 77, 78, 79, 80, 81, 82, 83, 69, 70, 71, 72] (by decide +kernel) (by decide +kernel)
set_option maxRecDepth 20000 in
theorem gX3_readItem_X3_readThing : GoodIn wsX3_readItem (wsV RX3 44 RX3 yX3_readThing wsX3_readThing) := goodIn_app (goodIn_of _ (by decide +kernel)) ggX3_readItem_X3_readThing
set_option maxRecDepth 20000 in
theorem ggX3_readItem_X3_readBound : GoodIn wsX3_readItem wsX3_readBound := goodIn_r _ [64, 21, 22, 23, 4, 24, 6, 13, 8, 7, 25, 26, 27, 28, 29, 30, 31, 32, 14, 15, 16, 53, 54, 55, 56, 73, 74, 75, 76, 77, 78, 79, 80, 81, 82, 83, 69, 70, 71, 72] (by decide +kernel) (by decide +kernel)
set_option maxRecDepth 20000 in
theorem gX3_readItem_X3_readBound : GoodIn wsX3_readItem (wsV RX3 47 RX3 yX3_readBound wsX3_readBound) := goodIn_app (goodIn_of _ (by decide +kernel)) ggX3_readItem_X3_readBound
set_option maxRecDepth 20000 in
theorem ggX3_readItem_X3_readLoss : GoodIn wsX3_readItem wsX3_readLoss := goodIn_r _ [68, 21, 22, 23, 4, 24, 6, 13, 8, 7, 25, 26, 27, 28, 29, 30, 31, 32, 14, 15, 16, 53, 54, 55, 56, 73, 74, 75, 76, 77, 78, 79, 80, 81, 82, 83, 69, 70, 71, 72] (by decide +kernel) (by decide +kernel)
set_option maxRecDepth 20000 in
theorem gX3_readItem_X3_readLoss : GoodIn wsX3_readItem (wsV RX3 50 RX3 yX3_readLoss wsX3_readLoss) := goodIn_app (goodIn_of _ (by decide +kernel)) ggX3_readItem_X3_readLoss
theorem dX3_readItem_0 : decode cX3_readItem 0 = .ok (.aload_n 0, 1) := by decide +kernel
theorem dX3_readItem_1 : decode cX3_readItem 1 = .ok (.invokevirtual 37, 3) := by decide +kernel
theorem dX3_readItem_4 : decode cX3_readItem 4 = .ok (.lookupswitch 68 #[(98, 56), (108, 62), (115, 44), (116, 50)], 44) := by decide +kernel
theorem dX3_readItem_48 : decode cX3_readItem 48 = .ok (.aload_n 0, 1) := by decide +kernel
theorem dX3_readItem_49 : decode cX3_readItem 49 = .ok (.aload_n 1, 1) := by decide +kernel
theorem dX3_readItem_50 : decode cX3_readItem 50 = .ok (.invokevirtual 41, 3) := by decide +kernel
theorem dX3_readItem_53 : decode cX3_readItem 53 = .ok (.ireturn, 1) := by decide +kernel
theorem dX3_readItem_54 : decode cX3_readItem 54 = .ok (.aload_n 0, 1) := by decide +kernel
theorem dX3_readItem_55 : decode cX3_readItem 55 = .ok (.aload_n 1, 1) := by decide +kernel
theorem dX3_readItem_56 : decode cX3_readItem 56 = .ok (.invokevirtual 44, 3) := by decide +kernel
theorem dX3_readItem_59 : decode cX3_readItem 59 = .ok (.ireturn, 1) := by decide +kernel
theorem dX3_readItem_60 : decode cX3_readItem 60 = .ok (.aload_n 0, 1) := by decide +kernel
theorem dX3_readItem_61 : decode cX3_readItem 61 = .ok (.aload_n 1, 1) := by decide +kernel
theorem dX3_readItem_62 : decode cX3_readItem 62 = .ok (.invokevirtual 47, 3) := by decide +kernel
theorem dX3_readItem_65 : decode cX3_readItem 65 = .ok (.ireturn, 1) := by decide +kernel
theorem dX3_readItem_66 : decode cX3_readItem 66 = .ok (.aload_n 0, 1) := by decide +kernel
theorem dX3_readItem_67 : decode cX3_readItem 67 = .ok (.aload_n 1, 1) := by decide +kernel
theorem dX3_readItem_68 : decode cX3_readItem 68 = .ok (.invokevirtual 50, 3) := by decide +kernel
theorem dX3_readItem_71 : decode cX3_readItem 71 = .ok (.ireturn, 1) := by decide +kernel
theorem dX3_readItem_72 : decode cX3_readItem 72 = .ok (.iconst 0, 1) := by decide +kernel
theorem dX3_readItem_73 : decode cX3_readItem 73 = .ok (.ireturn, 1) := by decide +kernel
set_option maxRecDepth 20000 in
theorem ggX3_readSeam_X3_readNumber : GoodIn wsX3_readSeam wsX3_readNumber := goodIn_r _ [5, 6, 7, 8, 9, 10, 11, 12, 4, 13, 14, 15, 16, 17, 18, 19, 20, 63, 64, 65, 66] (by decide +kernel) (by decide +kernel)
set_option maxRecDepth 20000 in
theorem gX3_readSeam_X3_readNumber : GoodIn wsX3_readSeam (wsV RX3 57 RX3 yX3_readNumber wsX3_readNumber) := goodIn_app (goodIn_of _ (by decide +kernel)) ggX3_readSeam_X3_readNumber
set_option maxRecDepth 20000 in
theorem ggX3_readSeam_X4_shape : GoodIn wsX3_readSeam wsX4_shape := goodIn_r _ [25, 26, 27, 28, 29, 30, 31, 32, 33, 34, 35, 24, 36, 56, 57, 58, 59, 60, 61, 62] (by decide +kernel) (by decide +kernel)
set_option maxRecDepth 20000 in
theorem gX3_readSeam_X4_shape : GoodIn wsX3_readSeam (wsV RX3 65 RX4 yX4_shape wsX4_shape) := goodIn_app (goodIn_of _ (by decide +kernel)) ggX3_readSeam_X4_shape
set_option maxRecDepth 20000 in
theorem ggX3_readSeam_X3_readFigure : GoodIn wsX3_readSeam wsX3_readFigure := goodIn_r _ [40, 6, 9, 8, 10, 11, 12, 4, 13, 7, 14, 15, 16, 17, 18, 19, 20, 63, 64, 65, 66] (by decide +kernel) (by decide +kernel)
set_option maxRecDepth 20000 in
theorem gX3_readSeam_X3_readFigure : GoodIn wsX3_readSeam (wsV RX3 71 RX3 yX3_readFigure wsX3_readFigure) := goodIn_app (goodIn_of _ (by decide +kernel)) ggX3_readSeam_X3_readFigure
set_option maxRecDepth 20000 in
theorem ggX3_readSeam_X3_readEnd : GoodIn wsX3_readSeam wsX3_readEnd := goodIn_r _ [44, 6, 7, 9, 10, 11, 12, 4, 13, 8, 63, 64, 65, 66] (by decide +kernel) (by decide +kernel)
set_option maxRecDepth 20000 in
theorem gX3_readSeam_X3_readEnd : GoodIn wsX3_readSeam (wsV RX3 78 RX3 yX3_readEnd wsX3_readEnd) := goodIn_app (goodIn_of _ (by decide +kernel)) ggX3_readSeam_X3_readEnd
theorem dX3_readSeam_0 : decode cX3_readSeam 0 = .ok (.aload_n 1, 1) := by decide +kernel
theorem dX3_readSeam_1 : decode cX3_readSeam 1 = .ok (.getfield 53, 3) := by decide +kernel
theorem dX3_readSeam_4 : decode cX3_readSeam 4 = .ok (.ifCond .eq 5, 3) := by decide +kernel
theorem dX3_readSeam_7 : decode cX3_readSeam 7 = .ok (.iconst 0, 1) := by decide +kernel
theorem dX3_readSeam_8 : decode cX3_readSeam 8 = .ok (.ireturn, 1) := by decide +kernel
theorem dX3_readSeam_9 : decode cX3_readSeam 9 = .ok (.aload_n 0, 1) := by decide +kernel
theorem dX3_readSeam_10 : decode cX3_readSeam 10 = .ok (.iconst 1, 1) := by decide +kernel
theorem dX3_readSeam_11 : decode cX3_readSeam 11 = .ok (.iconst 4, 1) := by decide +kernel
theorem dX3_readSeam_12 : decode cX3_readSeam 12 = .ok (.invokevirtual 57, 3) := by decide +kernel
theorem dX3_readSeam_15 : decode cX3_readSeam 15 = .ok (.istore_n 2, 1) := by decide +kernel
theorem dX3_readSeam_16 : decode cX3_readSeam 16 = .ok (.iload_n 2, 1) := by decide +kernel
theorem dX3_readSeam_17 : decode cX3_readSeam 17 = .ok (.iconst (-1), 1) := by decide +kernel
theorem dX3_readSeam_18 : decode cX3_readSeam 18 = .ok (.if_icmp .ne 5, 3) := by decide +kernel
theorem dX3_readSeam_21 : decode cX3_readSeam 21 = .ok (.iconst 0, 1) := by decide +kernel
theorem dX3_readSeam_22 : decode cX3_readSeam 22 = .ok (.ireturn, 1) := by decide +kernel
theorem dX3_readSeam_23 : decode cX3_readSeam 23 = .ok (.aload_n 0, 1) := by decide +kernel
theorem dX3_readSeam_24 : decode cX3_readSeam 24 = .ok (.iconst 1, 1) := by decide +kernel
theorem dX3_readSeam_25 : decode cX3_readSeam 25 = .ok (.iconst 4, 1) := by decide +kernel
theorem dX3_readSeam_26 : decode cX3_readSeam 26 = .ok (.invokevirtual 57, 3) := by decide +kernel
theorem dX3_readSeam_29 : decode cX3_readSeam 29 = .ok (.istore_n 3, 1) := by decide +kernel
theorem dX3_readSeam_30 : decode cX3_readSeam 30 = .ok (.iload_n 3, 1) := by decide +kernel
theorem dX3_readSeam_31 : decode cX3_readSeam 31 = .ok (.iconst (-1), 1) := by decide +kernel
theorem dX3_readSeam_32 : decode cX3_readSeam 32 = .ok (.if_icmp .ne 5, 3) := by decide +kernel
theorem dX3_readSeam_35 : decode cX3_readSeam 35 = .ok (.iconst 0, 1) := by decide +kernel
theorem dX3_readSeam_36 : decode cX3_readSeam 36 = .ok (.ireturn, 1) := by decide +kernel
theorem dX3_readSeam_37 : decode cX3_readSeam 37 = .ok (.aload_n 1, 1) := by decide +kernel
theorem dX3_readSeam_38 : decode cX3_readSeam 38 = .ok (.getfield 61, 3) := by decide +kernel
theorem dX3_readSeam_41 : decode cX3_readSeam 41 = .ok (.iload_n 2, 1) := by decide +kernel
theorem dX3_readSeam_42 : decode cX3_readSeam 42 = .ok (.iload_n 3, 1) := by decide +kernel
theorem dX3_readSeam_43 : decode cX3_readSeam 43 = .ok (.invokevirtual 65, 3) := by decide +kernel
theorem dX3_readSeam_46 : decode cX3_readSeam 46 = .ok (.aload_n 1, 1) := by decide +kernel
theorem dX3_readSeam_47 : decode cX3_readSeam 47 = .ok (.iconst 1, 1) := by decide +kernel
theorem dX3_readSeam_48 : decode cX3_readSeam 48 = .ok (.putfield 53, 3) := by decide +kernel
theorem dX3_readSeam_51 : decode cX3_readSeam 51 = .ok (.iconst 0, 1) := by decide +kernel
theorem dX3_readSeam_52 : decode cX3_readSeam 52 = .ok (.istore 4, 2) := by decide +kernel
theorem dX3_readSeam_54 : decode cX3_readSeam 54 = .ok (.iload 4, 2) := by decide +kernel
theorem dX3_readSeam_56 : decode cX3_readSeam 56 = .ok (.iload_n 2, 1) := by decide +kernel
theorem dX3_readSeam_57 : decode cX3_readSeam 57 = .ok (.iload_n 3, 1) := by decide +kernel
theorem dX3_readSeam_58 : decode cX3_readSeam 58 = .ok (.imul, 1) := by decide +kernel
theorem dX3_readSeam_59 : decode cX3_readSeam 59 = .ok (.if_icmp .ge 35, 3) := by decide +kernel
theorem dX3_readSeam_62 : decode cX3_readSeam 62 = .ok (.aload_n 0, 1) := by decide +kernel
theorem dX3_readSeam_63 : decode cX3_readSeam 63 = .ok (.invokevirtual 71, 3) := by decide +kernel
theorem dX3_readSeam_66 : decode cX3_readSeam 66 = .ok (.istore 5, 2) := by decide +kernel
theorem dX3_readSeam_68 : decode cX3_readSeam 68 = .ok (.iload 5, 2) := by decide +kernel
theorem dX3_readSeam_70 : decode cX3_readSeam 70 = .ok (.iconst (-1), 1) := by decide +kernel
theorem dX3_readSeam_71 : decode cX3_readSeam 71 = .ok (.if_icmp .ne 5, 3) := by decide +kernel
theorem dX3_readSeam_74 : decode cX3_readSeam 74 = .ok (.iconst 0, 1) := by decide +kernel
theorem dX3_readSeam_75 : decode cX3_readSeam 75 = .ok (.ireturn, 1) := by decide +kernel
theorem dX3_readSeam_76 : decode cX3_readSeam 76 = .ok (.aload_n 1, 1) := by decide +kernel
theorem dX3_readSeam_77 : decode cX3_readSeam 77 = .ok (.getfield 61, 3) := by decide +kernel
theorem dX3_readSeam_80 : decode cX3_readSeam 80 = .ok (.getfield 74, 3) := by decide +kernel
theorem dX3_readSeam_83 : decode cX3_readSeam 83 = .ok (.iload 4, 2) := by decide +kernel
theorem dX3_readSeam_85 : decode cX3_readSeam 85 = .ok (.iload 5, 2) := by decide +kernel
theorem dX3_readSeam_87 : decode cX3_readSeam 87 = .ok (.iastore, 1) := by decide +kernel
theorem dX3_readSeam_88 : decode cX3_readSeam 88 = .ok (.iinc 4 1, 3) := by decide +kernel
theorem dX3_readSeam_91 : decode cX3_readSeam 91 = .ok (.goto (-37), 3) := by decide +kernel
theorem dX3_readSeam_94 : decode cX3_readSeam 94 = .ok (.aload_n 0, 1) := by decide +kernel
theorem dX3_readSeam_95 : decode cX3_readSeam 95 = .ok (.invokevirtual 78, 3) := by decide +kernel
theorem dX3_readSeam_98 : decode cX3_readSeam 98 = .ok (.ireturn, 1) := by decide +kernel
set_option maxRecDepth 20000 in
theorem ggX3_readThing_X3_readNumber : GoodIn wsX3_readThing wsX3_readNumber := goodIn_r _ [5, 6, 7, 8, 9, 10, 11, 12, 4, 13, 14, 15, 16, 17, 18, 19, 20, 36, 37, 38, 39] (by decide +kernel) (by decide +kernel)
set_option maxRecDepth 20000 in
theorem gX3_readThing_X3_readNumber : GoodIn wsX3_readThing (wsV RX3 57 RX3 yX3_readNumber wsX3_readNumber) := goodIn_app (goodIn_of _ (by decide +kernel)) ggX3_readThing_X3_readNumber
set_option maxRecDepth 20000 in
theorem ggX3_readThing_X3_readEnd : GoodIn wsX3_readThing wsX3_readEnd := goodIn_r _ [24, 6, 7, 9, 10, 11, 12, 4, 13, 8, 36, 37, 38, 39] (by decide +kernel) (by decide +kernel)
set_option maxRecDepth 20000 in
theorem gX3_readThing_X3_readEnd : GoodIn wsX3_readThing (wsV RX3 78 RX3 yX3_readEnd wsX3_readEnd) := goodIn_app (goodIn_of _ (by decide +kernel)) ggX3_readThing_X3_readEnd
theorem dX3_readThing_0 : decode cX3_readThing 0 = .ok (.aload_n 1, 1) := by decide +kernel
theorem dX3_readThing_1 : decode cX3_readThing 1 = .ok (.getfield 82, 3) := by decide +kernel
theorem dX3_readThing_4 : decode cX3_readThing 4 = .ok (.istore_n 2, 1) := by decide +kernel
theorem dX3_readThing_5 : decode cX3_readThing 5 = .ok (.iload_n 2, 1) := by decide +kernel
theorem dX3_readThing_6 : decode cX3_readThing 6 = .ok (.bipush 6, 2) := by decide +kernel
theorem dX3_readThing_8 : decode cX3_readThing 8 = .ok (.if_icmp .lt 5, 3) := by decide +kernel
theorem dX3_readThing_11 : decode cX3_readThing 11 = .ok (.iconst 0, 1) := by decide +kernel
theorem dX3_readThing_12 : decode cX3_readThing 12 = .ok (.ireturn, 1) := by decide +kernel
theorem dX3_readThing_13 : decode cX3_readThing 13 = .ok (.aload_n 1, 1) := by decide +kernel
theorem dX3_readThing_14 : decode cX3_readThing 14 = .ok (.getfield 85, 3) := by decide +kernel
theorem dX3_readThing_17 : decode cX3_readThing 17 = .ok (.iload_n 2, 1) := by decide +kernel
theorem dX3_readThing_18 : decode cX3_readThing 18 = .ok (.aload_n 0, 1) := by decide +kernel
theorem dX3_readThing_19 : decode cX3_readThing 19 = .ok (.iconst 0, 1) := by decide +kernel
theorem dX3_readThing_20 : decode cX3_readThing 20 = .ok (.bipush 60, 2) := by decide +kernel
theorem dX3_readThing_22 : decode cX3_readThing 22 = .ok (.invokevirtual 57, 3) := by decide +kernel
theorem dX3_readThing_25 : decode cX3_readThing 25 = .ok (.iastore, 1) := by decide +kernel
theorem dX3_readThing_26 : decode cX3_readThing 26 = .ok (.aload_n 1, 1) := by decide +kernel
theorem dX3_readThing_27 : decode cX3_readThing 27 = .ok (.getfield 85, 3) := by decide +kernel
theorem dX3_readThing_30 : decode cX3_readThing 30 = .ok (.iload_n 2, 1) := by decide +kernel
theorem dX3_readThing_31 : decode cX3_readThing 31 = .ok (.iaload, 1) := by decide +kernel
theorem dX3_readThing_32 : decode cX3_readThing 32 = .ok (.iconst (-1), 1) := by decide +kernel
theorem dX3_readThing_33 : decode cX3_readThing 33 = .ok (.if_icmp .ne 5, 3) := by decide +kernel
theorem dX3_readThing_36 : decode cX3_readThing 36 = .ok (.iconst 0, 1) := by decide +kernel
theorem dX3_readThing_37 : decode cX3_readThing 37 = .ok (.ireturn, 1) := by decide +kernel
theorem dX3_readThing_38 : decode cX3_readThing 38 = .ok (.aload_n 1, 1) := by decide +kernel
theorem dX3_readThing_39 : decode cX3_readThing 39 = .ok (.getfield 88, 3) := by decide +kernel
theorem dX3_readThing_42 : decode cX3_readThing 42 = .ok (.iload_n 2, 1) := by decide +kernel
theorem dX3_readThing_43 : decode cX3_readThing 43 = .ok (.aload_n 0, 1) := by decide +kernel
theorem dX3_readThing_44 : decode cX3_readThing 44 = .ok (.iconst 0, 1) := by decide +kernel
theorem dX3_readThing_45 : decode cX3_readThing 45 = .ok (.bipush 60, 2) := by decide +kernel
theorem dX3_readThing_47 : decode cX3_readThing 47 = .ok (.invokevirtual 57, 3) := by decide +kernel
theorem dX3_readThing_50 : decode cX3_readThing 50 = .ok (.iastore, 1) := by decide +kernel
theorem dX3_readThing_51 : decode cX3_readThing 51 = .ok (.aload_n 1, 1) := by decide +kernel
theorem dX3_readThing_52 : decode cX3_readThing 52 = .ok (.getfield 88, 3) := by decide +kernel
theorem dX3_readThing_55 : decode cX3_readThing 55 = .ok (.iload_n 2, 1) := by decide +kernel
theorem dX3_readThing_56 : decode cX3_readThing 56 = .ok (.iaload, 1) := by decide +kernel
theorem dX3_readThing_57 : decode cX3_readThing 57 = .ok (.iconst (-1), 1) := by decide +kernel
theorem dX3_readThing_58 : decode cX3_readThing 58 = .ok (.if_icmp .ne 5, 3) := by decide +kernel
theorem dX3_readThing_61 : decode cX3_readThing 61 = .ok (.iconst 0, 1) := by decide +kernel
theorem dX3_readThing_62 : decode cX3_readThing 62 = .ok (.ireturn, 1) := by decide +kernel
theorem dX3_readThing_63 : decode cX3_readThing 63 = .ok (.aload_n 1, 1) := by decide +kernel
theorem dX3_readThing_64 : decode cX3_readThing 64 = .ok (.getfield 91, 3) := by decide +kernel
theorem dX3_readThing_67 : decode cX3_readThing 67 = .ok (.iload_n 2, 1) := by decide +kernel
theorem dX3_readThing_68 : decode cX3_readThing 68 = .ok (.aload_n 0, 1) := by decide +kernel
theorem dX3_readThing_69 : decode cX3_readThing 69 = .ok (.iconst 0, 1) := by decide +kernel
theorem dX3_readThing_70 : decode cX3_readThing 70 = .ok (.bipush 9, 2) := by decide +kernel
theorem dX3_readThing_72 : decode cX3_readThing 72 = .ok (.invokevirtual 57, 3) := by decide +kernel
theorem dX3_readThing_75 : decode cX3_readThing 75 = .ok (.iastore, 1) := by decide +kernel
theorem dX3_readThing_76 : decode cX3_readThing 76 = .ok (.aload_n 1, 1) := by decide +kernel
theorem dX3_readThing_77 : decode cX3_readThing 77 = .ok (.getfield 91, 3) := by decide +kernel
theorem dX3_readThing_80 : decode cX3_readThing 80 = .ok (.iload_n 2, 1) := by decide +kernel
theorem dX3_readThing_81 : decode cX3_readThing 81 = .ok (.iaload, 1) := by decide +kernel
theorem dX3_readThing_82 : decode cX3_readThing 82 = .ok (.iconst (-1), 1) := by decide +kernel
theorem dX3_readThing_83 : decode cX3_readThing 83 = .ok (.if_icmp .ne 5, 3) := by decide +kernel
theorem dX3_readThing_86 : decode cX3_readThing 86 = .ok (.iconst 0, 1) := by decide +kernel
theorem dX3_readThing_87 : decode cX3_readThing 87 = .ok (.ireturn, 1) := by decide +kernel
theorem dX3_readThing_88 : decode cX3_readThing 88 = .ok (.aload_n 1, 1) := by decide +kernel
theorem dX3_readThing_89 : decode cX3_readThing 89 = .ok (.getfield 94, 3) := by decide +kernel
theorem dX3_readThing_92 : decode cX3_readThing 92 = .ok (.iload_n 2, 1) := by decide +kernel
theorem dX3_readThing_93 : decode cX3_readThing 93 = .ok (.aload_n 0, 1) := by decide +kernel
theorem dX3_readThing_94 : decode cX3_readThing 94 = .ok (.iconst 0, 1) := by decide +kernel
theorem dX3_readThing_95 : decode cX3_readThing 95 = .ok (.bipush 99, 2) := by decide +kernel
theorem dX3_readThing_97 : decode cX3_readThing 97 = .ok (.invokevirtual 57, 3) := by decide +kernel
theorem dX3_readThing_100 : decode cX3_readThing 100 = .ok (.iastore, 1) := by decide +kernel
theorem dX3_readThing_101 : decode cX3_readThing 101 = .ok (.aload_n 1, 1) := by decide +kernel
theorem dX3_readThing_102 : decode cX3_readThing 102 = .ok (.getfield 94, 3) := by decide +kernel
theorem dX3_readThing_105 : decode cX3_readThing 105 = .ok (.iload_n 2, 1) := by decide +kernel
theorem dX3_readThing_106 : decode cX3_readThing 106 = .ok (.iaload, 1) := by decide +kernel
theorem dX3_readThing_107 : decode cX3_readThing 107 = .ok (.iconst (-1), 1) := by decide +kernel
theorem dX3_readThing_108 : decode cX3_readThing 108 = .ok (.if_icmp .ne 5, 3) := by decide +kernel
theorem dX3_readThing_111 : decode cX3_readThing 111 = .ok (.iconst 0, 1) := by decide +kernel
theorem dX3_readThing_112 : decode cX3_readThing 112 = .ok (.ireturn, 1) := by decide +kernel
theorem dX3_readThing_113 : decode cX3_readThing 113 = .ok (.aload_n 1, 1) := by decide +kernel
theorem dX3_readThing_114 : decode cX3_readThing 114 = .ok (.iload_n 2, 1) := by decide +kernel
theorem dX3_readThing_115 : decode cX3_readThing 115 = .ok (.iconst 1, 1) := by decide +kernel
theorem dX3_readThing_116 : decode cX3_readThing 116 = .ok (.iadd, 1) := by decide +kernel
theorem dX3_readThing_117 : decode cX3_readThing 117 = .ok (.putfield 82, 3) := by decide +kernel
theorem dX3_readThing_120 : decode cX3_readThing 120 = .ok (.aload_n 0, 1) := by decide +kernel
theorem dX3_readThing_121 : decode cX3_readThing 121 = .ok (.invokevirtual 78, 3) := by decide +kernel
theorem dX3_readThing_124 : decode cX3_readThing 124 = .ok (.ireturn, 1) := by decide +kernel
set_option maxRecDepth 20000 in
theorem ggX3_readBound_X3_readNumber : GoodIn wsX3_readBound wsX3_readNumber := goodIn_r _ [5, 6, 7, 8, 9, 10, 11, 12, 4, 13, 14, 15, 16, 17, 18, 19, 20, 36, 37, 38, 39] (by decide +kernel) (by decide +kernel)
set_option maxRecDepth 20000 in
theorem gX3_readBound_X3_readNumber : GoodIn wsX3_readBound (wsV RX3 57 RX3 yX3_readNumber wsX3_readNumber) := goodIn_app (goodIn_of _ (by decide +kernel)) ggX3_readBound_X3_readNumber
set_option maxRecDepth 20000 in
theorem ggX3_readBound_X3_readEnd : GoodIn wsX3_readBound wsX3_readEnd := goodIn_r _ [24, 6, 7, 9, 10, 11, 12, 4, 13, 8, 36, 37, 38, 39] (by decide +kernel) (by decide +kernel)
set_option maxRecDepth 20000 in
theorem gX3_readBound_X3_readEnd : GoodIn wsX3_readBound (wsV RX3 78 RX3 yX3_readEnd wsX3_readEnd) := goodIn_app (goodIn_of _ (by decide +kernel)) ggX3_readBound_X3_readEnd
theorem dX3_readBound_0 : decode cX3_readBound 0 = .ok (.aload_n 1, 1) := by decide +kernel
theorem dX3_readBound_1 : decode cX3_readBound 1 = .ok (.getfield 97, 3) := by decide +kernel
theorem dX3_readBound_4 : decode cX3_readBound 4 = .ok (.ifCond .eq 5, 3) := by decide +kernel
theorem dX3_readBound_7 : decode cX3_readBound 7 = .ok (.iconst 0, 1) := by decide +kernel
theorem dX3_readBound_8 : decode cX3_readBound 8 = .ok (.ireturn, 1) := by decide +kernel
theorem dX3_readBound_9 : decode cX3_readBound 9 = .ok (.aload_n 0, 1) := by decide +kernel
theorem dX3_readBound_10 : decode cX3_readBound 10 = .ok (.iconst 1, 1) := by decide +kernel
theorem dX3_readBound_11 : decode cX3_readBound 11 = .ok (.bipush 10, 2) := by decide +kernel
theorem dX3_readBound_13 : decode cX3_readBound 13 = .ok (.invokevirtual 57, 3) := by decide +kernel
theorem dX3_readBound_16 : decode cX3_readBound 16 = .ok (.istore_n 2, 1) := by decide +kernel
theorem dX3_readBound_17 : decode cX3_readBound 17 = .ok (.iload_n 2, 1) := by decide +kernel
theorem dX3_readBound_18 : decode cX3_readBound 18 = .ok (.iconst (-1), 1) := by decide +kernel
theorem dX3_readBound_19 : decode cX3_readBound 19 = .ok (.if_icmp .ne 5, 3) := by decide +kernel
theorem dX3_readBound_22 : decode cX3_readBound 22 = .ok (.iconst 0, 1) := by decide +kernel
theorem dX3_readBound_23 : decode cX3_readBound 23 = .ok (.ireturn, 1) := by decide +kernel
theorem dX3_readBound_24 : decode cX3_readBound 24 = .ok (.aload_n 1, 1) := by decide +kernel
theorem dX3_readBound_25 : decode cX3_readBound 25 = .ok (.iload_n 2, 1) := by decide +kernel
theorem dX3_readBound_26 : decode cX3_readBound 26 = .ok (.putfield 100, 3) := by decide +kernel
theorem dX3_readBound_29 : decode cX3_readBound 29 = .ok (.aload_n 1, 1) := by decide +kernel
theorem dX3_readBound_30 : decode cX3_readBound 30 = .ok (.iconst 1, 1) := by decide +kernel
theorem dX3_readBound_31 : decode cX3_readBound 31 = .ok (.putfield 97, 3) := by decide +kernel
theorem dX3_readBound_34 : decode cX3_readBound 34 = .ok (.aload_n 0, 1) := by decide +kernel
theorem dX3_readBound_35 : decode cX3_readBound 35 = .ok (.invokevirtual 78, 3) := by decide +kernel
theorem dX3_readBound_38 : decode cX3_readBound 38 = .ok (.ireturn, 1) := by decide +kernel
set_option maxRecDepth 20000 in
theorem ggX3_readLoss_X3_readNumber : GoodIn wsX3_readLoss wsX3_readNumber := goodIn_r _ [5, 6, 7, 8, 9, 10, 11, 12, 4, 13, 14, 15, 16, 17, 18, 19, 20, 36, 37, 38, 39] (by decide +kernel) (by decide +kernel)
set_option maxRecDepth 20000 in
theorem gX3_readLoss_X3_readNumber : GoodIn wsX3_readLoss (wsV RX3 57 RX3 yX3_readNumber wsX3_readNumber) := goodIn_app (goodIn_of _ (by decide +kernel)) ggX3_readLoss_X3_readNumber
set_option maxRecDepth 20000 in
theorem ggX3_readLoss_X3_readEnd : GoodIn wsX3_readLoss wsX3_readEnd := goodIn_r _ [24, 6, 7, 9, 10, 11, 12, 4, 13, 8, 36, 37, 38, 39] (by decide +kernel) (by decide +kernel)
set_option maxRecDepth 20000 in
theorem gX3_readLoss_X3_readEnd : GoodIn wsX3_readLoss (wsV RX3 78 RX3 yX3_readEnd wsX3_readEnd) := goodIn_app (goodIn_of _ (by decide +kernel)) ggX3_readLoss_X3_readEnd
theorem dX3_readLoss_0 : decode cX3_readLoss 0 = .ok (.aload_n 1, 1) := by decide +kernel
theorem dX3_readLoss_1 : decode cX3_readLoss 1 = .ok (.getfield 103, 3) := by decide +kernel
theorem dX3_readLoss_4 : decode cX3_readLoss 4 = .ok (.ifCond .eq 5, 3) := by decide +kernel
theorem dX3_readLoss_7 : decode cX3_readLoss 7 = .ok (.iconst 0, 1) := by decide +kernel
theorem dX3_readLoss_8 : decode cX3_readLoss 8 = .ok (.ireturn, 1) := by decide +kernel
theorem dX3_readLoss_9 : decode cX3_readLoss 9 = .ok (.aload_n 0, 1) := by decide +kernel
theorem dX3_readLoss_10 : decode cX3_readLoss 10 = .ok (.iconst 0, 1) := by decide +kernel
theorem dX3_readLoss_11 : decode cX3_readLoss 11 = .ok (.bipush 10, 2) := by decide +kernel
theorem dX3_readLoss_13 : decode cX3_readLoss 13 = .ok (.invokevirtual 57, 3) := by decide +kernel
theorem dX3_readLoss_16 : decode cX3_readLoss 16 = .ok (.istore_n 2, 1) := by decide +kernel
theorem dX3_readLoss_17 : decode cX3_readLoss 17 = .ok (.iload_n 2, 1) := by decide +kernel
theorem dX3_readLoss_18 : decode cX3_readLoss 18 = .ok (.iconst (-1), 1) := by decide +kernel
theorem dX3_readLoss_19 : decode cX3_readLoss 19 = .ok (.if_icmp .ne 5, 3) := by decide +kernel
theorem dX3_readLoss_22 : decode cX3_readLoss 22 = .ok (.iconst 0, 1) := by decide +kernel
theorem dX3_readLoss_23 : decode cX3_readLoss 23 = .ok (.ireturn, 1) := by decide +kernel
theorem dX3_readLoss_24 : decode cX3_readLoss 24 = .ok (.aload_n 1, 1) := by decide +kernel
theorem dX3_readLoss_25 : decode cX3_readLoss 25 = .ok (.iload_n 2, 1) := by decide +kernel
theorem dX3_readLoss_26 : decode cX3_readLoss 26 = .ok (.putfield 106, 3) := by decide +kernel
theorem dX3_readLoss_29 : decode cX3_readLoss 29 = .ok (.aload_n 1, 1) := by decide +kernel
theorem dX3_readLoss_30 : decode cX3_readLoss 30 = .ok (.iconst 1, 1) := by decide +kernel
theorem dX3_readLoss_31 : decode cX3_readLoss 31 = .ok (.putfield 103, 3) := by decide +kernel
theorem dX3_readLoss_34 : decode cX3_readLoss 34 = .ok (.aload_n 0, 1) := by decide +kernel
theorem dX3_readLoss_35 : decode cX3_readLoss 35 = .ok (.invokevirtual 78, 3) := by decide +kernel
theorem dX3_readLoss_38 : decode cX3_readLoss 38 = .ok (.ireturn, 1) := by decide +kernel
theorem dX3_findToken_0 : decode cX3_findToken 0 = .ok (.aload_n 0, 1) := by decide +kernel
theorem dX3_findToken_1 : decode cX3_findToken 1 = .ok (.getfield 24, 3) := by decide +kernel
theorem dX3_findToken_4 : decode cX3_findToken 4 = .ok (.aload_n 0, 1) := by decide +kernel
theorem dX3_findToken_5 : decode cX3_findToken 5 = .ok (.getfield 15, 3) := by decide +kernel
theorem dX3_findToken_8 : decode cX3_findToken 8 = .ok (.if_icmp .ge 30, 3) := by decide +kernel
theorem dX3_findToken_11 : decode cX3_findToken 11 = .ok (.aload_n 0, 1) := by decide +kernel
theorem dX3_findToken_12 : decode cX3_findToken 12 = .ok (.getfield 9, 3) := by decide +kernel
theorem dX3_findToken_15 : decode cX3_findToken 15 = .ok (.aload_n 0, 1) := by decide +kernel
theorem dX3_findToken_16 : decode cX3_findToken 16 = .ok (.getfield 24, 3) := by decide +kernel
theorem dX3_findToken_19 : decode cX3_findToken 19 = .ok (.caload, 1) := by decide +kernel
theorem dX3_findToken_20 : decode cX3_findToken 20 = .ok (.bipush 32, 2) := by decide +kernel
theorem dX3_findToken_22 : decode cX3_findToken 22 = .ok (.if_icmp .ne 16, 3) := by decide +kernel
theorem dX3_findToken_25 : decode cX3_findToken 25 = .ok (.aload_n 0, 1) := by decide +kernel
theorem dX3_findToken_26 : decode cX3_findToken 26 = .ok (.dup, 1) := by decide +kernel
theorem dX3_findToken_27 : decode cX3_findToken 27 = .ok (.getfield 24, 3) := by decide +kernel
theorem dX3_findToken_30 : decode cX3_findToken 30 = .ok (.iconst 1, 1) := by decide +kernel
theorem dX3_findToken_31 : decode cX3_findToken 31 = .ok (.iadd, 1) := by decide +kernel
theorem dX3_findToken_32 : decode cX3_findToken 32 = .ok (.putfield 24, 3) := by decide +kernel
theorem dX3_findToken_35 : decode cX3_findToken 35 = .ok (.goto (-35), 3) := by decide +kernel
theorem dX3_findToken_38 : decode cX3_findToken 38 = .ok (.aload_n 0, 1) := by decide +kernel
theorem dX3_findToken_39 : decode cX3_findToken 39 = .ok (.aload_n 0, 1) := by decide +kernel
theorem dX3_findToken_40 : decode cX3_findToken 40 = .ok (.getfield 24, 3) := by decide +kernel
theorem dX3_findToken_43 : decode cX3_findToken 43 = .ok (.putfield 30, 3) := by decide +kernel
theorem dX3_findToken_46 : decode cX3_findToken 46 = .ok (.return_, 1) := by decide +kernel
set_option maxRecDepth 20000 in
theorem ggX3_isDigitAt_X6_within : GoodIn wsX3_isDigitAt wsX6_within := goodIn_r _ [5] (by decide +kernel) (by decide +kernel)
set_option maxRecDepth 20000 in
theorem gX3_isDigitAt_X6_within_n109 : GoodIn wsX3_isDigitAt (wsX6_within) := ggX3_isDigitAt_X6_within
theorem dX3_isDigitAt_0 : decode cX3_isDigitAt 0 = .ok (.iload_n 1, 1) := by decide +kernel
theorem dX3_isDigitAt_1 : decode cX3_isDigitAt 1 = .ok (.aload_n 0, 1) := by decide +kernel
theorem dX3_isDigitAt_2 : decode cX3_isDigitAt 2 = .ok (.getfield 15, 3) := by decide +kernel
theorem dX3_isDigitAt_5 : decode cX3_isDigitAt 5 = .ok (.if_icmp .ge 23, 3) := by decide +kernel
theorem dX3_isDigitAt_8 : decode cX3_isDigitAt 8 = .ok (.aload_n 0, 1) := by decide +kernel
theorem dX3_isDigitAt_9 : decode cX3_isDigitAt 9 = .ok (.getfield 9, 3) := by decide +kernel
theorem dX3_isDigitAt_12 : decode cX3_isDigitAt 12 = .ok (.iload_n 1, 1) := by decide +kernel
theorem dX3_isDigitAt_13 : decode cX3_isDigitAt 13 = .ok (.caload, 1) := by decide +kernel
theorem dX3_isDigitAt_14 : decode cX3_isDigitAt 14 = .ok (.bipush 48, 2) := by decide +kernel
theorem dX3_isDigitAt_16 : decode cX3_isDigitAt 16 = .ok (.bipush 57, 2) := by decide +kernel
theorem dX3_isDigitAt_18 : decode cX3_isDigitAt 18 = .ok (.invokestatic 109, 3) := by decide +kernel
theorem dX3_isDigitAt_21 : decode cX3_isDigitAt 21 = .ok (.ifCond .eq 7, 3) := by decide +kernel
theorem dX3_isDigitAt_24 : decode cX3_isDigitAt 24 = .ok (.iconst 1, 1) := by decide +kernel
theorem dX3_isDigitAt_25 : decode cX3_isDigitAt 25 = .ok (.goto 4, 3) := by decide +kernel
theorem dX3_isDigitAt_28 : decode cX3_isDigitAt 28 = .ok (.iconst 0, 1) := by decide +kernel
theorem dX3_isDigitAt_29 : decode cX3_isDigitAt 29 = .ok (.ireturn, 1) := by decide +kernel
set_option maxRecDepth 20000 in
theorem ggX3_isLetterAt_X6_within : GoodIn wsX3_isLetterAt wsX6_within := goodIn_r _ [5] (by decide +kernel) (by decide +kernel)
set_option maxRecDepth 20000 in
theorem gX3_isLetterAt_X6_within_n109 : GoodIn wsX3_isLetterAt (wsX6_within) := ggX3_isLetterAt_X6_within
theorem dX3_isLetterAt_0 : decode cX3_isLetterAt 0 = .ok (.iload_n 1, 1) := by decide +kernel
theorem dX3_isLetterAt_1 : decode cX3_isLetterAt 1 = .ok (.aload_n 0, 1) := by decide +kernel
theorem dX3_isLetterAt_2 : decode cX3_isLetterAt 2 = .ok (.getfield 15, 3) := by decide +kernel
theorem dX3_isLetterAt_5 : decode cX3_isLetterAt 5 = .ok (.if_icmp .ge 23, 3) := by decide +kernel
theorem dX3_isLetterAt_8 : decode cX3_isLetterAt 8 = .ok (.aload_n 0, 1) := by decide +kernel
theorem dX3_isLetterAt_9 : decode cX3_isLetterAt 9 = .ok (.getfield 9, 3) := by decide +kernel
theorem dX3_isLetterAt_12 : decode cX3_isLetterAt 12 = .ok (.iload_n 1, 1) := by decide +kernel
theorem dX3_isLetterAt_13 : decode cX3_isLetterAt 13 = .ok (.caload, 1) := by decide +kernel
theorem dX3_isLetterAt_14 : decode cX3_isLetterAt 14 = .ok (.bipush 97, 2) := by decide +kernel
theorem dX3_isLetterAt_16 : decode cX3_isLetterAt 16 = .ok (.bipush 122, 2) := by decide +kernel
theorem dX3_isLetterAt_18 : decode cX3_isLetterAt 18 = .ok (.invokestatic 109, 3) := by decide +kernel
theorem dX3_isLetterAt_21 : decode cX3_isLetterAt 21 = .ok (.ifCond .eq 7, 3) := by decide +kernel
theorem dX3_isLetterAt_24 : decode cX3_isLetterAt 24 = .ok (.iconst 1, 1) := by decide +kernel
theorem dX3_isLetterAt_25 : decode cX3_isLetterAt 25 = .ok (.goto 4, 3) := by decide +kernel
theorem dX3_isLetterAt_28 : decode cX3_isLetterAt 28 = .ok (.iconst 0, 1) := by decide +kernel
theorem dX3_isLetterAt_29 : decode cX3_isLetterAt 29 = .ok (.ireturn, 1) := by decide +kernel
set_option maxRecDepth 20000 in
theorem ggX3_readLetter_X3_isLetterAt : GoodIn wsX3_readLetter wsX3_isLetterAt := goodIn_r _ [8, 9, 2, 10, 11, 12, 13, 14, 15, 16] (by decide +kernel) (by decide +kernel)
set_option maxRecDepth 20000 in
theorem gX3_readLetter_X3_isLetterAt : GoodIn wsX3_readLetter (wsV RX3 113 RX3 yX3_isLetterAt wsX3_isLetterAt) := goodIn_app (goodIn_of _ (by decide +kernel)) ggX3_readLetter_X3_isLetterAt
theorem dX3_readLetter_0 : decode cX3_readLetter 0 = .ok (.aload_n 0, 1) := by decide +kernel
theorem dX3_readLetter_1 : decode cX3_readLetter 1 = .ok (.aload_n 0, 1) := by decide +kernel
theorem dX3_readLetter_2 : decode cX3_readLetter 2 = .ok (.getfield 24, 3) := by decide +kernel
theorem dX3_readLetter_5 : decode cX3_readLetter 5 = .ok (.invokevirtual 113, 3) := by decide +kernel
theorem dX3_readLetter_8 : decode cX3_readLetter 8 = .ok (.ifCond .eq 16, 3) := by decide +kernel
theorem dX3_readLetter_11 : decode cX3_readLetter 11 = .ok (.aload_n 0, 1) := by decide +kernel
theorem dX3_readLetter_12 : decode cX3_readLetter 12 = .ok (.aload_n 0, 1) := by decide +kernel
theorem dX3_readLetter_13 : decode cX3_readLetter 13 = .ok (.getfield 24, 3) := by decide +kernel
theorem dX3_readLetter_16 : decode cX3_readLetter 16 = .ok (.iconst 1, 1) := by decide +kernel
theorem dX3_readLetter_17 : decode cX3_readLetter 17 = .ok (.iadd, 1) := by decide +kernel
theorem dX3_readLetter_18 : decode cX3_readLetter 18 = .ok (.invokevirtual 113, 3) := by decide +kernel
theorem dX3_readLetter_21 : decode cX3_readLetter 21 = .ok (.ifCond .eq 5, 3) := by decide +kernel
theorem dX3_readLetter_24 : decode cX3_readLetter 24 = .ok (.iconst (-1), 1) := by decide +kernel
theorem dX3_readLetter_25 : decode cX3_readLetter 25 = .ok (.ireturn, 1) := by decide +kernel
theorem dX3_readLetter_26 : decode cX3_readLetter 26 = .ok (.aload_n 0, 1) := by decide +kernel
theorem dX3_readLetter_27 : decode cX3_readLetter 27 = .ok (.dup, 1) := by decide +kernel
