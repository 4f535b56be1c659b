theorem dX6_canBeDugNow_14 : decode cX6_canBeDugNow 14 = .ok (.invokevirtual 290, 3) := by decide +kernel
theorem dX6_canBeDugNow_17 : decode cX6_canBeDugNow 17 = .ok (.iload_n 1, 1) := by decide +kernel
theorem dX6_canBeDugNow_18 : decode cX6_canBeDugNow 18 = .ok (.iand, 1) := by decide +kernel
theorem dX6_canBeDugNow_19 : decode cX6_canBeDugNow 19 = .ok (.ifCond .eq 7, 3) := by decide +kernel
theorem dX6_canBeDugNow_22 : decode cX6_canBeDugNow 22 = .ok (.iconst 1, 1) := by decide +kernel
theorem dX6_canBeDugNow_23 : decode cX6_canBeDugNow 23 = .ok (.goto 4, 3) := by decide +kernel
theorem dX6_canBeDugNow_26 : decode cX6_canBeDugNow 26 = .ok (.iconst 0, 1) := by decide +kernel
theorem dX6_canBeDugNow_27 : decode cX6_canBeDugNow 27 = .ok (.ireturn, 1) := by decide +kernel
set_option maxRecDepth 20000 in
theorem ggX6_isThing_X6_within : GoodIn wsX6_isThing wsX6_within := goodIn_r _ [5] (by decide +kernel) (by decide +kernel)
set_option maxRecDepth 20000 in
theorem gX6_isThing_X6_within : GoodIn wsX6_isThing (va_wsS RX6 61 yX6_within wsX6_within) := goodIn_app (goodIn_of _ (by decide +kernel)) ggX6_isThing_X6_within
theorem dX6_isThing_0 : decode cX6_isThing 0 = .ok (.iload_n 1, 1) := by decide +kernel
theorem dX6_isThing_1 : decode cX6_isThing 1 = .ok (.iconst 0, 1) := by decide +kernel
theorem dX6_isThing_2 : decode cX6_isThing 2 = .ok (.aload_n 0, 1) := by decide +kernel
theorem dX6_isThing_3 : decode cX6_isThing 3 = .ok (.getfield 19, 3) := by decide +kernel
theorem dX6_isThing_6 : decode cX6_isThing 6 = .ok (.getfield 159, 3) := by decide +kernel
theorem dX6_isThing_9 : decode cX6_isThing 9 = .ok (.iconst 1, 1) := by decide +kernel
theorem dX6_isThing_10 : decode cX6_isThing 10 = .ok (.isub, 1) := by decide +kernel
theorem dX6_isThing_11 : decode cX6_isThing 11 = .ok (.invokestatic 61, 3) := by decide +kernel
theorem dX6_isThing_14 : decode cX6_isThing 14 = .ok (.ireturn, 1) := by decide +kernel
theorem dX6_calledWith_0 : decode cX6_calledWith 0 = .ok (.iload_n 1, 1) := by decide +kernel
theorem dX6_calledWith_1 : decode cX6_calledWith 1 = .ok (.ifCond .le 25, 3) := by decide +kernel
theorem dX6_calledWith_4 : decode cX6_calledWith 4 = .ok (.bipush 10, 2) := by decide +kernel
theorem dX6_calledWith_6 : decode cX6_calledWith 6 = .ok (.iload_n 1, 1) := by decide +kernel
theorem dX6_calledWith_7 : decode cX6_calledWith 7 = .ok (.imul, 1) := by decide +kernel
theorem dX6_calledWith_8 : decode cX6_calledWith 8 = .ok (.aload_n 0, 1) := by decide +kernel
theorem dX6_calledWith_9 : decode cX6_calledWith 9 = .ok (.getfield 19, 3) := by decide +kernel
theorem dX6_calledWith_12 : decode cX6_calledWith 12 = .ok (.getfield 216, 3) := by decide +kernel
theorem dX6_calledWith_15 : decode cX6_calledWith 15 = .ok (.iload_n 1, 1) := by decide +kernel
theorem dX6_calledWith_16 : decode cX6_calledWith 16 = .ok (.iload_n 2, 1) := by decide +kernel
theorem dX6_calledWith_17 : decode cX6_calledWith 17 = .ok (.iadd, 1) := by decide +kernel
theorem dX6_calledWith_18 : decode cX6_calledWith 18 = .ok (.imul, 1) := by decide +kernel
theorem dX6_calledWith_19 : decode cX6_calledWith 19 = .ok (.if_icmp .lt 7, 3) := by decide +kernel
theorem dX6_calledWith_22 : decode cX6_calledWith 22 = .ok (.iconst 1, 1) := by decide +kernel
theorem dX6_calledWith_23 : decode cX6_calledWith 23 = .ok (.goto 4, 3) := by decide +kernel
theorem dX6_calledWith_26 : decode cX6_calledWith 26 = .ok (.iconst 0, 1) := by decide +kernel
theorem dX6_calledWith_27 : decode cX6_calledWith 27 = .ok (.ireturn, 1) := by decide +kernel
set_option maxRecDepth 20000 in
theorem ggX6_yellowAfter_X2_yellow : GoodIn wsX6_yellowAfter wsX2_yellow := goodIn_r _ [11, 12, 34, 35] (by decide +kernel) (by decide +kernel)
set_option maxRecDepth 20000 in
theorem gX6_yellowAfter_X2_yellow : GoodIn wsX6_yellowAfter (wsV RX6 117 RX2 yX2_yellow wsX2_yellow) := goodIn_app (goodIn_of _ (by decide +kernel)) ggX6_yellowAfter_X2_yellow
theorem dX6_yellowAfter_0 : decode cX6_yellowAfter 0 = .ok (.iconst 0, 1) := by decide +kernel
theorem dX6_yellowAfter_1 : decode cX6_yellowAfter 1 = .ok (.aload_n 0, 1) := by decide +kernel
theorem dX6_yellowAfter_2 : decode cX6_yellowAfter 2 = .ok (.getfield 29, 3) := by decide +kernel
theorem dX6_yellowAfter_5 : decode cX6_yellowAfter 5 = .ok (.iload_n 1, 1) := by decide +kernel
theorem dX6_yellowAfter_6 : decode cX6_yellowAfter 6 = .ok (.invokevirtual 117, 3) := by decide +kernel
theorem dX6_yellowAfter_9 : decode cX6_yellowAfter 9 = .ok (.iload_n 2, 1) := by decide +kernel
theorem dX6_yellowAfter_10 : decode cX6_yellowAfter 10 = .ok (.aload_n 0, 1) := by decide +kernel
theorem dX6_yellowAfter_11 : decode cX6_yellowAfter 11 = .ok (.getfield 19, 3) := by decide +kernel
theorem dX6_yellowAfter_14 : decode cX6_yellowAfter 14 = .ok (.getfield 123, 3) := by decide +kernel
theorem dX6_yellowAfter_17 : decode cX6_yellowAfter 17 = .ok (.iload_n 1, 1) := by decide +kernel
theorem dX6_yellowAfter_18 : decode cX6_yellowAfter 18 = .ok (.iaload, 1) := by decide +kernel
theorem dX6_yellowAfter_19 : decode cX6_yellowAfter 19 = .ok (.imul, 1) := by decide +kernel
theorem dX6_yellowAfter_20 : decode cX6_yellowAfter 20 = .ok (.isub, 1) := by decide +kernel
theorem dX6_yellowAfter_21 : decode cX6_yellowAfter 21 = .ok (.invokestatic 293, 3) := by decide +kernel
theorem dX6_yellowAfter_24 : decode cX6_yellowAfter 24 = .ok (.ireturn, 1) := by decide +kernel
set_option maxRecDepth 20000 in
theorem ggX6_calledAfter_X6_yellowAfter : GoodIn wsX6_calledAfter wsX6_yellowAfter := goodIn_r _ [6, 1, 7, 8, 9, 10, 11, 12, 13, 14, 15, 16, 17, 26, 27, 28, 29, 30, 31, 32, 33, 34, 35, 36, 37, 38, 39, 40, 41, 42, 43, 44, 45, 46, 47, 48] (by decide +kernel) (by decide +kernel)
set_option maxRecDepth 20000 in
theorem gX6_calledAfter_X6_yellowAfter : GoodIn wsX6_calledAfter (wsV RX6 162 RX6 yX6_yellowAfter wsX6_yellowAfter) := goodIn_app (goodIn_of _ (by decide +kernel)) ggX6_calledAfter_X6_yellowAfter
set_option maxRecDepth 20000 in
theorem ggX6_calledAfter_X2_white : GoodIn wsX6_calledAfter wsX2_white := goodIn_r _ [21, 17, 47, 48] (by decide +kernel) (by decide +kernel)
set_option maxRecDepth 20000 in
theorem gX6_calledAfter_X2_white : GoodIn wsX6_calledAfter (wsV RX6 120 RX2 yX2_white wsX2_white) := goodIn_app (goodIn_of _ (by decide +kernel)) ggX6_calledAfter_X2_white
set_option maxRecDepth 20000 in
theorem ggX6_calledAfter_X6_calledWith : GoodIn wsX6_calledAfter wsX6_calledWith := goodIn_r _ [25, 7, 26, 27, 28, 29, 30, 31, 32, 33, 34, 35, 36, 37, 38, 39, 40, 41, 42, 43, 44, 45, 46] (by decide +kernel) (by decide +kernel)
set_option maxRecDepth 20000 in
theorem gX6_calledAfter_X6_calledWith : GoodIn wsX6_calledAfter (wsV RX6 296 RX6 yX6_calledWith wsX6_calledWith) := goodIn_app (goodIn_of _ (by decide +kernel)) ggX6_calledAfter_X6_calledWith
theorem dX6_calledAfter_0 : decode cX6_calledAfter 0 = .ok (.aload_n 0, 1) := by decide +kernel
theorem dX6_calledAfter_1 : decode cX6_calledAfter 1 = .ok (.aload_n 0, 1) := by decide +kernel
theorem dX6_calledAfter_2 : decode cX6_calledAfter 2 = .ok (.iload_n 1, 1) := by decide +kernel
theorem dX6_calledAfter_3 : decode cX6_calledAfter 3 = .ok (.iload_n 2, 1) := by decide +kernel
theorem dX6_calledAfter_4 : decode cX6_calledAfter 4 = .ok (.invokevirtual 162, 3) := by decide +kernel
theorem dX6_calledAfter_7 : decode cX6_calledAfter 7 = .ok (.aload_n 0, 1) := by decide +kernel
theorem dX6_calledAfter_8 : decode cX6_calledAfter 8 = .ok (.getfield 29, 3) := by decide +kernel
theorem dX6_calledAfter_11 : decode cX6_calledAfter 11 = .ok (.iload_n 1, 1) := by decide +kernel
theorem dX6_calledAfter_12 : decode cX6_calledAfter 12 = .ok (.invokevirtual 120, 3) := by decide +kernel
theorem dX6_calledAfter_15 : decode cX6_calledAfter 15 = .ok (.invokevirtual 296, 3) := by decide +kernel
theorem dX6_calledAfter_18 : decode cX6_calledAfter 18 = .ok (.ireturn, 1) := by decide +kernel
set_option maxRecDepth 20000 in
theorem ggX6_calledSet_X6_calledAfter : GoodIn wsX6_calledSet wsX6_calledAfter := goodIn_r _ [6, 7, 8, 9, 10, 5, 11, 1, 12, 13, 14, 15, 16, 17, 18, 19, 20, 21, 22, 23, 24, 25, 26, 27, 28, 29, 30, 31, 32, 33, 34, 35, 36, 37, 38, 39, 40, 41, 42, 43, 44, 45, 46, 47, 48, 49, 50, 51, 52] (by decide +kernel) (by decide +kernel)
set_option maxRecDepth 20000 in
theorem gX6_calledSet_X6_calledAfter : GoodIn wsX6_calledSet (wsV RX6 130 RX6 yX6_calledAfter wsX6_calledAfter) := goodIn_app (goodIn_of _ (by decide +kernel)) ggX6_calledSet_X6_calledAfter
theorem dX6_calledSet_0 : decode cX6_calledSet 0 = .ok (.iconst 0, 1) := by decide +kernel
theorem dX6_calledSet_1 : decode cX6_calledSet 1 = .ok (.istore_n 1, 1) := by decide +kernel
theorem dX6_calledSet_2 : decode cX6_calledSet 2 = .ok (.iconst 0, 1) := by decide +kernel
theorem dX6_calledSet_3 : decode cX6_calledSet 3 = .ok (.istore_n 2, 1) := by decide +kernel
theorem dX6_calledSet_4 : decode cX6_calledSet 4 = .ok (.iload_n 2, 1) := by decide +kernel
theorem dX6_calledSet_5 : decode cX6_calledSet 5 = .ok (.aload_n 0, 1) := by decide +kernel
theorem dX6_calledSet_6 : decode cX6_calledSet 6 = .ok (.getfield 19, 3) := by decide +kernel
theorem dX6_calledSet_9 : decode cX6_calledSet 9 = .ok (.getfield 159, 3) := by decide +kernel
theorem dX6_calledSet_12 : decode cX6_calledSet 12 = .ok (.if_icmp .ge 24, 3) := by decide +kernel
theorem dX6_calledSet_15 : decode cX6_calledSet 15 = .ok (.aload_n 0, 1) := by decide +kernel
theorem dX6_calledSet_16 : decode cX6_calledSet 16 = .ok (.iload_n 2, 1) := by decide +kernel
theorem dX6_calledSet_17 : decode cX6_calledSet 17 = .ok (.iconst 0, 1) := by decide +kernel
theorem dX6_calledSet_18 : decode cX6_calledSet 18 = .ok (.invokevirtual 130, 3) := by decide +kernel
theorem dX6_calledSet_21 : decode cX6_calledSet 21 = .ok (.ifCond .eq 9, 3) := by decide +kernel
theorem dX6_calledSet_24 : decode cX6_calledSet 24 = .ok (.iload_n 1, 1) := by decide +kernel
theorem dX6_calledSet_25 : decode cX6_calledSet 25 = .ok (.iconst 1, 1) := by decide +kernel
theorem dX6_calledSet_26 : decode cX6_calledSet 26 = .ok (.iload_n 2, 1) := by decide +kernel
theorem dX6_calledSet_27 : decode cX6_calledSet 27 = .ok (.ishl, 1) := by decide +kernel
theorem dX6_calledSet_28 : decode cX6_calledSet 28 = .ok (.ior, 1) := by decide +kernel
theorem dX6_calledSet_29 : decode cX6_calledSet 29 = .ok (.istore_n 1, 1) := by decide +kernel
theorem dX6_calledSet_30 : decode cX6_calledSet 30 = .ok (.iinc 2 1, 3) := by decide +kernel
theorem dX6_calledSet_33 : decode cX6_calledSet 33 = .ok (.goto (-29), 3) := by decide +kernel
theorem dX6_calledSet_36 : decode cX6_calledSet 36 = .ok (.iload_n 1, 1) := by decide +kernel
theorem dX6_calledSet_37 : decode cX6_calledSet 37 = .ok (.ireturn, 1) := by decide +kernel
theorem dX6_worthOf_0 : decode cX6_worthOf 0 = .ok (.iconst 0, 1) := by decide +kernel
theorem dX6_worthOf_1 : decode cX6_worthOf 1 = .ok (.istore_n 2, 1) := by decide +kernel
theorem dX6_worthOf_2 : decode cX6_worthOf 2 = .ok (.iconst 0, 1) := by decide +kernel
theorem dX6_worthOf_3 : decode cX6_worthOf 3 = .ok (.istore_n 3, 1) := by decide +kernel
theorem dX6_worthOf_4 : decode cX6_worthOf 4 = .ok (.iload_n 3, 1) := by decide +kernel
theorem dX6_worthOf_5 : decode cX6_worthOf 5 = .ok (.aload_n 0, 1) := by decide +kernel
theorem dX6_worthOf_6 : decode cX6_worthOf 6 = .ok (.getfield 19, 3) := by decide +kernel
theorem dX6_worthOf_9 : decode cX6_worthOf 9 = .ok (.getfield 159, 3) := by decide +kernel
theorem dX6_worthOf_12 : decode cX6_worthOf 12 = .ok (.if_icmp .ge 29, 3) := by decide +kernel
theorem dX6_worthOf_15 : decode cX6_worthOf 15 = .ok (.iload_n 1, 1) := by decide +kernel
theorem dX6_worthOf_16 : decode cX6_worthOf 16 = .ok (.iload_n 3, 1) := by decide +kernel
theorem dX6_worthOf_17 : decode cX6_worthOf 17 = .ok (.ishr, 1) := by decide +kernel
theorem dX6_worthOf_18 : decode cX6_worthOf 18 = .ok (.iconst 1, 1) := by decide +kernel
theorem dX6_worthOf_19 : decode cX6_worthOf 19 = .ok (.iand, 1) := by decide +kernel
theorem dX6_worthOf_20 : decode cX6_worthOf 20 = .ok (.ifCond .eq 15, 3) := by decide +kernel
theorem dX6_worthOf_23 : decode cX6_worthOf 23 = .ok (.iload_n 2, 1) := by decide +kernel
theorem dX6_worthOf_24 : decode cX6_worthOf 24 = .ok (.aload_n 0, 1) := by decide +kernel
theorem dX6_worthOf_25 : decode cX6_worthOf 25 = .ok (.getfield 19, 3) := by decide +kernel
theorem dX6_worthOf_28 : decode cX6_worthOf 28 = .ok (.getfield 127, 3) := by decide +kernel
theorem dX6_worthOf_31 : decode cX6_worthOf 31 = .ok (.iload_n 3, 1) := by decide +kernel
theorem dX6_worthOf_32 : decode cX6_worthOf 32 = .ok (.iaload, 1) := by decide +kernel
theorem dX6_worthOf_33 : decode cX6_worthOf 33 = .ok (.iadd, 1) := by decide +kernel
theorem dX6_worthOf_34 : decode cX6_worthOf 34 = .ok (.istore_n 2, 1) := by decide +kernel
theorem dX6_worthOf_35 : decode cX6_worthOf 35 = .ok (.iinc 3 1, 3) := by decide +kernel
theorem dX6_worthOf_38 : decode cX6_worthOf 38 = .ok (.goto (-34), 3) := by decide +kernel
theorem dX6_worthOf_41 : decode cX6_worthOf 41 = .ok (.iload_n 2, 1) := by decide +kernel
theorem dX6_worthOf_42 : decode cX6_worthOf 42 = .ok (.ireturn, 1) := by decide +kernel
set_option maxRecDepth 20000 in
theorem ggX6_yellowOfAll_X2_yellow : GoodIn wsX6_yellowOfAll wsX2_yellow := goodIn_r _ [7, 8, 30, 31] (by decide +kernel) (by decide +kernel)
set_option maxRecDepth 20000 in
theorem gX6_yellowOfAll_X2_yellow : GoodIn wsX6_yellowOfAll (wsV RX6 117 RX2 yX2_yellow wsX2_yellow) := goodIn_app (goodIn_of _ (by decide +kernel)) ggX6_yellowOfAll_X2_yellow
theorem dX6_yellowOfAll_0 : decode cX6_yellowOfAll 0 = .ok (.iconst 0, 1) := by decide +kernel
theorem dX6_yellowOfAll_1 : decode cX6_yellowOfAll 1 = .ok (.istore_n 1, 1) := by decide +kernel
theorem dX6_yellowOfAll_2 : decode cX6_yellowOfAll 2 = .ok (.iconst 0, 1) := by decide +kernel
theorem dX6_yellowOfAll_3 : decode cX6_yellowOfAll 3 = .ok (.istore_n 2, 1) := by decide +kernel
theorem dX6_yellowOfAll_4 : decode cX6_yellowOfAll 4 = .ok (.iload_n 2, 1) := by decide +kernel
theorem dX6_yellowOfAll_5 : decode cX6_yellowOfAll 5 = .ok (.aload_n 0, 1) := by decide +kernel
theorem dX6_yellowOfAll_6 : decode cX6_yellowOfAll 6 = .ok (.getfield 19, 3) := by decide +kernel
theorem dX6_yellowOfAll_9 : decode cX6_yellowOfAll 9 = .ok (.getfield 159, 3) := by decide +kernel
theorem dX6_yellowOfAll_12 : decode cX6_yellowOfAll 12 = .ok (.if_icmp .ge 20, 3) := by decide +kernel
theorem dX6_yellowOfAll_15 : decode cX6_yellowOfAll 15 = .ok (.iload_n 1, 1) := by decide +kernel
theorem dX6_yellowOfAll_16 : decode cX6_yellowOfAll 16 = .ok (.aload_n 0, 1) := by decide +kernel
theorem dX6_yellowOfAll_17 : decode cX6_yellowOfAll 17 = .ok (.getfield 29, 3) := by decide +kernel
theorem dX6_yellowOfAll_20 : decode cX6_yellowOfAll 20 = .ok (.iload_n 2, 1) := by decide +kernel
theorem dX6_yellowOfAll_21 : decode cX6_yellowOfAll 21 = .ok (.invokevirtual 117, 3) := by decide +kernel
theorem dX6_yellowOfAll_24 : decode cX6_yellowOfAll 24 = .ok (.iadd, 1) := by decide +kernel
theorem dX6_yellowOfAll_25 : decode cX6_yellowOfAll 25 = .ok (.istore_n 1, 1) := by decide +kernel
theorem dX6_yellowOfAll_26 : decode cX6_yellowOfAll 26 = .ok (.iinc 2 1, 3) := by decide +kernel
theorem dX6_yellowOfAll_29 : decode cX6_yellowOfAll 29 = .ok (.goto (-25), 3) := by decide +kernel
theorem dX6_yellowOfAll_32 : decode cX6_yellowOfAll 32 = .ok (.iload_n 1, 1) := by decide +kernel
theorem dX6_yellowOfAll_33 : decode cX6_yellowOfAll 33 = .ok (.ireturn, 1) := by decide +kernel
set_option maxRecDepth 20000 in
theorem ggX6_scrapedFrom_X2_yellow : GoodIn wsX6_scrapedFrom wsX2_yellow := goodIn_r _ [7, 8, 30, 31] (by decide +kernel) (by decide +kernel)
set_option maxRecDepth 20000 in
theorem gX6_scrapedFrom_X2_yellow : GoodIn wsX6_scrapedFrom (wsV RX6 117 RX2 yX2_yellow wsX2_yellow) := goodIn_app (goodIn_of _ (by decide +kernel)) ggX6_scrapedFrom_X2_yellow
theorem dX6_scrapedFrom_0 : decode cX6_scrapedFrom 0 = .ok (.aload_n 0, 1) := by decide +kernel
theorem dX6_scrapedFrom_1 : decode cX6_scrapedFrom 1 = .ok (.getfield 29, 3) := by decide +kernel
theorem dX6_scrapedFrom_4 : decode cX6_scrapedFrom 4 = .ok (.iload_n 1, 1) := by decide +kernel
theorem dX6_scrapedFrom_5 : decode cX6_scrapedFrom 5 = .ok (.invokevirtual 117, 3) := by decide +kernel
theorem dX6_scrapedFrom_8 : decode cX6_scrapedFrom 8 = .ok (.istore_n 2, 1) := by decide +kernel
theorem dX6_scrapedFrom_9 : decode cX6_scrapedFrom 9 = .ok (.iload_n 2, 1) := by decide +kernel
theorem dX6_scrapedFrom_10 : decode cX6_scrapedFrom 10 = .ok (.iload_n 2, 1) := by decide +kernel
theorem dX6_scrapedFrom_11 : decode cX6_scrapedFrom 11 = .ok (.aload_n 0, 1) := by decide +kernel
theorem dX6_scrapedFrom_12 : decode cX6_scrapedFrom 12 = .ok (.getfield 19, 3) := by decide +kernel
theorem dX6_scrapedFrom_15 : decode cX6_scrapedFrom 15 = .ok (.getfield 287, 3) := by decide +kernel
theorem dX6_scrapedFrom_18 : decode cX6_scrapedFrom 18 = .ok (.imul, 1) := by decide +kernel
theorem dX6_scrapedFrom_19 : decode cX6_scrapedFrom 19 = .ok (.bipush 10, 2) := by decide +kernel
theorem dX6_scrapedFrom_21 : decode cX6_scrapedFrom 21 = .ok (.idiv, 1) := by decide +kernel
theorem dX6_scrapedFrom_22 : decode cX6_scrapedFrom 22 = .ok (.isub, 1) := by decide +kernel
theorem dX6_scrapedFrom_23 : decode cX6_scrapedFrom 23 = .ok (.ireturn, 1) := by decide +kernel
set_option maxRecDepth 20000 in
theorem ggX6_leastYellow_X2_white : GoodIn wsX6_leastYellow wsX2_white := goodIn_r _ [11, 12, 38, 39] (by decide +kernel) (by decide +kernel)
set_option maxRecDepth 20000 in
theorem gX6_leastYellow_X2_white : GoodIn wsX6_leastYellow (wsV RX6 120 RX2 yX2_white wsX2_white) := goodIn_app (goodIn_of _ (by decide +kernel)) ggX6_leastYellow_X2_white
set_option maxRecDepth 20000 in
theorem ggX6_leastYellow_X6_quotient : GoodIn wsX6_leastYellow wsX6_quotient := goodIn_r _ [16] (by decide +kernel) (by decide +kernel)
set_option maxRecDepth 20000 in
theorem gX6_leastYellow_X6_quotient : GoodIn wsX6_leastYellow (va_wsS RX6 219 yX6_quotient wsX6_quotient) := goodIn_app (goodIn_of _ (by decide +kernel)) ggX6_leastYellow_X6_quotient
theorem dX6_leastYellow_0 : decode cX6_leastYellow 0 = .ok (.aload_n 0, 1) := by decide +kernel
theorem dX6_leastYellow_1 : decode cX6_leastYellow 1 = .ok (.getfield 29, 3) := by decide +kernel
theorem dX6_leastYellow_4 : decode cX6_leastYellow 4 = .ok (.iload_n 1, 1) := by decide +kernel
theorem dX6_leastYellow_5 : decode cX6_leastYellow 5 = .ok (.invokevirtual 120, 3) := by decide +kernel
theorem dX6_leastYellow_8 : decode cX6_leastYellow 8 = .ok (.istore_n 2, 1) := by decide +kernel
theorem dX6_leastYellow_9 : decode cX6_leastYellow 9 = .ok (.bipush 10, 2) := by decide +kernel
theorem dX6_leastYellow_11 : decode cX6_leastYellow 11 = .ok (.aload_n 0, 1) := by decide +kernel
theorem dX6_leastYellow_12 : decode cX6_leastYellow 12 = .ok (.getfield 19, 3) := by decide +kernel
theorem dX6_leastYellow_15 : decode cX6_leastYellow 15 = .ok (.getfield 216, 3) := by decide +kernel
theorem dX6_leastYellow_18 : decode cX6_leastYellow 18 = .ok (.isub, 1) := by decide +kernel
theorem dX6_leastYellow_19 : decode cX6_leastYellow 19 = .ok (.istore_n 3, 1) := by decide +kernel
theorem dX6_leastYellow_20 : decode cX6_leastYellow 20 = .ok (.iload_n 3, 1) := by decide +kernel
theorem dX6_leastYellow_21 : decode cX6_leastYellow 21 = .ok (.ifCond .ne 14, 3) := by decide +kernel
theorem dX6_leastYellow_24 : decode cX6_leastYellow 24 = .ok (.iload_n 2, 1) := by decide +kernel
theorem dX6_leastYellow_25 : decode cX6_leastYellow 25 = .ok (.ifCond .ne 7, 3) := by decide +kernel
theorem dX6_leastYellow_28 : decode cX6_leastYellow 28 = .ok (.iconst 1, 1) := by decide +kernel
theorem dX6_leastYellow_29 : decode cX6_leastYellow 29 = .ok (.goto 5, 3) := by decide +kernel
theorem dX6_leastYellow_32 : decode cX6_leastYellow 32 = .ok (.bipush (-9), 2) := by decide +kernel
theorem dX6_leastYellow_34 : decode cX6_leastYellow 34 = .ok (.ireturn, 1) := by decide +kernel
theorem dX6_leastYellow_35 : decode cX6_leastYellow 35 = .ok (.aload_n 0, 1) := by decide +kernel
theorem dX6_leastYellow_36 : decode cX6_leastYellow 36 = .ok (.getfield 19, 3) := by decide +kernel
theorem dX6_leastYellow_39 : decode cX6_leastYellow 39 = .ok (.getfield 216, 3) := by decide +kernel
theorem dX6_leastYellow_42 : decode cX6_leastYellow 42 = .ok (.iload_n 2, 1) := by decide +kernel
theorem dX6_leastYellow_43 : decode cX6_leastYellow 43 = .ok (.imul, 1) := by decide +kernel
theorem dX6_leastYellow_44 : decode cX6_leastYellow 44 = .ok (.iload_n 3, 1) := by decide +kernel
theorem dX6_leastYellow_45 : decode cX6_leastYellow 45 = .ok (.iadd, 1) := by decide +kernel
theorem dX6_leastYellow_46 : decode cX6_leastYellow 46 = .ok (.iconst 1, 1) := by decide +kernel
theorem dX6_leastYellow_47 : decode cX6_leastYellow 47 = .ok (.isub, 1) := by decide +kernel
theorem dX6_leastYellow_48 : decode cX6_leastYellow 48 = .ok (.iload_n 3, 1) := by decide +kernel
theorem dX6_leastYellow_49 : decode cX6_leastYellow 49 = .ok (.invokestatic 219, 3) := by decide +kernel
theorem dX6_leastYellow_52 : decode cX6_leastYellow 52 = .ok (.istore 4, 2) := by decide +kernel
theorem dX6_leastYellow_54 : decode cX6_leastYellow 54 = .ok (.iconst 1, 1) := by decide +kernel
theorem dX6_leastYellow_55 : decode cX6_leastYellow 55 = .ok (.iload 4, 2) := by decide +kernel
theorem dX6_leastYellow_57 : decode cX6_leastYellow 57 = .ok (.invokestatic 293, 3) := by decide +kernel
theorem dX6_leastYellow_60 : decode cX6_leastYellow 60 = .ok (.ireturn, 1) := by decide +kernel
set_option maxRecDepth 20000 in
theorem ggX6_yearsCalled_X6_calledAfter : GoodIn wsX6_yearsCalled wsX6_calledAfter := goodIn_r _ [6, 7, 8, 9, 10, 5, 11, 1, 12, 13, 14, 15, 16, 17, 18, 19, 20, 21, 22, 23, 24, 25, 26, 27, 28, 29, 41, 42, 43, 44, 45, 46, 47, 48, 49, 50, 51, 52, 53, 54, 55, 56, 57, 58, 59, 60, 61, 62, 63] (by decide +kernel) (by decide +kernel)
set_option maxRecDepth 20000 in
theorem gX6_yearsCalled_X6_calledAfter : GoodIn wsX6_yearsCalled (wsV RX6 130 RX6 yX6_calledAfter wsX6_calledAfter) := goodIn_app (goodIn_of _ (by decide +kernel)) ggX6_yearsCalled_X6_calledAfter
set_option maxRecDepth 20000 in
theorem ggX6_yearsCalled_X6_canSpare : GoodIn wsX6_yearsCalled wsX6_canSpare := goodIn_r _ [33, 7, 2, 3, 4, 5, 6, 8, 9, 10, 11, 1, 12, 13, 14, 15, 16, 17, 18, 19, 20, 21, 22, 23, 24, 25, 26, 27, 28, 29, 34, 35, 36, 37, 38, 39, 40, 41, 42, 43, 44, 45, 46, 47, 48, 49, 50, 51, 52, 53, 54, 55, 56, 57, 58, 59, 60, 61, 62, 63] (by decide +kernel) (by decide +kernel)
set_option maxRecDepth 20000 in
theorem gX6_yearsCalled_X6_canSpare : GoodIn wsX6_yearsCalled (wsV RX6 230 RX6 yX6_canSpare wsX6_canSpare) := goodIn_app (goodIn_of _ (by decide +kernel)) ggX6_yearsCalled_X6_canSpare
set_option maxRecDepth 20000 in
theorem ggX6_yearsCalled_X6_quotient : GoodIn wsX6_yearsCalled wsX6_quotient := goodIn_r _ [40] (by decide +kernel) (by decide +kernel)
set_option maxRecDepth 20000 in
theorem gX6_yearsCalled_X6_quotient : GoodIn wsX6_yearsCalled (va_wsS RX6 219 yX6_quotient wsX6_quotient) := goodIn_app (goodIn_of _ (by decide +kernel)) ggX6_yearsCalled_X6_quotient
theorem dX6_yearsCalled_0 : decode cX6_yearsCalled 0 = .ok (.aload_n 0, 1) := by decide +kernel
theorem dX6_yearsCalled_1 : decode cX6_yearsCalled 1 = .ok (.iload_n 1, 1) := by decide +kernel
theorem dX6_yearsCalled_2 : decode cX6_yearsCalled 2 = .ok (.iconst 0, 1) := by decide +kernel
theorem dX6_yearsCalled_3 : decode cX6_yearsCalled 3 = .ok (.invokevirtual 130, 3) := by decide +kernel
theorem dX6_yearsCalled_6 : decode cX6_yearsCalled 6 = .ok (.ifCond .ne 5, 3) := by decide +kernel
theorem dX6_yearsCalled_9 : decode cX6_yearsCalled 9 = .ok (.iconst 0, 1) := by decide +kernel
theorem dX6_yearsCalled_10 : decode cX6_yearsCalled 10 = .ok (.ireturn, 1) := by decide +kernel
theorem dX6_yearsCalled_11 : decode cX6_yearsCalled 11 = .ok (.aload_n 0, 1) := by decide +kernel
theorem dX6_yearsCalled_12 : decode cX6_yearsCalled 12 = .ok (.getfield 19, 3) := by decide +kernel
theorem dX6_yearsCalled_15 : decode cX6_yearsCalled 15 = .ok (.getfield 123, 3) := by decide +kernel
theorem dX6_yearsCalled_18 : decode cX6_yearsCalled 18 = .ok (.iload_n 1, 1) := by decide +kernel
theorem dX6_yearsCalled_19 : decode cX6_yearsCalled 19 = .ok (.iaload, 1) := by decide +kernel
theorem dX6_yearsCalled_20 : decode cX6_yearsCalled 20 = .ok (.ifCond .ne 6, 3) := by decide +kernel
theorem dX6_yearsCalled_23 : decode cX6_yearsCalled 23 = .ok (.bipush (-9), 2) := by decide +kernel
theorem dX6_yearsCalled_25 : decode cX6_yearsCalled 25 = .ok (.ireturn, 1) := by decide +kernel
theorem dX6_yearsCalled_26 : decode cX6_yearsCalled 26 = .ok (.aload_n 0, 1) := by decide +kernel
theorem dX6_yearsCalled_27 : decode cX6_yearsCalled 27 = .ok (.iload_n 1, 1) := by decide +kernel
theorem dX6_yearsCalled_28 : decode cX6_yearsCalled 28 = .ok (.invokevirtual 230, 3) := by decide +kernel
theorem dX6_yearsCalled_31 : decode cX6_yearsCalled 31 = .ok (.aload_n 0, 1) := by decide +kernel
theorem dX6_yearsCalled_32 : decode cX6_yearsCalled 32 = .ok (.getfield 19, 3) := by decide +kernel
theorem dX6_yearsCalled_35 : decode cX6_yearsCalled 35 = .ok (.getfield 123, 3) := by decide +kernel
theorem dX6_yearsCalled_38 : decode cX6_yearsCalled 38 = .ok (.iload_n 1, 1) := by decide +kernel
theorem dX6_yearsCalled_39 : decode cX6_yearsCalled 39 = .ok (.iaload, 1) := by decide +kernel
theorem dX6_yearsCalled_40 : decode cX6_yearsCalled 40 = .ok (.invokestatic 219, 3) := by decide +kernel
theorem dX6_yearsCalled_43 : decode cX6_yearsCalled 43 = .ok (.iconst 1, 1) := by decide +kernel
theorem dX6_yearsCalled_44 : decode cX6_yearsCalled 44 = .ok (.iadd, 1) := by decide +kernel
theorem dX6_yearsCalled_45 : decode cX6_yearsCalled 45 = .ok (.ireturn, 1) := by decide +kernel
set_option maxRecDepth 20000 in
theorem ggX6_canSpare_X6_calledAfter : GoodIn wsX6_canSpare wsX6_calledAfter := goodIn_r _ [6, 1, 7, 8, 9, 5, 10, 11, 12, 13, 14, 15, 16, 17, 18, 19, 20, 21, 22, 23, 24, 25, 26, 27, 28, 29, 37, 38, 39, 40, 41, 42, 43, 44, 45, 46, 47, 48, 49, 50, 51, 52, 53, 54, 55, 56, 57, 58, 59] (by decide +kernel) (by decide +kernel)
set_option maxRecDepth 20000 in
theorem gX6_canSpare_X6_calledAfter : GoodIn wsX6_canSpare (wsV RX6 130 RX6 yX6_calledAfter wsX6_calledAfter) := goodIn_app (goodIn_of _ (by decide +kernel)) ggX6_canSpare_X6_calledAfter
set_option maxRecDepth 20000 in
theorem ggX6_canSpare_X2_yellow : GoodIn wsX6_canSpare wsX2_yellow := goodIn_r _ [20, 21, 58, 59] (by decide +kernel) (by decide +kernel)
set_option maxRecDepth 20000 in
theorem gX6_canSpare_X2_yellow : GoodIn wsX6_canSpare (wsV RX6 117 RX2 yX2_yellow wsX2_yellow) := goodIn_app (goodIn_of _ (by decide +kernel)) ggX6_canSpare_X2_yellow
set_option maxRecDepth 20000 in
theorem ggX6_canSpare_X6_leastYellow : GoodIn wsX6_canSpare wsX6_leastYellow := goodIn_r _ [33, 1, 11, 12, 13, 14, 15, 22, 23, 24, 19, 25, 21, 34, 35, 5, 36, 37, 38, 39, 40, 41, 42, 43, 44, 45, 46, 47, 48, 49, 50, 51, 52, 53, 54, 55, 56, 57, 58, 59] (by decide +kernel) (by decide +kernel)
set_option maxRecDepth 20000 in
theorem gX6_canSpare_X6_leastYellow : GoodIn wsX6_canSpare (wsV RX6 299 RX6 yX6_leastYellow wsX6_leastYellow) := goodIn_app (goodIn_of _ (by decide +kernel)) ggX6_canSpare_X6_leastYellow
theorem dX6_canSpare_0 : decode cX6_canSpare 0 = .ok (.aload_n 0, 1) := by decide +kernel
theorem dX6_canSpare_1 : decode cX6_canSpare 1 = .ok (.iload_n 1, 1) := by decide +kernel
theorem dX6_canSpare_2 : decode cX6_canSpare 2 = .ok (.iconst 0, 1) := by decide +kernel
theorem dX6_canSpare_3 : decode cX6_canSpare 3 = .ok (.invokevirtual 130, 3) := by decide +kernel
theorem dX6_canSpare_6 : decode cX6_canSpare 6 = .ok (.ifCond .eq 20, 3) := by decide +kernel
theorem dX6_canSpare_9 : decode cX6_canSpare 9 = .ok (.aload_n 0, 1) := by decide +kernel
theorem dX6_canSpare_10 : decode cX6_canSpare 10 = .ok (.getfield 29, 3) := by decide +kernel
theorem dX6_canSpare_13 : decode cX6_canSpare 13 = .ok (.iload_n 1, 1) := by decide +kernel
theorem dX6_canSpare_14 : decode cX6_canSpare 14 = .ok (.invokevirtual 117, 3) := by decide +kernel
theorem dX6_canSpare_17 : decode cX6_canSpare 17 = .ok (.aload_n 0, 1) := by decide +kernel
theorem dX6_canSpare_18 : decode cX6_canSpare 18 = .ok (.iload_n 1, 1) := by decide +kernel
theorem dX6_canSpare_19 : decode cX6_canSpare 19 = .ok (.invokevirtual 299, 3) := by decide +kernel
theorem dX6_canSpare_22 : decode cX6_canSpare 22 = .ok (.isub, 1) := by decide +kernel
theorem dX6_canSpare_23 : decode cX6_canSpare 23 = .ok (.goto 4, 3) := by decide +kernel
theorem dX6_canSpare_26 : decode cX6_canSpare 26 = .ok (.iconst 0, 1) := by decide +kernel
theorem dX6_canSpare_27 : decode cX6_canSpare 27 = .ok (.ireturn, 1) := by decide +kernel
set_option maxRecDepth 20000 in
theorem ggX6_paintFor_X6_leastYellow : GoodIn wsX6_paintFor wsX6_leastYellow := goodIn_r _ [11, 1, 2, 3, 4, 5, 6, 12, 13, 14, 15, 16, 17, 18, 19, 10, 20, 25, 26, 27, 28, 29, 30, 31, 32, 33, 34, 35, 36, 37, 38, 39, 40, 41, 42, 43, 44, 45, 46, 47] (by decide +kernel) (by decide +kernel)
set_option maxRecDepth 20000 in
theorem gX6_paintFor_X6_leastYellow : GoodIn wsX6_paintFor (wsV RX6 299 RX6 yX6_leastYellow wsX6_leastYellow) := goodIn_app (goodIn_of _ (by decide +kernel)) ggX6_paintFor_X6_leastYellow
set_option maxRecDepth 20000 in
theorem ggX6_paintFor_X2_yellow : GoodIn wsX6_paintFor wsX2_yellow := goodIn_r _ [24, 17, 46, 47] (by decide +kernel) (by decide +kernel)
set_option maxRecDepth 20000 in
theorem gX6_paintFor_X2_yellow : GoodIn wsX6_paintFor (wsV RX6 117 RX2 yX2_yellow wsX2_yellow) := goodIn_app (goodIn_of _ (by decide +kernel)) ggX6_paintFor_X2_yellow
theorem dX6_paintFor_0 : decode cX6_paintFor 0 = .ok (.aload_n 0, 1) := by decide +kernel
theorem dX6_paintFor_1 : decode cX6_paintFor 1 = .ok (.iload_n 1, 1) := by decide +kernel
theorem dX6_paintFor_2 : decode cX6_paintFor 2 = .ok (.invokevirtual 299, 3) := by decide +kernel
theorem dX6_paintFor_5 : decode cX6_paintFor 5 = .ok (.istore_n 3, 1) := by decide +kernel
theorem dX6_paintFor_6 : decode cX6_paintFor 6 = .ok (.iload_n 3, 1) := by decide +kernel
theorem dX6_paintFor_7 : decode cX6_paintFor 7 = .ok (.bipush (-9), 2) := by decide +kernel
theorem dX6_paintFor_9 : decode cX6_paintFor 9 = .ok (.if_icmp .ne 6, 3) := by decide +kernel
theorem dX6_paintFor_12 : decode cX6_paintFor 12 = .ok (.bipush (-9), 2) := by decide +kernel
theorem dX6_paintFor_14 : decode cX6_paintFor 14 = .ok (.ireturn, 1) := by decide +kernel
theorem dX6_paintFor_15 : decode cX6_paintFor 15 = .ok (.aload_n 0, 1) := by decide +kernel
theorem dX6_paintFor_16 : decode cX6_paintFor 16 = .ok (.getfield 29, 3) := by decide +kernel
theorem dX6_paintFor_19 : decode cX6_paintFor 19 = .ok (.iload_n 1, 1) := by decide +kernel
theorem dX6_paintFor_20 : decode cX6_paintFor 20 = .ok (.invokevirtual 117, 3) := by decide +kernel
theorem dX6_paintFor_23 : decode cX6_paintFor 23 = .ok (.istore 4, 2) := by decide +kernel
theorem dX6_paintFor_25 : decode cX6_paintFor 25 = .ok (.iconst 0, 1) := by decide +kernel
theorem dX6_paintFor_26 : decode cX6_paintFor 26 = .ok (.iload_n 3, 1) := by decide +kernel
theorem dX6_paintFor_27 : decode cX6_paintFor 27 = .ok (.iload_n 2, 1) := by decide +kernel
theorem dX6_paintFor_28 : decode cX6_paintFor 28 = .ok (.aload_n 0, 1) := by decide +kernel
theorem dX6_paintFor_29 : decode cX6_paintFor 29 = .ok (.getfield 19, 3) := by decide +kernel
theorem dX6_paintFor_32 : decode cX6_paintFor 32 = .ok (.getfield 123, 3) := by decide +kernel
theorem dX6_paintFor_35 : decode cX6_paintFor 35 = .ok (.iload_n 1, 1) := by decide +kernel
theorem dX6_paintFor_36 : decode cX6_paintFor 36 = .ok (.iaload, 1) := by decide +kernel
theorem dX6_paintFor_37 : decode cX6_paintFor 37 = .ok (.imul, 1) := by decide +kernel
theorem dX6_paintFor_38 : decode cX6_paintFor 38 = .ok (.iadd, 1) := by decide +kernel
theorem dX6_paintFor_39 : decode cX6_paintFor 39 = .ok (.iload 4, 2) := by decide +kernel
theorem dX6_paintFor_41 : decode cX6_paintFor 41 = .ok (.isub, 1) := by decide +kernel
theorem dX6_paintFor_42 : decode cX6_paintFor 42 = .ok (.invokestatic 293, 3) := by decide +kernel
theorem dX6_paintFor_45 : decode cX6_paintFor 45 = .ok (.istore 5, 2) := by decide +kernel
theorem dX6_paintFor_47 : decode cX6_paintFor 47 = .ok (.iload 4, 2) := by decide +kernel
theorem dX6_paintFor_49 : decode cX6_paintFor 49 = .ok (.iload 5, 2) := by decide +kernel
theorem dX6_paintFor_51 : decode cX6_paintFor 51 = .ok (.iadd, 1) := by decide +kernel
theorem dX6_paintFor_52 : decode cX6_paintFor 52 = .ok (.sipush 999, 3) := by decide +kernel
theorem dX6_paintFor_55 : decode cX6_paintFor 55 = .ok (.if_icmp .le 8, 3) := by decide +kernel
theorem dX6_paintFor_58 : decode cX6_paintFor 58 = .ok (.bipush (-9), 2) := by decide +kernel
theorem dX6_paintFor_60 : decode cX6_paintFor 60 = .ok (.goto 5, 3) := by decide +kernel
theorem dX6_paintFor_63 : decode cX6_paintFor 63 = .ok (.iload 5, 2) := by decide +kernel
theorem dX6_paintFor_65 : decode cX6_paintFor 65 = .ok (.ireturn, 1) := by decide +kernel
set_option maxRecDepth 20000 in
theorem ggX6_priceAfter_X6_calledAfter : GoodIn wsX6_priceAfter wsX6_calledAfter := goodIn_r _ [6, 7, 8, 9, 10, 5, 11, 1, 12, 13, 14, 15, 16, 17, 18, 19, 20, 21, 22, 23, 24, 25, 26, 27, 28, 29, 33, 34, 35, 36, 37, 38, 39, 40, 41, 42, 43, 44, 45, 46, 47, 48, 49, 50, 51, 52, 53, 54, 55] (by decide +kernel) (by decide +kernel)
set_option maxRecDepth 20000 in
theorem gX6_priceAfter_X6_calledAfter : GoodIn wsX6_priceAfter (wsV RX6 130 RX6 yX6_calledAfter wsX6_calledAfter) := goodIn_app (goodIn_of _ (by decide +kernel)) ggX6_priceAfter_X6_calledAfter
set_option maxRecDepth 20000 in
theorem ggX6_priceAfter_X6_oneIf : GoodIn wsX6_priceAfter wsX6_oneIf := goodIn_r _ [32] (by decide +kernel) (by decide +kernel)
set_option maxRecDepth 20000 in
theorem gX6_priceAfter_X6_oneIf : GoodIn wsX6_priceAfter (va_wsS RX6 107 yX6_oneIf wsX6_oneIf) := goodIn_app (goodIn_of _ (by decide +kernel)) ggX6_priceAfter_X6_oneIf
theorem dX6_priceAfter_0 : decode cX6_priceAfter 0 = .ok (.aload_n 0, 1) := by decide +kernel
theorem dX6_priceAfter_1 : decode cX6_priceAfter 1 = .ok (.iload_n 1, 1) := by decide +kernel
theorem dX6_priceAfter_2 : decode cX6_priceAfter 2 = .ok (.iload_n 2, 1) := by decide +kernel
theorem dX6_priceAfter_3 : decode cX6_priceAfter 3 = .ok (.invokevirtual 130, 3) := by decide +kernel
theorem dX6_priceAfter_6 : decode cX6_priceAfter 6 = .ok (.ifCond .ne 5, 3) := by decide +kernel
theorem dX6_priceAfter_9 : decode cX6_priceAfter 9 = .ok (.iconst 0, 1) := by decide +kernel
theorem dX6_priceAfter_10 : decode cX6_priceAfter 10 = .ok (.ireturn, 1) := by decide +kernel
theorem dX6_priceAfter_11 : decode cX6_priceAfter 11 = .ok (.iconst 0, 1) := by decide +kernel
theorem dX6_priceAfter_12 : decode cX6_priceAfter 12 = .ok (.istore_n 3, 1) := by decide +kernel
theorem dX6_priceAfter_13 : decode cX6_priceAfter 13 = .ok (.iconst 0, 1) := by decide +kernel
theorem dX6_priceAfter_14 : decode cX6_priceAfter 14 = .ok (.istore 4, 2) := by decide +kernel
theorem dX6_priceAfter_16 : decode cX6_priceAfter 16 = .ok (.iload 4, 2) := by decide +kernel
theorem dX6_priceAfter_18 : decode cX6_priceAfter 18 = .ok (.aload_n 0, 1) := by decide +kernel
theorem dX6_priceAfter_19 : decode cX6_priceAfter 19 = .ok (.getfield 19, 3) := by decide +kernel
theorem dX6_priceAfter_22 : decode cX6_priceAfter 22 = .ok (.getfield 159, 3) := by decide +kernel
theorem dX6_priceAfter_25 : decode cX6_priceAfter 25 = .ok (.if_icmp .ge 30, 3) := by decide +kernel
theorem dX6_priceAfter_28 : decode cX6_priceAfter 28 = .ok (.iload_n 3, 1) := by decide +kernel
theorem dX6_priceAfter_29 : decode cX6_priceAfter 29 = .ok (.aload_n 0, 1) := by decide +kernel
theorem dX6_priceAfter_30 : decode cX6_priceAfter 30 = .ok (.iload 4, 2) := by decide +kernel
theorem dX6_priceAfter_32 : decode cX6_priceAfter 32 = .ok (.iload_n 2, 1) := by decide +kernel
theorem dX6_priceAfter_33 : decode cX6_priceAfter 33 = .ok (.invokevirtual 130, 3) := by decide +kernel
theorem dX6_priceAfter_36 : decode cX6_priceAfter 36 = .ok (.ifCond .ne 7, 3) := by decide +kernel
theorem dX6_priceAfter_39 : decode cX6_priceAfter 39 = .ok (.iconst 1, 1) := by decide +kernel
theorem dX6_priceAfter_40 : decode cX6_priceAfter 40 = .ok (.goto 4, 3) := by decide +kernel
theorem dX6_priceAfter_43 : decode cX6_priceAfter 43 = .ok (.iconst 0, 1) := by decide +kernel
theorem dX6_priceAfter_44 : decode cX6_priceAfter 44 = .ok (.invokestatic 107, 3) := by decide +kernel
theorem dX6_priceAfter_47 : decode cX6_priceAfter 47 = .ok (.iadd, 1) := by decide +kernel
theorem dX6_priceAfter_48 : decode cX6_priceAfter 48 = .ok (.istore_n 3, 1) := by decide +kernel
theorem dX6_priceAfter_49 : decode cX6_priceAfter 49 = .ok (.iinc 4 1, 3) := by decide +kernel
theorem dX6_priceAfter_52 : decode cX6_priceAfter 52 = .ok (.goto (-36), 3) := by decide +kernel
theorem dX6_priceAfter_55 : decode cX6_priceAfter 55 = .ok (.aload_n 0, 1) := by decide +kernel
theorem dX6_priceAfter_56 : decode cX6_priceAfter 56 = .ok (.getfield 19, 3) := by decide +kernel
theorem dX6_priceAfter_59 : decode cX6_priceAfter 59 = .ok (.getfield 127, 3) := by decide +kernel
theorem dX6_priceAfter_62 : decode cX6_priceAfter 62 = .ok (.iload_n 1, 1) := by decide +kernel
theorem dX6_priceAfter_63 : decode cX6_priceAfter 63 = .ok (.iaload, 1) := by decide +kernel
theorem dX6_priceAfter_64 : decode cX6_priceAfter 64 = .ok (.iconst 1, 1) := by decide +kernel
theorem dX6_priceAfter_65 : decode cX6_priceAfter 65 = .ok (.iload_n 3, 1) := by decide +kernel
theorem dX6_priceAfter_66 : decode cX6_priceAfter 66 = .ok (.iadd, 1) := by decide +kernel
theorem dX6_priceAfter_67 : decode cX6_priceAfter 67 = .ok (.imul, 1) := by decide +kernel
theorem dX6_priceAfter_68 : decode cX6_priceAfter 68 = .ok (.ireturn, 1) := by decide +kernel
set_option maxRecDepth 20000 in
theorem ggX6_leftOver_X2_store : GoodIn wsX6_leftOver wsX2_store := goodIn_r _ [7, 8, 58, 59] (by decide +kernel) (by decide +kernel)
set_option maxRecDepth 20000 in
theorem gX6_leftOver_X2_store : GoodIn wsX6_leftOver (wsV RX6 143 RX2 yX2_store wsX2_store) := goodIn_app (goodIn_of _ (by decide +kernel)) ggX6_leftOver_X2_store
set_option maxRecDepth 20000 in
theorem ggX6_leftOver_X6_scrapedFrom : GoodIn wsX6_leftOver wsX6_scrapedFrom := goodIn_r _ [13, 1, 2, 14, 15, 16, 6, 17, 8, 37, 38, 39, 40, 41, 42, 43, 44, 45, 46, 47, 48, 49, 50, 51, 52, 53, 54, 55, 56, 57, 58, 59] (by decide +kernel) (by decide +kernel)
set_option maxRecDepth 20000 in
theorem gX6_leftOver_X6_scrapedFrom : GoodIn wsX6_leftOver (wsV RX6 146 RX6 yX6_scrapedFrom wsX6_scrapedFrom) := goodIn_app (goodIn_of _ (by decide +kernel)) ggX6_leftOver_X6_scrapedFrom
set_option maxRecDepth 20000 in
theorem ggX6_leftOver_X6_paintFor : GoodIn wsX6_leftOver wsX6_paintFor := goodIn_r _ [21, 1, 2, 22, 23, 24, 25, 26, 27, 28, 12, 29, 30, 31, 32, 6, 33, 8, 34, 35, 36, 14, 15, 16, 17, 37, 38, 39, 40, 41, 42, 43, 44, 45, 46, 47, 48, 49, 50, 51, 52, 53, 54, 55, 56, 57, 58, 59] (by decide +kernel) (by decide +kernel)
set_option maxRecDepth 20000 in
theorem gX6_leftOver_X6_paintFor : GoodIn wsX6_leftOver (wsV RX6 194 RX6 yX6_paintFor wsX6_paintFor) := goodIn_app (goodIn_of _ (by decide +kernel)) ggX6_leftOver_X6_paintFor
theorem dX6_leftOver_0 : decode cX6_leftOver 0 = .ok (.aload_n 0, 1) := by decide +kernel
theorem dX6_leftOver_1 : decode cX6_leftOver 1 = .ok (.getfield 29, 3) := by decide +kernel
theorem dX6_leftOver_4 : decode cX6_leftOver 4 = .ok (.invokevirtual 143, 3) := by decide +kernel
theorem dX6_leftOver_7 : decode cX6_leftOver 7 = .ok (.istore_n 3, 1) := by decide +kernel
theorem dX6_leftOver_8 : decode cX6_leftOver 8 = .ok (.iconst 0, 1) := by decide +kernel
theorem dX6_leftOver_9 : decode cX6_leftOver 9 = .ok (.istore 4, 2) := by decide +kernel
theorem dX6_leftOver_11 : decode cX6_leftOver 11 = .ok (.iload 4, 2) := by decide +kernel
theorem dX6_leftOver_13 : decode cX6_leftOver 13 = .ok (.aload_n 0, 1) := by decide +kernel
theorem dX6_leftOver_14 : decode cX6_leftOver 14 = .ok (.getfield 19, 3) := by decide +kernel
theorem dX6_leftOver_17 : decode cX6_leftOver 17 = .ok (.getfield 159, 3) := by decide +kernel
theorem dX6_leftOver_20 : decode cX6_leftOver 20 = .ok (.if_icmp .ge 40, 3) := by decide +kernel
theorem dX6_leftOver_23 : decode cX6_leftOver 23 = .ok (.iload_n 1, 1) := by decide +kernel
theorem dX6_leftOver_24 : decode cX6_leftOver 24 = .ok (.iload 4, 2) := by decide +kernel
theorem dX6_leftOver_26 : decode cX6_leftOver 26 = .ok (.ishr, 1) := by decide +kernel
theorem dX6_leftOver_27 : decode cX6_leftOver 27 = .ok (.iconst 1, 1) := by decide +kernel
theorem dX6_leftOver_28 : decode cX6_leftOver 28 = .ok (.iand, 1) := by decide +kernel
theorem dX6_leftOver_29 : decode cX6_leftOver 29 = .ok (.ifCond .ne 15, 3) := by decide +kernel
theorem dX6_leftOver_32 : decode cX6_leftOver 32 = .ok (.iload_n 3, 1) := by decide +kernel
theorem dX6_leftOver_33 : decode cX6_leftOver 33 = .ok (.aload_n 0, 1) := by decide +kernel
theorem dX6_leftOver_34 : decode cX6_leftOver 34 = .ok (.iload 4, 2) := by decide +kernel
theorem dX6_leftOver_36 : decode cX6_leftOver 36 = .ok (.invokevirtual 146, 3) := by decide +kernel
theorem dX6_leftOver_39 : decode cX6_leftOver 39 = .ok (.iadd, 1) := by decide +kernel
theorem dX6_leftOver_40 : decode cX6_leftOver 40 = .ok (.istore_n 3, 1) := by decide +kernel
theorem dX6_leftOver_41 : decode cX6_leftOver 41 = .ok (.goto 13, 3) := by decide +kernel
theorem dX6_leftOver_44 : decode cX6_leftOver 44 = .ok (.iload_n 3, 1) := by decide +kernel
theorem dX6_leftOver_45 : decode cX6_leftOver 45 = .ok (.aload_n 0, 1) := by decide +kernel
theorem dX6_leftOver_46 : decode cX6_leftOver 46 = .ok (.iload 4, 2) := by decide +kernel
theorem dX6_leftOver_48 : decode cX6_leftOver 48 = .ok (.iload_n 2, 1) := by decide +kernel
theorem dX6_leftOver_49 : decode cX6_leftOver 49 = .ok (.invokevirtual 194, 3) := by decide +kernel
theorem dX6_leftOver_52 : decode cX6_leftOver 52 = .ok (.isub, 1) := by decide +kernel
theorem dX6_leftOver_53 : decode cX6_leftOver 53 = .ok (.istore_n 3, 1) := by decide +kernel
theorem dX6_leftOver_54 : decode cX6_leftOver 54 = .ok (.iinc 4 1, 3) := by decide +kernel
theorem dX6_leftOver_57 : decode cX6_leftOver 57 = .ok (.goto (-46), 3) := by decide +kernel
theorem dX6_leftOver_60 : decode cX6_leftOver 60 = .ok (.iload_n 3, 1) := by decide +kernel
theorem dX6_leftOver_61 : decode cX6_leftOver 61 = .ok (.ireturn, 1) := by decide +kernel
set_option maxRecDepth 20000 in
theorem ggX6_canBeKept_X6_paintFor : GoodIn wsX6_canBeKept wsX6_paintFor := goodIn_r _ [6, 7, 1, 8, 9, 10, 11, 12, 13, 14, 5, 15, 16, 17, 18, 19, 20, 21, 22, 23, 24, 25, 26, 27, 28, 41, 42, 43, 44, 45, 46, 47, 48, 49, 50, 51, 52, 53, 54, 55, 56, 57, 58, 59, 60, 61, 62, 63] (by decide +kernel) (by decide +kernel)
set_option maxRecDepth 20000 in
theorem gX6_canBeKept_X6_paintFor : GoodIn wsX6_canBeKept (wsV RX6 194 RX6 yX6_paintFor wsX6_paintFor) := goodIn_app (goodIn_of _ (by decide +kernel)) ggX6_canBeKept_X6_paintFor
set_option maxRecDepth 20000 in
theorem ggX6_canBeKept_X6_leftOver : GoodIn wsX6_canBeKept wsX6_leftOver := goodIn_r _ [32, 7, 1, 33, 34, 35, 19, 36, 21, 37, 38, 39, 5, 40, 25, 26, 27, 28, 2, 3, 4, 6, 8, 9, 10, 11, 12, 13, 14, 15, 16, 17, 18, 20, 22, 23, 24, 41, 42, 43, 44, 45, 46, 47, 48, 49, 50, 51, 52, 53, 54, 55, 56, 57, 58, 59, 60, 61, 62, 63] (by decide +kernel) (by decide +kernel)
set_option maxRecDepth 20000 in
theorem gX6_canBeKept_X6_leftOver : GoodIn wsX6_canBeKept (wsV RX6 200 RX6 yX6_leftOver wsX6_leftOver) := goodIn_app (goodIn_of _ (by decide +kernel)) ggX6_canBeKept_X6_leftOver
theorem dX6_canBeKept_0 : decode cX6_canBeKept 0 = .ok (.iconst 0, 1) := by decide +kernel
theorem dX6_canBeKept_1 : decode cX6_canBeKept 1 = .ok (.istore_n 3, 1) := by decide +kernel
theorem dX6_canBeKept_2 : decode cX6_canBeKept 2 = .ok (.iload_n 3, 1) := by decide +kernel
theorem dX6_canBeKept_3 : decode cX6_canBeKept 3 = .ok (.aload_n 0, 1) := by decide +kernel
theorem dX6_canBeKept_4 : decode cX6_canBeKept 4 = .ok (.getfield 19, 3) := by decide +kernel
theorem dX6_canBeKept_7 : decode cX6_canBeKept 7 = .ok (.getfield 159, 3) := by decide +kernel
theorem dX6_canBeKept_10 : decode cX6_canBeKept 10 = .ok (.if_icmp .ge 30, 3) := by decide +kernel
theorem dX6_canBeKept_13 : decode cX6_canBeKept 13 = .ok (.iload_n 1, 1) := by decide +kernel
theorem dX6_canBeKept_14 : decode cX6_canBeKept 14 = .ok (.iload_n 3, 1) := by decide +kernel
theorem dX6_canBeKept_15 : decode cX6_canBeKept 15 = .ok (.ishr, 1) := by decide +kernel
theorem dX6_canBeKept_16 : decode cX6_canBeKept 16 = .ok (.iconst 1, 1) := by decide +kernel
theorem dX6_canBeKept_17 : decode cX6_canBeKept 17 = .ok (.iand, 1) := by decide +kernel
theorem dX6_canBeKept_18 : decode cX6_canBeKept 18 = .ok (.ifCond .eq 16, 3) := by decide +kernel
theorem dX6_canBeKept_21 : decode cX6_canBeKept 21 = .ok (.aload_n 0, 1) := by decide +kernel
theorem dX6_canBeKept_22 : decode cX6_canBeKept 22 = .ok (.iload_n 3, 1) := by decide +kernel
theorem dX6_canBeKept_23 : decode cX6_canBeKept 23 = .ok (.iload_n 2, 1) := by decide +kernel
theorem dX6_canBeKept_24 : decode cX6_canBeKept 24 = .ok (.invokevirtual 194, 3) := by decide +kernel
theorem dX6_canBeKept_27 : decode cX6_canBeKept 27 = .ok (.bipush (-9), 2) := by decide +kernel
theorem dX6_canBeKept_29 : decode cX6_canBeKept 29 = .ok (.if_icmp .ne 5, 3) := by decide +kernel
theorem dX6_canBeKept_32 : decode cX6_canBeKept 32 = .ok (.iconst 0, 1) := by decide +kernel
theorem dX6_canBeKept_33 : decode cX6_canBeKept 33 = .ok (.ireturn, 1) := by decide +kernel
theorem dX6_canBeKept_34 : decode cX6_canBeKept 34 = .ok (.iinc 3 1, 3) := by decide +kernel
theorem dX6_canBeKept_37 : decode cX6_canBeKept 37 = .ok (.goto (-35), 3) := by decide +kernel
theorem dX6_canBeKept_40 : decode cX6_canBeKept 40 = .ok (.aload_n 0, 1) := by decide +kernel
theorem dX6_canBeKept_41 : decode cX6_canBeKept 41 = .ok (.iload_n 1, 1) := by decide +kernel
theorem dX6_canBeKept_42 : decode cX6_canBeKept 42 = .ok (.iload_n 2, 1) := by decide +kernel
theorem dX6_canBeKept_43 : decode cX6_canBeKept 43 = .ok (.invokevirtual 200, 3) := by decide +kernel
theorem dX6_canBeKept_46 : decode cX6_canBeKept 46 = .ok (.ifCond .lt 7, 3) := by decide +kernel
theorem dX6_canBeKept_49 : decode cX6_canBeKept 49 = .ok (.iconst 1, 1) := by decide +kernel
theorem dX6_canBeKept_50 : decode cX6_canBeKept 50 = .ok (.goto 4, 3) := by decide +kernel
theorem dX6_canBeKept_53 : decode cX6_canBeKept 53 = .ok (.iconst 0, 1) := by decide +kernel
theorem dX6_canBeKept_54 : decode cX6_canBeKept 54 = .ok (.ireturn, 1) := by decide +kernel
set_option maxRecDepth 20000 in
theorem ggX6_bestKept_X6_worthOf : GoodIn wsX6_bestKept wsX6_worthOf := goodIn_r _ [6, 1, 49, 50, 51, 52, 53, 54, 55, 56, 57, 58, 59, 60, 61, 62, 63, 64, 65, 66, 67, 68, 69] (by decide +kernel) (by decide +kernel)
set_option maxRecDepth 20000 in
theorem gX6_bestKept_X6_worthOf : GoodIn wsX6_bestKept (wsV RX6 182 RX6 yX6_worthOf wsX6_worthOf) := goodIn_app (goodIn_of _ (by decide +kernel)) ggX6_bestKept_X6_worthOf
set_option maxRecDepth 20000 in
theorem ggX6_bestKept_X6_canBeKept : GoodIn wsX6_bestKept wsX6_canBeKept := goodIn_r _ [10, 1, 11, 12, 13, 5, 14, 15, 16, 17, 18, 19, 20, 21, 22, 23, 24, 25, 26, 27, 28, 29, 30, 31, 32, 33, 34, 35, 36, 37, 38, 39, 40, 41, 42, 43, 44, 45, 46, 47, 48, 49, 50, 51, 52, 53, 54, 55, 56, 57, 58, 59, 60, 61, 62, 63, 64, 65, 66, 67, 68, 69, 70, 71] (by decide +kernel) (by decide +kernel)
set_option maxRecDepth 20000 in
theorem gX6_bestKept_X6_canBeKept : GoodIn wsX6_bestKept (wsV RX6 302 RX6 yX6_canBeKept wsX6_canBeKept) := goodIn_app (goodIn_of _ (by decide +kernel)) ggX6_bestKept_X6_canBeKept
theorem dX6_bestKept_0 : decode cX6_bestKept 0 = .ok (.iconst 0, 1) := by decide +kernel
theorem dX6_bestKept_1 : decode cX6_bestKept 1 = .ok (.istore_n 2, 1) := by decide +kernel
theorem dX6_bestKept_2 : decode cX6_bestKept 2 = .ok (.iconst 0, 1) := by decide +kernel
theorem dX6_bestKept_3 : decode cX6_bestKept 3 = .ok (.istore_n 3, 1) := by decide +kernel
theorem dX6_bestKept_4 : decode cX6_bestKept 4 = .ok (.iconst 1, 1) := by decide +kernel
theorem dX6_bestKept_5 : decode cX6_bestKept 5 = .ok (.aload_n 0, 1) := by decide +kernel
theorem dX6_bestKept_6 : decode cX6_bestKept 6 = .ok (.getfield 19, 3) := by decide +kernel
theorem dX6_bestKept_9 : decode cX6_bestKept 9 = .ok (.getfield 159, 3) := by decide +kernel
theorem dX6_bestKept_12 : decode cX6_bestKept 12 = .ok (.ishl, 1) := by decide +kernel
theorem dX6_bestKept_13 : decode cX6_bestKept 13 = .ok (.istore 4, 2) := by decide +kernel
theorem dX6_bestKept_15 : decode cX6_bestKept 15 = .ok (.iconst 1, 1) := by decide +kernel
theorem dX6_bestKept_16 : decode cX6_bestKept 16 = .ok (.istore 5, 2) := by decide +kernel
theorem dX6_bestKept_18 : decode cX6_bestKept 18 = .ok (.iload 5, 2) := by decide +kernel
theorem dX6_bestKept_20 : decode cX6_bestKept 20 = .ok (.iload 4, 2) := by decide +kernel
theorem dX6_bestKept_22 : decode cX6_bestKept 22 = .ok (.if_icmp .ge 39, 3) := by decide +kernel
theorem dX6_bestKept_25 : decode cX6_bestKept 25 = .ok (.aload_n 0, 1) := by decide +kernel
theorem dX6_bestKept_26 : decode cX6_bestKept 26 = .ok (.iload 5, 2) := by decide +kernel
theorem dX6_bestKept_28 : decode cX6_bestKept 28 = .ok (.invokevirtual 182, 3) := by decide +kernel
theorem dX6_bestKept_31 : decode cX6_bestKept 31 = .ok (.iload_n 3, 1) := by decide +kernel
theorem dX6_bestKept_32 : decode cX6_bestKept 32 = .ok (.if_icmp .le 23, 3) := by decide +kernel
theorem dX6_bestKept_35 : decode cX6_bestKept 35 = .ok (.aload_n 0, 1) := by decide +kernel
theorem dX6_bestKept_36 : decode cX6_bestKept 36 = .ok (.iload 5, 2) := by decide +kernel
theorem dX6_bestKept_38 : decode cX6_bestKept 38 = .ok (.iload_n 1, 1) := by decide +kernel
theorem dX6_bestKept_39 : decode cX6_bestKept 39 = .ok (.invokevirtual 302, 3) := by decide +kernel
theorem dX6_bestKept_42 : decode cX6_bestKept 42 = .ok (.ifCond .eq 13, 3) := by decide +kernel
theorem dX6_bestKept_45 : decode cX6_bestKept 45 = .ok (.iload 5, 2) := by decide +kernel
theorem dX6_bestKept_47 : decode cX6_bestKept 47 = .ok (.istore_n 2, 1) := by decide +kernel
theorem dX6_bestKept_48 : decode cX6_bestKept 48 = .ok (.aload_n 0, 1) := by decide +kernel
theorem dX6_bestKept_49 : decode cX6_bestKept 49 = .ok (.iload 5, 2) := by decide +kernel
theorem dX6_bestKept_51 : decode cX6_bestKept 51 = .ok (.invokevirtual 182, 3) := by decide +kernel
theorem dX6_bestKept_54 : decode cX6_bestKept 54 = .ok (.istore_n 3, 1) := by decide +kernel
theorem dX6_bestKept_55 : decode cX6_bestKept 55 = .ok (.iinc 5 1, 3) := by decide +kernel
theorem dX6_bestKept_58 : decode cX6_bestKept 58 = .ok (.goto (-40), 3) := by decide +kernel
theorem dX6_bestKept_61 : decode cX6_bestKept 61 = .ok (.iload_n 2, 1) := by decide +kernel
theorem dX6_bestKept_62 : decode cX6_bestKept 62 = .ok (.ireturn, 1) := by decide +kernel
set_option maxRecDepth 20000 in
theorem ggX6_markThing_X2_yellow : GoodIn wsX6_markThing wsX2_yellow := goodIn_r _ [7, 8, 19, 20] (by decide +kernel) (by decide +kernel)
set_option maxRecDepth 20000 in
theorem gX6_markThing_X2_yellow : GoodIn wsX6_markThing (wsV RX6 117 RX2 yX2_yellow wsX2_yellow) := goodIn_app (goodIn_of _ (by decide +kernel)) ggX6_markThing_X2_yellow
theorem dX6_markThing_0 : decode cX6_markThing 0 = .ok (.aload_n 0, 1) := by decide +kernel
theorem dX6_markThing_1 : decode cX6_markThing 1 = .ok (.dup, 1) := by decide +kernel
theorem dX6_markThing_2 : decode cX6_markThing 2 = .ok (.getfield 57, 3) := by decide +kernel
theorem dX6_markThing_5 : decode cX6_markThing 5 = .ok (.lconst 1, 1) := by decide +kernel
theorem dX6_markThing_6 : decode cX6_markThing 6 = .ok (.ladd, 1) := by decide +kernel
theorem dX6_markThing_7 : decode cX6_markThing 7 = .ok (.putfield 57, 3) := by decide +kernel
theorem dX6_markThing_10 : decode cX6_markThing 10 = .ok (.aload_n 0, 1) := by decide +kernel
theorem dX6_markThing_11 : decode cX6_markThing 11 = .ok (.getfield 29, 3) := by decide +kernel
theorem dX6_markThing_14 : decode cX6_markThing 14 = .ok (.iload_n 1, 1) := by decide +kernel
theorem dX6_markThing_15 : decode cX6_markThing 15 = .ok (.invokevirtual 117, 3) := by decide +kernel
theorem dX6_markThing_18 : decode cX6_markThing 18 = .ok (.ireturn, 1) := by decide +kernel
set_option maxRecDepth 20000 in
theorem ggX6_markPainting_X6_markThing : GoodIn wsX6_markPainting wsX6_markThing := goodIn_r _ [8, 1, 9, 10, 11, 12, 13, 14, 15, 16, 17, 18, 19, 20, 21, 22, 23, 24, 25, 37, 38] (by decide +kernel) (by decide +kernel)
set_option maxRecDepth 20000 in
theorem gX6_markPainting_X6_markThing : GoodIn wsX6_markPainting (wsV RX6 255 RX6 yX6_markThing wsX6_markThing) := goodIn_app (goodIn_of _ (by decide +kernel)) ggX6_markPainting_X6_markThing
theorem dX6_markPainting_0 : decode cX6_markPainting 0 = .ok (.aload_n 0, 1) := by decide +kernel
theorem dX6_markPainting_1 : decode cX6_markPainting 1 = .ok (.dup, 1) := by decide +kernel
theorem dX6_markPainting_2 : decode cX6_markPainting 2 = .ok (.getfield 57, 3) := by decide +kernel
theorem dX6_markPainting_5 : decode cX6_markPainting 5 = .ok (.ldc2_w 305, 3) := by decide +kernel
theorem dX6_markPainting_8 : decode cX6_markPainting 8 = .ok (.ladd, 1) := by decide +kernel
theorem dX6_markPainting_9 : decode cX6_markPainting 9 = .ok (.putfield 57, 3) := by decide +kernel
theorem dX6_markPainting_12 : decode cX6_markPainting 12 = .ok (.aload_n 0, 1) := by decide +kernel
theorem dX6_markPainting_13 : decode cX6_markPainting 13 = .ok (.iload_n 1, 1) := by decide +kernel
theorem dX6_markPainting_14 : decode cX6_markPainting 14 = .ok (.invokevirtual 255, 3) := by decide +kernel
theorem dX6_markPainting_17 : decode cX6_markPainting 17 = .ok (.aload_n 0, 1) := by decide +kernel
theorem dX6_markPainting_18 : decode cX6_markPainting 18 = .ok (.getfield 19, 3) := by decide +kernel
theorem dX6_markPainting_21 : decode cX6_markPainting 21 = .ok (.getfield 127, 3) := by decide +kernel
theorem dX6_markPainting_24 : decode cX6_markPainting 24 = .ok (.iload_n 1, 1) := by decide +kernel
theorem dX6_markPainting_25 : decode cX6_markPainting 25 = .ok (.iaload, 1) := by decide +kernel
theorem dX6_markPainting_26 : decode cX6_markPainting 26 = .ok (.iadd, 1) := by decide +kernel
theorem dX6_markPainting_27 : decode cX6_markPainting 27 = .ok (.ireturn, 1) := by decide +kernel
set_option maxRecDepth 20000 in
theorem ggX6_markLemon_X6_markThing : GoodIn wsX6_markLemon wsX6_markThing := goodIn_r _ [8, 1, 3, 9, 10, 11, 12, 13, 14, 19, 20, 21, 22, 23, 24, 25, 26, 27, 28, 29, 30] (by decide +kernel) (by decide +kernel)
set_option maxRecDepth 20000 in
theorem gX6_markLemon_X6_markThing : GoodIn wsX6_markLemon (wsV RX6 255 RX6 yX6_markThing wsX6_markThing) := goodIn_app (goodIn_of _ (by decide +kernel)) ggX6_markLemon_X6_markThing
set_option maxRecDepth 20000 in
theorem ggX6_markLemon_X2_white : GoodIn wsX6_markLemon wsX2_white := goodIn_r _ [18, 14, 29, 30] (by decide +kernel) (by decide +kernel)
set_option maxRecDepth 20000 in
theorem gX6_markLemon_X2_white : GoodIn wsX6_markLemon (wsV RX6 120 RX2 yX2_white wsX2_white) := goodIn_app (goodIn_of _ (by decide +kernel)) ggX6_markLemon_X2_white
theorem dX6_markLemon_0 : decode cX6_markLemon 0 = .ok (.aload_n 0, 1) := by decide +kernel
theorem dX6_markLemon_1 : decode cX6_markLemon 1 = .ok (.dup, 1) := by decide +kernel
theorem dX6_markLemon_2 : decode cX6_markLemon 2 = .ok (.getfield 57, 3) := by decide +kernel
theorem dX6_markLemon_5 : decode cX6_markLemon 5 = .ok (.ldc2_w 307, 3) := by decide +kernel
theorem dX6_markLemon_8 : decode cX6_markLemon 8 = .ok (.ladd, 1) := by decide +kernel
theorem dX6_markLemon_9 : decode cX6_markLemon 9 = .ok (.putfield 57, 3) := by decide +kernel
theorem dX6_markLemon_12 : decode cX6_markLemon 12 = .ok (.aload_n 0, 1) := by decide +kernel
theorem dX6_markLemon_13 : decode cX6_markLemon 13 = .ok (.iload_n 1, 1) := by decide +kernel
theorem dX6_markLemon_14 : decode cX6_markLemon 14 = .ok (.invokevirtual 255, 3) := by decide +kernel
theorem dX6_markLemon_17 : decode cX6_markLemon 17 = .ok (.aload_n 0, 1) := by decide +kernel
theorem dX6_markLemon_18 : decode cX6_markLemon 18 = .ok (.getfield 29, 3) := by decide +kernel
theorem dX6_markLemon_21 : decode cX6_markLemon 21 = .ok (.iload_n 1, 1) := by decide +kernel
theorem dX6_markLemon_22 : decode cX6_markLemon 22 = .ok (.invokevirtual 120, 3) := by decide +kernel
theorem dX6_markLemon_25 : decode cX6_markLemon 25 = .ok (.isub, 1) := by decide +kernel
theorem dX6_markLemon_26 : decode cX6_markLemon 26 = .ok (.ireturn, 1) := by decide +kernel
set_option maxRecDepth 20000 in
theorem ggX6_markSun_X6_markPainting : GoodIn wsX6_markSun wsX6_markPainting := goodIn_r _ [7, 1, 8, 9, 10, 11, 12, 6, 13, 14, 15, 16, 17, 18, 19, 20, 21, 22, 23, 24, 25, 26, 27, 28, 29, 30, 31, 32, 33, 34, 35, 36, 37, 38, 39, 40, 41, 42, 43] (by decide +kernel) (by decide +kernel)
set_option maxRecDepth 20000 in
theorem gX6_markSun_X6_markPainting : GoodIn wsX6_markSun (wsV RX6 258 RX6 yX6_markPainting wsX6_markPainting) := goodIn_app (goodIn_of _ (by decide +kernel)) ggX6_markSun_X6_markPainting
theorem dX6_markSun_0 : decode cX6_markSun 0 = .ok (.aload_n 0, 1) := by decide +kernel
theorem dX6_markSun_1 : decode cX6_markSun 1 = .ok (.dup, 1) := by decide +kernel
theorem dX6_markSun_2 : decode cX6_markSun 2 = .ok (.getfield 57, 3) := by decide +kernel
theorem dX6_markSun_5 : decode cX6_markSun 5 = .ok (.ldc2_w 309, 3) := by decide +kernel
theorem dX6_markSun_8 : decode cX6_markSun 8 = .ok (.ladd, 1) := by decide +kernel
theorem dX6_markSun_9 : decode cX6_markSun 9 = .ok (.putfield 57, 3) := by decide +kernel
theorem dX6_markSun_12 : decode cX6_markSun 12 = .ok (.aload_n 0, 1) := by decide +kernel
theorem dX6_markSun_13 : decode cX6_markSun 13 = .ok (.iload_n 1, 1) := by decide +kernel
theorem dX6_markSun_14 : decode cX6_markSun 14 = .ok (.invokevirtual 258, 3) := by decide +kernel
theorem dX6_markSun_17 : decode cX6_markSun 17 = .ok (.iconst 2, 1) := by decide +kernel
theorem dX6_markSun_18 : decode cX6_markSun 18 = .ok (.imul, 1) := by decide +kernel
theorem dX6_markSun_19 : decode cX6_markSun 19 = .ok (.ireturn, 1) := by decide +kernel
set_option maxRecDepth 20000 in
theorem ggX6_markButter_X6_markLemon : GoodIn wsX6_markButter wsX6_markLemon := goodIn_r _ [8, 1, 9, 10, 11, 12, 13, 7, 14, 15, 16, 17, 18, 19, 20, 21, 22, 23, 24, 25, 26, 27, 28, 29, 30, 31, 32, 33, 34, 46, 47] (by decide +kernel) (by decide +kernel)
set_option maxRecDepth 20000 in
theorem gX6_markButter_X6_markLemon : GoodIn wsX6_markButter (wsV RX6 261 RX6 yX6_markLemon wsX6_markLemon) := goodIn_app (goodIn_of _ (by decide +kernel)) ggX6_markButter_X6_markLemon
theorem dX6_markButter_0 : decode cX6_markButter 0 = .ok (.aload_n 0, 1) := by decide +kernel
theorem dX6_markButter_1 : decode cX6_markButter 1 = .ok (.dup, 1) := by decide +kernel
theorem dX6_markButter_2 : decode cX6_markButter 2 = .ok (.getfield 57, 3) := by decide +kernel
theorem dX6_markButter_5 : decode cX6_markButter 5 = .ok (.ldc2_w 311, 3) := by decide +kernel
theorem dX6_markButter_8 : decode cX6_markButter 8 = .ok (.ladd, 1) := by decide +kernel
theorem dX6_markButter_9 : decode cX6_markButter 9 = .ok (.putfield 57, 3) := by decide +kernel
theorem dX6_markButter_12 : decode cX6_markButter 12 = .ok (.aload_n 0, 1) := by decide +kernel
theorem dX6_markButter_13 : decode cX6_markButter 13 = .ok (.iload_n 1, 1) := by decide +kernel
theorem dX6_markButter_14 : decode cX6_markButter 14 = .ok (.invokevirtual 261, 3) := by decide +kernel
theorem dX6_markButter_17 : decode cX6_markButter 17 = .ok (.aload_n 0, 1) := by decide +kernel
theorem dX6_markButter_18 : decode cX6_markButter 18 = .ok (.getfield 19, 3) := by decide +kernel
theorem dX6_markButter_21 : decode cX6_markButter 21 = .ok (.getfield 216, 3) := by decide +kernel
theorem dX6_markButter_24 : decode cX6_markButter 24 = .ok (.iadd, 1) := by decide +kernel
theorem dX6_markButter_25 : decode cX6_markButter 25 = .ok (.ireturn, 1) := by decide +kernel
set_option maxRecDepth 20000 in
theorem ggX6_markBee_X6_markThing : GoodIn wsX6_markBee wsX6_markThing := goodIn_r _ [8, 1, 3, 9, 10, 11, 12, 13, 14, 19, 20, 21, 22, 23, 24, 25, 26, 27, 28, 29, 30] (by decide +kernel) (by decide +kernel)
set_option maxRecDepth 20000 in
theorem gX6_markBee_X6_markThing : GoodIn wsX6_markBee (wsV RX6 255 RX6 yX6_markThing wsX6_markThing) := goodIn_app (goodIn_of _ (by decide +kernel)) ggX6_markBee_X6_markThing
set_option maxRecDepth 20000 in
theorem ggX6_markBee_X2_year : GoodIn wsX6_markBee wsX2_year := goodIn_r _ [18, 14, 29, 30] (by decide +kernel) (by decide +kernel)
set_option maxRecDepth 20000 in
theorem gX6_markBee_X2_year : GoodIn wsX6_markBee (wsV RX6 156 RX2 yX2_year wsX2_year) := goodIn_app (goodIn_of _ (by decide +kernel)) ggX6_markBee_X2_year
theorem dX6_markBee_0 : decode cX6_markBee 0 = .ok (.aload_n 0, 1) := by decide +kernel
theorem dX6_markBee_1 : decode cX6_markBee 1 = .ok (.dup, 1) := by decide +kernel
theorem dX6_markBee_2 : decode cX6_markBee 2 = .ok (.getfield 57, 3) := by decide +kernel
theorem dX6_markBee_5 : decode cX6_markBee 5 = .ok (.ldc2_w 313, 3) := by decide +kernel
theorem dX6_markBee_8 : decode cX6_markBee 8 = .ok (.ladd, 1) := by decide +kernel
theorem dX6_markBee_9 : decode cX6_markBee 9 = .ok (.putfield 57, 3) := by decide +kernel
theorem dX6_markBee_12 : decode cX6_markBee 12 = .ok (.aload_n 0, 1) := by decide +kernel
theorem dX6_markBee_13 : decode cX6_markBee 13 = .ok (.iload_n 1, 1) := by decide +kernel
theorem dX6_markBee_14 : decode cX6_markBee 14 = .ok (.invokevirtual 255, 3) := by decide +kernel
theorem dX6_markBee_17 : decode cX6_markBee 17 = .ok (.aload_n 0, 1) := by decide +kernel
theorem dX6_markBee_18 : decode cX6_markBee 18 = .ok (.getfield 29, 3) := by decide +kernel
theorem dX6_markBee_21 : decode cX6_markBee 21 = .ok (.invokevirtual 156, 3) := by decide +kernel
theorem dX6_markBee_24 : decode cX6_markBee 24 = .ok (.iadd, 1) := by decide +kernel
theorem dX6_markBee_25 : decode cX6_markBee 25 = .ok (.ireturn, 1) := by decide +kernel
theorem dX6_imageOf_0 : decode cX6_imageOf 0 = .ok (.iload_n 1, 1) := by decide +kernel
theorem dX6_imageOf_1 : decode cX6_imageOf 1 = .ok (.ifCond .ne 10, 3) := by decide +kernel
theorem dX6_imageOf_4 : decode cX6_imageOf 4 = .ok (.aload_n 0, 1) := by decide +kernel
theorem dX6_imageOf_5 : decode cX6_imageOf 5 = .ok (.getfield 33, 3) := by decide +kernel
theorem dX6_imageOf_8 : decode cX6_imageOf 8 = .ok (.goto 7, 3) := by decide +kernel
theorem dX6_imageOf_11 : decode cX6_imageOf 11 = .ok (.aload_n 0, 1) := by decide +kernel
theorem dX6_imageOf_12 : decode cX6_imageOf 12 = .ok (.getfield 36, 3) := by decide +kernel
theorem dX6_imageOf_15 : decode cX6_imageOf 15 = .ok (.areturn, 1) := by decide +kernel
theorem dX7_in_0 : decode cX7_in 0 = .ok (.lload_n 0, 1) := by decide +kernel
theorem dX7_in_1 : decode cX7_in 1 = .ok (.lload_n 2, 1) := by decide +kernel
theorem dX7_in_2 : decode cX7_in 2 = .ok (.lcmp, 1) := by decide +kernel
theorem dX7_in_3 : decode cX7_in 3 = .ok (.ifCond .lt 14, 3) := by decide +kernel
theorem dX7_in_6 : decode cX7_in 6 = .ok (.lload_n 0, 1) := by decide +kernel
theorem dX7_in_7 : decode cX7_in 7 = .ok (.lload 4, 2) := by decide +kernel
theorem dX7_in_9 : decode cX7_in 9 = .ok (.lcmp, 1) := by decide +kernel
theorem dX7_in_10 : decode cX7_in 10 = .ok (.ifCond .gt 7, 3) := by decide +kernel
theorem dX7_in_13 : decode cX7_in 13 = .ok (.iconst 1, 1) := by decide +kernel
theorem dX7_in_14 : decode cX7_in 14 = .ok (.goto 4, 3) := by decide +kernel
theorem dX7_in_17 : decode cX7_in 17 = .ok (.iconst 0, 1) := by decide +kernel
theorem dX7_in_18 : decode cX7_in 18 = .ok (.ireturn, 1) := by decide +kernel
set_option maxRecDepth 20000 in
theorem ggX7_init_X7_plain : GoodIn wsX7_init wsX7_plain := goodIn_r _ [19, 6, 26, 27, 28, 29, 30, 31, 32, 33, 34, 35, 36, 37, 38, 39, 40, 41, 42, 43, 44] (by decide +kernel) (by decide +kernel)
set_option maxRecDepth 20000 in
theorem gX7_init_X7_plain : GoodIn wsX7_init (wsV RX7 40 RX7 yX7_plain wsX7_plain) := goodIn_app (goodIn_of _ (by decide +kernel)) ggX7_init_X7_plain
set_option maxRecDepth 20000 in
theorem ggX7_init_X7_takes : GoodIn wsX7_init wsX7_takes := goodIn_r _ [23, 7, 6, 8, 24, 25, 14, 26, 27, 28, 29, 30, 31, 32, 33, 34, 35, 36, 37, 38, 39, 40, 41, 42, 43, 44] (by decide +kernel) (by decide +kernel)
set_option maxRecDepth 20000 in
theorem gX7_init_X7_takes : GoodIn wsX7_init (wsV RX7 43 RX7 yX7_takes wsX7_takes) := goodIn_app (goodIn_of _ (by decide +kernel)) ggX7_init_X7_takes
theorem dX7_init_0 : decode cX7_init 0 = .ok (.aload_n 0, 1) := by decide +kernel
theorem dX7_init_1 : decode cX7_init 1 = .ok (.invokespecial 1, 3) := by decide +kernel
theorem dX7_init_4 : decode cX7_init 4 = .ok (.aload_n 0, 1) := by decide +kernel
theorem dX7_init_5 : decode cX7_init 5 = .ok (.sipush 150, 3) := by decide +kernel
theorem dX7_init_8 : decode cX7_init 8 = .ok (.newarray .int, 2) := by decide +kernel
theorem dX7_init_10 : decode cX7_init 10 = .ok (.putfield 7, 3) := by decide +kernel
theorem dX7_init_13 : decode cX7_init 13 = .ok (.aload_n 0, 1) := by decide +kernel
theorem dX7_init_14 : decode cX7_init 14 = .ok (.bipush 46, 2) := by decide +kernel
theorem dX7_init_16 : decode cX7_init 16 = .ok (.newarray .int, 2) := by decide +kernel
theorem dX7_init_18 : decode cX7_init 18 = .ok (.putfield 13, 3) := by decide +kernel
theorem dX7_init_21 : decode cX7_init 21 = .ok (.aload_n 0, 1) := by decide +kernel
theorem dX7_init_22 : decode cX7_init 22 = .ok (.bipush 46, 2) := by decide +kernel
theorem dX7_init_24 : decode cX7_init 24 = .ok (.newarray .int, 2) := by decide +kernel
theorem dX7_init_26 : decode cX7_init 26 = .ok (.putfield 16, 3) := by decide +kernel
theorem dX7_init_29 : decode cX7_init 29 = .ok (.aload_n 0, 1) := by decide +kernel
theorem dX7_init_30 : decode cX7_init 30 = .ok (.bipush 15, 2) := by decide +kernel
theorem dX7_init_32 : decode cX7_init 32 = .ok (.newarray .int, 2) := by decide +kernel
theorem dX7_init_34 : decode cX7_init 34 = .ok (.putfield 19, 3) := by decide +kernel
theorem dX7_init_37 : decode cX7_init 37 = .ok (.aload_n 0, 1) := by decide +kernel
theorem dX7_init_38 : decode cX7_init 38 = .ok (.sipush 150, 3) := by decide +kernel
theorem dX7_init_41 : decode cX7_init 41 = .ok (.newarray .int, 2) := by decide +kernel
theorem dX7_init_43 : decode cX7_init 43 = .ok (.putfield 22, 3) := by decide +kernel
theorem dX7_init_46 : decode cX7_init 46 = .ok (.aload_n 0, 1) := by decide +kernel
theorem dX7_init_47 : decode cX7_init 47 = .ok (.bipush 6, 2) := by decide +kernel
theorem dX7_init_49 : decode cX7_init 49 = .ok (.newarray .int, 2) := by decide +kernel
theorem dX7_init_51 : decode cX7_init 51 = .ok (.putfield 25, 3) := by decide +kernel
theorem dX7_init_54 : decode cX7_init 54 = .ok (.aload_n 0, 1) := by decide +kernel
theorem dX7_init_55 : decode cX7_init 55 = .ok (.iconst 5, 1) := by decide +kernel
theorem dX7_init_56 : decode cX7_init 56 = .ok (.newarray .int, 2) := by decide +kernel
theorem dX7_init_58 : decode cX7_init 58 = .ok (.putfield 28, 3) := by decide +kernel
theorem dX7_init_61 : decode cX7_init 61 = .ok (.aload_n 0, 1) := by decide +kernel
theorem dX7_init_62 : decode cX7_init 62 = .ok (.iconst 5, 1) := by decide +kernel
theorem dX7_init_63 : decode cX7_init 63 = .ok (.newarray .int, 2) := by decide +kernel
theorem dX7_init_65 : decode cX7_init 65 = .ok (.putfield 31, 3) := by decide +kernel
theorem dX7_init_68 : decode cX7_init 68 = .ok (.aload_n 0, 1) := by decide +kernel
theorem dX7_init_69 : decode cX7_init 69 = .ok (.iconst 5, 1) := by decide +kernel
theorem dX7_init_70 : decode cX7_init 70 = .ok (.newarray .int, 2) := by decide +kernel
theorem dX7_init_72 : decode cX7_init 72 = .ok (.putfield 34, 3) := by decide +kernel
theorem dX7_init_75 : decode cX7_init 75 = .ok (.aload_n 0, 1) := by decide +kernel
theorem dX7_init_76 : decode cX7_init 76 = .ok (.sipush 334, 3) := by decide +kernel
theorem dX7_init_79 : decode cX7_init 79 = .ok (.newarray .int, 2) := by decide +kernel
theorem dX7_init_81 : decode cX7_init 81 = .ok (.putfield 37, 3) := by decide +kernel
theorem dX7_init_84 : decode cX7_init 84 = .ok (.aload_n 0, 1) := by decide +kernel
theorem dX7_init_85 : decode cX7_init 85 = .ok (.invokevirtual 40, 3) := by decide +kernel
theorem dX7_init_88 : decode cX7_init 88 = .ok (.aload_n 0, 1) := by decide +kernel
theorem dX7_init_89 : decode cX7_init 89 = .ok (.invokevirtual 43, 3) := by decide +kernel
theorem dX7_init_92 : decode cX7_init 92 = .ok (.return_, 1) := by decide +kernel
set_option maxRecDepth 20000 in
theorem ggX7_type_X7_in : GoodIn wsX7_type wsX7_in := goodIn_r _ [7] (by decide +kernel) (by decide +kernel)
set_option maxRecDepth 20000 in
theorem gX7_type_X7_in : GoodIn wsX7_type (va_wsS RX7 48 yX7_in wsX7_in) := goodIn_app (goodIn_of _ (by decide +kernel)) ggX7_type_X7_in
theorem dX7_type_0 : decode cX7_type 0 = .ok (.iload_n 1, 1) := by decide +kernel
theorem dX7_type_1 : decode cX7_type 1 = .ok (.i2l, 1) := by decide +kernel
theorem dX7_type_2 : decode cX7_type 2 = .ok (.lconst 0, 1) := by decide +kernel
theorem dX7_type_3 : decode cX7_type 3 = .ok (.ldc2_w 46, 3) := by decide +kernel
theorem dX7_type_6 : decode cX7_type 6 = .ok (.invokestatic 48, 3) := by decide +kernel
theorem dX7_type_9 : decode cX7_type 9 = .ok (.ifCond .ne 5, 3) := by decide +kernel
theorem dX7_type_12 : decode cX7_type 12 = .ok (.iconst (-1), 1) := by decide +kernel
theorem dX7_type_13 : decode cX7_type 13 = .ok (.ireturn, 1) := by decide +kernel
theorem dX7_type_14 : decode cX7_type 14 = .ok (.aload_n 0, 1) := by decide +kernel
theorem dX7_type_15 : decode cX7_type 15 = .ok (.getfield 52, 3) := by decide +kernel
theorem dX7_type_18 : decode cX7_type 18 = .ok (.sipush 150, 3) := by decide +kernel
theorem dX7_type_21 : decode cX7_type 21 = .ok (.if_icmp .ne 6, 3) := by decide +kernel
theorem dX7_type_24 : decode cX7_type 24 = .ok (.bipush (-3), 2) := by decide +kernel
theorem dX7_type_26 : decode cX7_type 26 = .ok (.ireturn, 1) := by decide +kernel
theorem dX7_type_27 : decode cX7_type 27 = .ok (.aload_n 0, 1) := by decide +kernel
theorem dX7_type_28 : decode cX7_type 28 = .ok (.getfield 7, 3) := by decide +kernel
theorem dX7_type_31 : decode cX7_type 31 = .ok (.aload_n 0, 1) := by decide +kernel
theorem dX7_type_32 : decode cX7_type 32 = .ok (.getfield 52, 3) := by decide +kernel
theorem dX7_type_35 : decode cX7_type 35 = .ok (.iload_n 1, 1) := by decide +kernel
theorem dX7_type_36 : decode cX7_type 36 = .ok (.iastore, 1) := by decide +kernel
theorem dX7_type_37 : decode cX7_type 37 = .ok (.aload_n 0, 1) := by decide +kernel
theorem dX7_type_38 : decode cX7_type 38 = .ok (.dup, 1) := by decide +kernel
theorem dX7_type_39 : decode cX7_type 39 = .ok (.getfield 52, 3) := by decide +kernel
theorem dX7_type_42 : decode cX7_type 42 = .ok (.iconst 1, 1) := by decide +kernel
theorem dX7_type_43 : decode cX7_type 43 = .ok (.iadd, 1) := by decide +kernel
theorem dX7_type_44 : decode cX7_type 44 = .ok (.putfield 52, 3) := by decide +kernel
theorem dX7_type_47 : decode cX7_type 47 = .ok (.aload_n 0, 1) := by decide +kernel
theorem dX7_type_48 : decode cX7_type 48 = .ok (.getfield 52, 3) := by decide +kernel
theorem dX7_type_51 : decode cX7_type 51 = .ok (.ireturn, 1) := by decide +kernel
theorem dX7_clear_0 : decode cX7_clear 0 = .ok (.aload_n 0, 1) := by decide +kernel
theorem dX7_clear_1 : decode cX7_clear 1 = .ok (.getfield 52, 3) := by decide +kernel
theorem dX7_clear_4 : decode cX7_clear 4 = .ok (.istore_n 1, 1) := by decide +kernel
theorem dX7_clear_5 : decode cX7_clear 5 = .ok (.aload_n 0, 1) := by decide +kernel
theorem dX7_clear_6 : decode cX7_clear 6 = .ok (.iconst 0, 1) := by decide +kernel
theorem dX7_clear_7 : decode cX7_clear 7 = .ok (.putfield 52, 3) := by decide +kernel
theorem dX7_clear_10 : decode cX7_clear 10 = .ok (.iload_n 1, 1) := by decide +kernel
theorem dX7_clear_11 : decode cX7_clear 11 = .ok (.ireturn, 1) := by decide +kernel
set_option maxRecDepth 20000 in
theorem ggX7_isLetter_X7_in : GoodIn wsX7_isLetter wsX7_in := goodIn_r _ [6] (by decide +kernel) (by decide +kernel)
set_option maxRecDepth 20000 in
theorem gX7_isLetter_X7_in : GoodIn wsX7_isLetter (va_wsS RX7 48 yX7_in wsX7_in) := goodIn_app (goodIn_of _ (by decide +kernel)) ggX7_isLetter_X7_in
theorem dX7_isLetter_0 : decode cX7_isLetter 0 = .ok (.iload_n 0, 1) := by decide +kernel
theorem dX7_isLetter_1 : decode cX7_isLetter 1 = .ok (.i2l, 1) := by decide +kernel
theorem dX7_isLetter_2 : decode cX7_isLetter 2 = .ok (.ldc2_w 56, 3) := by decide +kernel
theorem dX7_isLetter_5 : decode cX7_isLetter 5 = .ok (.ldc2_w 58, 3) := by decide +kernel
theorem dX7_isLetter_8 : decode cX7_isLetter 8 = .ok (.invokestatic 48, 3) := by decide +kernel
theorem dX7_isLetter_11 : decode cX7_isLetter 11 = .ok (.ireturn, 1) := by decide +kernel
set_option maxRecDepth 20000 in
theorem ggX7_isFigure_X7_in : GoodIn wsX7_isFigure wsX7_in := goodIn_r _ [6] (by decide +kernel) (by decide +kernel)
set_option maxRecDepth 20000 in
theorem gX7_isFigure_X7_in : GoodIn wsX7_isFigure (va_wsS RX7 48 yX7_in wsX7_in) := goodIn_app (goodIn_of _ (by decide +kernel)) ggX7_isFigure_X7_in
theorem dX7_isFigure_0 : decode cX7_isFigure 0 = .ok (.iload_n 0, 1) := by decide +kernel
theorem dX7_isFigure_1 : decode cX7_isFigure 1 = .ok (.i2l, 1) := by decide +kernel
theorem dX7_isFigure_2 : decode cX7_isFigure 2 = .ok (.ldc2_w 60, 3) := by decide +kernel
theorem dX7_isFigure_5 : decode cX7_isFigure 5 = .ok (.ldc2_w 62, 3) := by decide +kernel
theorem dX7_isFigure_8 : decode cX7_isFigure 8 = .ok (.invokestatic 48, 3) := by decide +kernel
theorem dX7_isFigure_11 : decode cX7_isFigure 11 = .ok (.ireturn, 1) := by decide +kernel
set_option maxRecDepth 20000 in
theorem ggX7_readLetters_X7_isLetter : GoodIn wsX7_readLetters wsX7_isLetter := goodIn_r _ [10, 11, 12, 13, 14, 9, 15] (by decide +kernel) (by decide +kernel)
set_option maxRecDepth 20000 in
theorem gX7_readLetters_X7_isLetter : GoodIn wsX7_readLetters (va_wsS RX7 70 yX7_isLetter wsX7_isLetter) := goodIn_app (goodIn_of _ (by decide +kernel)) ggX7_readLetters_X7_isLetter
theorem dX7_readLetters_0 : decode cX7_readLetters 0 = .ok (.aload_n 0, 1) := by decide +kernel
theorem dX7_readLetters_1 : decode cX7_readLetters 1 = .ok (.aload_n 0, 1) := by decide +kernel
theorem dX7_readLetters_2 : decode cX7_readLetters 2 = .ok (.getfield 7, 3) := by decide +kernel
theorem dX7_readLetters_5 : decode cX7_readLetters 5 = .ok (.aload_n 0, 1) := by decide +kernel
theorem dX7_readLetters_6 : decode cX7_readLetters 6 = .ok (.getfield 64, 3) := by decide +kernel
theorem dX7_readLetters_9 : decode cX7_readLetters 9 = .ok (.iaload, 1) := by decide +kernel
theorem dX7_readLetters_10 : decode cX7_readLetters 10 = .ok (.putfield 67, 3) := by decide +kernel
theorem dX7_readLetters_13 : decode cX7_readLetters 13 = .ok (.aload_n 0, 1) := by decide +kernel
theorem dX7_readLetters_14 : decode cX7_readLetters 14 = .ok (.getfield 64, 3) := by decide +kernel
theorem dX7_readLetters_17 : decode cX7_readLetters 17 = .ok (.aload_n 0, 1) := by decide +kernel
theorem dX7_readLetters_18 : decode cX7_readLetters 18 = .ok (.getfield 52, 3) := by decide +kernel
theorem dX7_readLetters_21 : decode cX7_readLetters 21 = .ok (.if_icmp .ge 31, 3) := by decide +kernel
theorem dX7_readLetters_24 : decode cX7_readLetters 24 = .ok (.aload_n 0, 1) := by decide +kernel
theorem dX7_readLetters_25 : decode cX7_readLetters 25 = .ok (.getfield 7, 3) := by decide +kernel
theorem dX7_readLetters_28 : decode cX7_readLetters 28 = .ok (.aload_n 0, 1) := by decide +kernel
theorem dX7_readLetters_29 : decode cX7_readLetters 29 = .ok (.getfield 64, 3) := by decide +kernel
theorem dX7_readLetters_32 : decode cX7_readLetters 32 = .ok (.iaload, 1) := by decide +kernel
theorem dX7_readLetters_33 : decode cX7_readLetters 33 = .ok (.invokestatic 70, 3) := by decide +kernel
theorem dX7_readLetters_36 : decode cX7_readLetters 36 = .ok (.ifCond .eq 16, 3) := by decide +kernel
theorem dX7_readLetters_39 : decode cX7_readLetters 39 = .ok (.aload_n 0, 1) := by decide +kernel
theorem dX7_readLetters_40 : decode cX7_readLetters 40 = .ok (.dup, 1) := by decide +kernel
theorem dX7_readLetters_41 : decode cX7_readLetters 41 = .ok (.getfield 64, 3) := by decide +kernel
theorem dX7_readLetters_44 : decode cX7_readLetters 44 = .ok (.iconst 1, 1) := by decide +kernel
theorem dX7_readLetters_45 : decode cX7_readLetters 45 = .ok (.iadd, 1) := by decide +kernel
theorem dX7_readLetters_46 : decode cX7_readLetters 46 = .ok (.putfield 64, 3) := by decide +kernel
theorem dX7_readLetters_49 : decode cX7_readLetters 49 = .ok (.goto (-36), 3) := by decide +kernel
theorem dX7_readLetters_52 : decode cX7_readLetters 52 = .ok (.aload_n 0, 1) := by decide +kernel
theorem dX7_readLetters_53 : decode cX7_readLetters 53 = .ok (.aload_n 0, 1) := by decide +kernel
theorem dX7_readLetters_54 : decode cX7_readLetters 54 = .ok (.getfield 64, 3) := by decide +kernel
theorem dX7_readLetters_57 : decode cX7_readLetters 57 = .ok (.aload_n 0, 1) := by decide +kernel
theorem dX7_readLetters_58 : decode cX7_readLetters 58 = .ok (.getfield 74, 3) := by decide +kernel
theorem dX7_readLetters_61 : decode cX7_readLetters 61 = .ok (.isub, 1) := by decide +kernel
theorem dX7_readLetters_62 : decode cX7_readLetters 62 = .ok (.iconst 1, 1) := by decide +kernel
theorem dX7_readLetters_63 : decode cX7_readLetters 63 = .ok (.if_icmp .ne 43, 3) := by decide +kernel
theorem dX7_readLetters_66 : decode cX7_readLetters 66 = .ok (.aload_n 0, 1) := by decide +kernel
theorem dX7_readLetters_67 : decode cX7_readLetters 67 = .ok (.getfield 67, 3) := by decide +kernel
theorem dX7_readLetters_70 : decode cX7_readLetters 70 = .ok (.bipush 115, 2) := by decide +kernel
theorem dX7_readLetters_72 : decode cX7_readLetters 72 = .ok (.if_icmp .eq 30, 3) := by decide +kernel
theorem dX7_readLetters_75 : decode cX7_readLetters 75 = .ok (.aload_n 0, 1) := by decide +kernel
theorem dX7_readLetters_76 : decode cX7_readLetters 76 = .ok (.getfield 67, 3) := by decide +kernel
theorem dX7_readLetters_79 : decode cX7_readLetters 79 = .ok (.bipush 116, 2) := by decide +kernel
theorem dX7_readLetters_81 : decode cX7_readLetters 81 = .ok (.if_icmp .eq 21, 3) := by decide +kernel
theorem dX7_readLetters_84 : decode cX7_readLetters 84 = .ok (.aload_n 0, 1) := by decide +kernel
theorem dX7_readLetters_85 : decode cX7_readLetters 85 = .ok (.getfield 67, 3) := by decide +kernel
theorem dX7_readLetters_88 : decode cX7_readLetters 88 = .ok (.bipush 98, 2) := by decide +kernel
theorem dX7_readLetters_90 : decode cX7_readLetters 90 = .ok (.if_icmp .eq 12, 3) := by decide +kernel
theorem dX7_readLetters_93 : decode cX7_readLetters 93 = .ok (.aload_n 0, 1) := by decide +kernel
theorem dX7_readLetters_94 : decode cX7_readLetters 94 = .ok (.getfield 67, 3) := by decide +kernel
theorem dX7_readLetters_97 : decode cX7_readLetters 97 = .ok (.bipush 108, 2) := by decide +kernel
theorem dX7_readLetters_99 : decode cX7_readLetters 99 = .ok (.if_icmp .ne 7, 3) := by decide +kernel
theorem dX7_readLetters_102 : decode cX7_readLetters 102 = .ok (.iconst 1, 1) := by decide +kernel
theorem dX7_readLetters_103 : decode cX7_readLetters 103 = .ok (.goto 4, 3) := by decide +kernel
theorem dX7_readLetters_106 : decode cX7_readLetters 106 = .ok (.iconst 4, 1) := by decide +kernel
theorem dX7_readLetters_107 : decode cX7_readLetters 107 = .ok (.putfield 77, 3) := by decide +kernel
theorem dX7_readLetters_110 : decode cX7_readLetters 110 = .ok (.return_, 1) := by decide +kernel
set_option maxRecDepth 20000 in
theorem ggX7_readNumber_X7_isFigure : GoodIn wsX7_readNumber wsX7_isFigure := goodIn_r _ [10, 11, 12, 13, 14, 9, 15] (by decide +kernel) (by decide +kernel)
set_option maxRecDepth 20000 in
theorem gX7_readNumber_X7_isFigure : GoodIn wsX7_readNumber (va_wsS RX7 80 yX7_isFigure wsX7_isFigure) := goodIn_app (goodIn_of _ (by decide +kernel)) ggX7_readNumber_X7_isFigure
theorem dX7_readNumber_0 : decode cX7_readNumber 0 = .ok (.iconst 0, 1) := by decide +kernel
theorem dX7_readNumber_1 : decode cX7_readNumber 1 = .ok (.istore_n 1, 1) := by decide +kernel
theorem dX7_readNumber_2 : decode cX7_readNumber 2 = .ok (.aload_n 0, 1) := by decide +kernel
theorem dX7_readNumber_3 : decode cX7_readNumber 3 = .ok (.getfield 64, 3) := by decide +kernel
theorem dX7_readNumber_6 : decode cX7_readNumber 6 = .ok (.aload_n 0, 1) := by decide +kernel
theorem dX7_readNumber_7 : decode cX7_readNumber 7 = .ok (.getfield 52, 3) := by decide +kernel
theorem dX7_readNumber_10 : decode cX7_readNumber 10 = .ok (.if_icmp .ge 59, 3) := by decide +kernel
theorem dX7_readNumber_13 : decode cX7_readNumber 13 = .ok (.aload_n 0, 1) := by decide +kernel
theorem dX7_readNumber_14 : decode cX7_readNumber 14 = .ok (.getfield 7, 3) := by decide +kernel
theorem dX7_readNumber_17 : decode cX7_readNumber 17 = .ok (.aload_n 0, 1) := by decide +kernel
theorem dX7_readNumber_18 : decode cX7_readNumber 18 = .ok (.getfield 64, 3) := by decide +kernel
theorem dX7_readNumber_21 : decode cX7_readNumber 21 = .ok (.iaload, 1) := by decide +kernel
theorem dX7_readNumber_22 : decode cX7_readNumber 22 = .ok (.invokestatic 80, 3) := by decide +kernel
theorem dX7_readNumber_25 : decode cX7_readNumber 25 = .ok (.ifCond .eq 44, 3) := by decide +kernel
theorem dX7_readNumber_28 : decode cX7_readNumber 28 = .ok (.iload_n 1, 1) := by decide +kernel
theorem dX7_readNumber_29 : decode cX7_readNumber 29 = .ok (.bipush 99, 2) := by decide +kernel
theorem dX7_readNumber_31 : decode cX7_readNumber 31 = .ok (.if_icmp .le 7, 3) := by decide +kernel
theorem dX7_readNumber_34 : decode cX7_readNumber 34 = .ok (.iload_n 1, 1) := by decide +kernel
theorem dX7_readNumber_35 : decode cX7_readNumber 35 = .ok (.goto 20, 3) := by decide +kernel
theorem dX7_readNumber_38 : decode cX7_readNumber 38 = .ok (.bipush 10, 2) := by decide +kernel
theorem dX7_readNumber_40 : decode cX7_readNumber 40 = .ok (.iload_n 1, 1) := by decide +kernel
theorem dX7_readNumber_41 : decode cX7_readNumber 41 = .ok (.imul, 1) := by decide +kernel
theorem dX7_readNumber_42 : decode cX7_readNumber 42 = .ok (.aload_n 0, 1) := by decide +kernel
theorem dX7_readNumber_43 : decode cX7_readNumber 43 = .ok (.getfield 7, 3) := by decide +kernel
theorem dX7_readNumber_46 : decode cX7_readNumber 46 = .ok (.aload_n 0, 1) := by decide +kernel
theorem dX7_readNumber_47 : decode cX7_readNumber 47 = .ok (.getfield 64, 3) := by decide +kernel
theorem dX7_readNumber_50 : decode cX7_readNumber 50 = .ok (.iaload, 1) := by decide +kernel
theorem dX7_readNumber_51 : decode cX7_readNumber 51 = .ok (.iadd, 1) := by decide +kernel
theorem dX7_readNumber_52 : decode cX7_readNumber 52 = .ok (.bipush 48, 2) := by decide +kernel
theorem dX7_readNumber_54 : decode cX7_readNumber 54 = .ok (.isub, 1) := by decide +kernel
theorem dX7_readNumber_55 : decode cX7_readNumber 55 = .ok (.istore_n 1, 1) := by decide +kernel
theorem dX7_readNumber_56 : decode cX7_readNumber 56 = .ok (.aload_n 0, 1) := by decide +kernel
theorem dX7_readNumber_57 : decode cX7_readNumber 57 = .ok (.dup, 1) := by decide +kernel
theorem dX7_readNumber_58 : decode cX7_readNumber 58 = .ok (.getfield 64, 3) := by decide +kernel
theorem dX7_readNumber_61 : decode cX7_readNumber 61 = .ok (.iconst 1, 1) := by decide +kernel
theorem dX7_readNumber_62 : decode cX7_readNumber 62 = .ok (.iadd, 1) := by decide +kernel
theorem dX7_readNumber_63 : decode cX7_readNumber 63 = .ok (.putfield 64, 3) := by decide +kernel
theorem dX7_readNumber_66 : decode cX7_readNumber 66 = .ok (.goto (-64), 3) := by decide +kernel
theorem dX7_readNumber_69 : decode cX7_readNumber 69 = .ok (.aload_n 0, 1) := by decide +kernel
theorem dX7_readNumber_70 : decode cX7_readNumber 70 = .ok (.iload_n 1, 1) := by decide +kernel
theorem dX7_readNumber_71 : decode cX7_readNumber 71 = .ok (.bipush 99, 2) := by decide +kernel
theorem dX7_readNumber_73 : decode cX7_readNumber 73 = .ok (.if_icmp .gt 30, 3) := by decide +kernel
theorem dX7_readNumber_76 : decode cX7_readNumber 76 = .ok (.aload_n 0, 1) := by decide +kernel
theorem dX7_readNumber_77 : decode cX7_readNumber 77 = .ok (.getfield 64, 3) := by decide +kernel
theorem dX7_readNumber_80 : decode cX7_readNumber 80 = .ok (.aload_n 0, 1) := by decide +kernel
theorem dX7_readNumber_81 : decode cX7_readNumber 81 = .ok (.getfield 74, 3) := by decide +kernel
theorem dX7_readNumber_84 : decode cX7_readNumber 84 = .ok (.isub, 1) := by decide +kernel
theorem dX7_readNumber_85 : decode cX7_readNumber 85 = .ok (.iconst 1, 1) := by decide +kernel
theorem dX7_readNumber_86 : decode cX7_readNumber 86 = .ok (.if_icmp .le 21, 3) := by decide +kernel
theorem dX7_readNumber_89 : decode cX7_readNumber 89 = .ok (.aload_n 0, 1) := by decide +kernel
theorem dX7_readNumber_90 : decode cX7_readNumber 90 = .ok (.getfield 7, 3) := by decide +kernel
theorem dX7_readNumber_93 : decode cX7_readNumber 93 = .ok (.aload_n 0, 1) := by decide +kernel
theorem dX7_readNumber_94 : decode cX7_readNumber 94 = .ok (.getfield 74, 3) := by decide +kernel
theorem dX7_readNumber_97 : decode cX7_readNumber 97 = .ok (.iaload, 1) := by decide +kernel
theorem dX7_readNumber_98 : decode cX7_readNumber 98 = .ok (.bipush 48, 2) := by decide +kernel
theorem dX7_readNumber_100 : decode cX7_readNumber 100 = .ok (.if_icmp .ne 7, 3) := by decide +kernel
theorem dX7_readNumber_103 : decode cX7_readNumber 103 = .ok (.iconst 4, 1) := by decide +kernel
theorem dX7_readNumber_104 : decode cX7_readNumber 104 = .ok (.goto 4, 3) := by decide +kernel
theorem dX7_readNumber_107 : decode cX7_readNumber 107 = .ok (.iconst 2, 1) := by decide +kernel
theorem dX7_readNumber_108 : decode cX7_readNumber 108 = .ok (.putfield 77, 3) := by decide +kernel
theorem dX7_readNumber_111 : decode cX7_readNumber 111 = .ok (.aload_n 0, 1) := by decide +kernel
theorem dX7_readNumber_112 : decode cX7_readNumber 112 = .ok (.iload_n 1, 1) := by decide +kernel
theorem dX7_readNumber_113 : decode cX7_readNumber 113 = .ok (.putfield 67, 3) := by decide +kernel
theorem dX7_readNumber_116 : decode cX7_readNumber 116 = .ok (.return_, 1) := by decide +kernel
theorem dX7_blanks_0 : decode cX7_blanks 0 = .ok (.aload_n 0, 1) := by decide +kernel
theorem dX7_blanks_1 : decode cX7_blanks 1 = .ok (.getfield 64, 3) := by decide +kernel
theorem dX7_blanks_4 : decode cX7_blanks 4 = .ok (.aload_n 0, 1) := by decide +kernel
theorem dX7_blanks_5 : decode cX7_blanks 5 = .ok (.getfield 52, 3) := by decide +kernel
theorem dX7_blanks_8 : decode cX7_blanks 8 = .ok (.if_icmp .ge 30, 3) := by decide +kernel
theorem dX7_blanks_11 : decode cX7_blanks 11 = .ok (.aload_n 0, 1) := by decide +kernel
theorem dX7_blanks_12 : decode cX7_blanks 12 = .ok (.getfield 7, 3) := by decide +kernel
theorem dX7_blanks_15 : decode cX7_blanks 15 = .ok (.aload_n 0, 1) := by decide +kernel
theorem dX7_blanks_16 : decode cX7_blanks 16 = .ok (.getfield 64, 3) := by decide +kernel
theorem dX7_blanks_19 : decode cX7_blanks 19 = .ok (.iaload, 1) := by decide +kernel
theorem dX7_blanks_20 : decode cX7_blanks 20 = .ok (.bipush 32, 2) := by decide +kernel
theorem dX7_blanks_22 : decode cX7_blanks 22 = .ok (.if_icmp .ne 16, 3) := by decide +kernel
theorem dX7_blanks_25 : decode cX7_blanks 25 = .ok (.aload_n 0, 1) := by decide +kernel
theorem dX7_blanks_26 : decode cX7_blanks 26 = .ok (.dup, 1) := by decide +kernel
theorem dX7_blanks_27 : decode cX7_blanks 27 = .ok (.getfield 64, 3) := by decide +kernel
theorem dX7_blanks_30 : decode cX7_blanks 30 = .ok (.iconst 1, 1) := by decide +kernel
theorem dX7_blanks_31 : decode cX7_blanks 31 = .ok (.iadd, 1) := by decide +kernel
theorem dX7_blanks_32 : decode cX7_blanks 32 = .ok (.putfield 64, 3) := by decide +kernel
theorem dX7_blanks_35 : decode cX7_blanks 35 = .ok (.goto (-35), 3) := by decide +kernel
theorem dX7_blanks_38 : decode cX7_blanks 38 = .ok (.aload_n 0, 1) := by decide +kernel
theorem dX7_blanks_39 : decode cX7_blanks 39 = .ok (.aload_n 0, 1) := by decide +kernel
theorem dX7_blanks_40 : decode cX7_blanks 40 = .ok (.getfield 64, 3) := by decide +kernel
theorem dX7_blanks_43 : decode cX7_blanks 43 = .ok (.putfield 74, 3) := by decide +kernel
theorem dX7_blanks_46 : decode cX7_blanks 46 = .ok (.return_, 1) := by decide +kernel
set_option maxRecDepth 20000 in
theorem ggX7_reads_X7_blanks : GoodIn wsX7_reads wsX7_blanks := goodIn_r _ [9, 1, 2, 4, 10, 33, 34, 35, 36, 37, 38, 39, 40, 41, 42, 43, 44, 45, 46, 47, 48, 49, 50, 51] (by decide +kernel) (by decide +kernel)
set_option maxRecDepth 20000 in
theorem gX7_reads_X7_blanks : GoodIn wsX7_reads (wsV RX7 83 RX7 yX7_blanks wsX7_blanks) := goodIn_app (goodIn_of _ (by decide +kernel)) ggX7_reads_X7_blanks
set_option maxRecDepth 20000 in
theorem ggX7_reads_X7_isLetter : GoodIn wsX7_reads wsX7_isLetter := goodIn_r _ [13, 14, 15, 16, 17, 8, 18] (by decide +kernel) (by decide +kernel)
set_option maxRecDepth 20000 in
theorem gX7_reads_X7_isLetter : GoodIn wsX7_reads (va_wsS RX7 70 yX7_isLetter wsX7_isLetter) := goodIn_app (goodIn_of _ (by decide +kernel)) ggX7_reads_X7_isLetter
set_option maxRecDepth 20000 in
theorem ggX7_reads_X7_readLetters : GoodIn wsX7_reads wsX7_readLetters := goodIn_r _ [22, 4, 1, 23, 2, 10, 3, 11, 12, 8, 13, 14, 15, 16, 17, 18, 33, 34, 35, 36, 37, 38, 39, 40, 41, 42, 43, 44, 45, 46, 47, 48, 49, 50, 51] (by decide +kernel) (by decide +kernel)
set_option maxRecDepth 20000 in
theorem gX7_reads_X7_readLetters : GoodIn wsX7_reads (wsV RX7 86 RX7 yX7_readLetters wsX7_readLetters) := goodIn_app (goodIn_of _ (by decide +kernel)) ggX7_reads_X7_readLetters
set_option maxRecDepth 20000 in
theorem ggX7_reads_X7_isFigure : GoodIn wsX7_reads wsX7_isFigure := goodIn_r _ [26, 27, 28, 16, 17, 8, 18] (by decide +kernel) (by decide +kernel)
set_option maxRecDepth 20000 in
theorem gX7_reads_X7_isFigure : GoodIn wsX7_reads (va_wsS RX7 80 yX7_isFigure wsX7_isFigure) := goodIn_app (goodIn_of _ (by decide +kernel)) ggX7_reads_X7_isFigure
set_option maxRecDepth 20000 in
theorem ggX7_reads_X7_readNumber : GoodIn wsX7_reads wsX7_readNumber := goodIn_r _ [32, 1, 2, 4, 10, 3, 23, 24, 25, 8, 26, 27, 28, 16, 17, 18, 33, 34, 35, 36, 37, 38, 39, 40, 41, 42, 43, 44, 45, 46, 47, 48, 49, 50, 51] (by decide +kernel) (by decide +kernel)
set_option maxRecDepth 20000 in
theorem gX7_reads_X7_readNumber : GoodIn wsX7_reads (wsV RX7 89 RX7 yX7_readNumber wsX7_readNumber) := goodIn_app (goodIn_of _ (by decide +kernel)) ggX7_reads_X7_readNumber
theorem dX7_reads_0 : decode cX7_reads 0 = .ok (.aload_n 0, 1) := by decide +kernel
theorem dX7_reads_1 : decode cX7_reads 1 = .ok (.invokevirtual 83, 3) := by decide +kernel
theorem dX7_reads_4 : decode cX7_reads 4 = .ok (.aload_n 0, 1) := by decide +kernel
theorem dX7_reads_5 : decode cX7_reads 5 = .ok (.getfield 64, 3) := by decide +kernel
theorem dX7_reads_8 : decode cX7_reads 8 = .ok (.aload_n 0, 1) := by decide +kernel
theorem dX7_reads_9 : decode cX7_reads 9 = .ok (.getfield 52, 3) := by decide +kernel
theorem dX7_reads_12 : decode cX7_reads 12 = .ok (.if_icmp .ne 11, 3) := by decide +kernel
theorem dX7_reads_15 : decode cX7_reads 15 = .ok (.aload_n 0, 1) := by decide +kernel
theorem dX7_reads_16 : decode cX7_reads 16 = .ok (.iconst 0, 1) := by decide +kernel
theorem dX7_reads_17 : decode cX7_reads 17 = .ok (.putfield 77, 3) := by decide +kernel
theorem dX7_reads_20 : decode cX7_reads 20 = .ok (.goto 92, 3) := by decide +kernel
theorem dX7_reads_23 : decode cX7_reads 23 = .ok (.aload_n 0, 1) := by decide +kernel
theorem dX7_reads_24 : decode cX7_reads 24 = .ok (.getfield 7, 3) := by decide +kernel
theorem dX7_reads_27 : decode cX7_reads 27 = .ok (.aload_n 0, 1) := by decide +kernel
theorem dX7_reads_28 : decode cX7_reads 28 = .ok (.getfield 64, 3) := by decide +kernel
theorem dX7_reads_31 : decode cX7_reads 31 = .ok (.iaload, 1) := by decide +kernel
theorem dX7_reads_32 : decode cX7_reads 32 = .ok (.invokestatic 70, 3) := by decide +kernel
theorem dX7_reads_35 : decode cX7_reads 35 = .ok (.ifCond .eq 10, 3) := by decide +kernel
theorem dX7_reads_38 : decode cX7_reads 38 = .ok (.aload_n 0, 1) := by decide +kernel
theorem dX7_reads_39 : decode cX7_reads 39 = .ok (.invokevirtual 86, 3) := by decide +kernel
theorem dX7_reads_42 : decode cX7_reads 42 = .ok (.goto 70, 3) := by decide +kernel
theorem dX7_reads_45 : decode cX7_reads 45 = .ok (.aload_n 0, 1) := by decide +kernel
theorem dX7_reads_46 : decode cX7_reads 46 = .ok (.getfield 7, 3) := by decide +kernel
theorem dX7_reads_49 : decode cX7_reads 49 = .ok (.aload_n 0, 1) := by decide +kernel
theorem dX7_reads_50 : decode cX7_reads 50 = .ok (.getfield 64, 3) := by decide +kernel
theorem dX7_reads_53 : decode cX7_reads 53 = .ok (.iaload, 1) := by decide +kernel
theorem dX7_reads_54 : decode cX7_reads 54 = .ok (.invokestatic 80, 3) := by decide +kernel
theorem dX7_reads_57 : decode cX7_reads 57 = .ok (.ifCond .eq 10, 3) := by decide +kernel
theorem dX7_reads_60 : decode cX7_reads 60 = .ok (.aload_n 0, 1) := by decide +kernel
theorem dX7_reads_61 : decode cX7_reads 61 = .ok (.invokevirtual 89, 3) := by decide +kernel
theorem dX7_reads_64 : decode cX7_reads 64 = .ok (.goto 48, 3) := by decide +kernel
theorem dX7_reads_67 : decode cX7_reads 67 = .ok (.aload_n 0, 1) := by decide +kernel
theorem dX7_reads_68 : decode cX7_reads 68 = .ok (.aload_n 0, 1) := by decide +kernel
theorem dX7_reads_69 : decode cX7_reads 69 = .ok (.getfield 7, 3) := by decide +kernel
theorem dX7_reads_72 : decode cX7_reads 72 = .ok (.aload_n 0, 1) := by decide +kernel
theorem dX7_reads_73 : decode cX7_reads 73 = .ok (.getfield 64, 3) := by decide +kernel
theorem dX7_reads_76 : decode cX7_reads 76 = .ok (.iaload, 1) := by decide +kernel
theorem dX7_reads_77 : decode cX7_reads 77 = .ok (.bipush 59, 2) := by decide +kernel
theorem dX7_reads_79 : decode cX7_reads 79 = .ok (.if_icmp .ne 7, 3) := by decide +kernel
theorem dX7_reads_82 : decode cX7_reads 82 = .ok (.iconst 3, 1) := by decide +kernel
theorem dX7_reads_83 : decode cX7_reads 83 = .ok (.goto 4, 3) := by decide +kernel
theorem dX7_reads_86 : decode cX7_reads 86 = .ok (.iconst 4, 1) := by decide +kernel
theorem dX7_reads_87 : decode cX7_reads 87 = .ok (.putfield 77, 3) := by decide +kernel
theorem dX7_reads_90 : decode cX7_reads 90 = .ok (.aload_n 0, 1) := by decide +kernel
theorem dX7_reads_91 : decode cX7_reads 91 = .ok (.dup, 1) := by decide +kernel
theorem dX7_reads_92 : decode cX7_reads 92 = .ok (.getfield 64, 3) := by decide +kernel
theorem dX7_reads_95 : decode cX7_reads 95 = .ok (.aload_n 0, 1) := by decide +kernel
theorem dX7_reads_96 : decode cX7_reads 96 = .ok (.getfield 77, 3) := by decide +kernel
theorem dX7_reads_99 : decode cX7_reads 99 = .ok (.iconst 3, 1) := by decide +kernel
theorem dX7_reads_100 : decode cX7_reads 100 = .ok (.if_icmp .ne 7, 3) := by decide +kernel
theorem dX7_reads_103 : decode cX7_reads 103 = .ok (.iconst 1, 1) := by decide +kernel
theorem dX7_reads_104 : decode cX7_reads 104 = .ok (.goto 4, 3) := by decide +kernel
theorem dX7_reads_107 : decode cX7_reads 107 = .ok (.iconst 0, 1) := by decide +kernel
theorem dX7_reads_108 : decode cX7_reads 108 = .ok (.iadd, 1) := by decide +kernel
theorem dX7_reads_109 : decode cX7_reads 109 = .ok (.putfield 64, 3) := by decide +kernel
theorem dX7_reads_112 : decode cX7_reads 112 = .ok (.return_, 1) := by decide +kernel
set_option maxRecDepth 20000 in
theorem ggX7_number_X7_reads : GoodIn wsX7_number wsX7_reads := goodIn_r _ [7, 8, 9, 1, 10, 11, 12, 13, 6, 14, 15, 16, 17, 18, 19, 20, 21, 22, 23, 24, 25, 26, 27, 2, 28, 29, 30, 31, 32, 33, 34, 35, 36, 37, 38, 39, 40, 41, 42, 43, 44, 45, 46, 47, 48, 49, 50, 51, 52, 53, 54, 55] (by decide +kernel) (by decide +kernel)
set_option maxRecDepth 20000 in
theorem gX7_number_X7_reads : GoodIn wsX7_number (wsV RX7 92 RX7 yX7_reads wsX7_reads) := goodIn_app (goodIn_of _ (by decide +kernel)) ggX7_number_X7_reads
set_option maxRecDepth 20000 in
theorem ggX7_number_X7_in : GoodIn wsX7_number wsX7_in := goodIn_r _ [23] (by decide +kernel) (by decide +kernel)
set_option maxRecDepth 20000 in
theorem gX7_number_X7_in : GoodIn wsX7_number (va_wsS RX7 48 yX7_in wsX7_in) := goodIn_app (goodIn_of _ (by decide +kernel)) ggX7_number_X7_in
theorem dX7_number_0 : decode cX7_number 0 = .ok (.aload_n 0, 1) := by decide +kernel
theorem dX7_number_1 : decode cX7_number 1 = .ok (.invokevirtual 92, 3) := by decide +kernel
theorem dX7_number_4 : decode cX7_number 4 = .ok (.aload_n 0, 1) := by decide +kernel
theorem dX7_number_5 : decode cX7_number 5 = .ok (.getfield 77, 3) := by decide +kernel
