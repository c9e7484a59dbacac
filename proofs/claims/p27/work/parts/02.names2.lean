theorem dX2_addEvent_0 : decode cX2_addEvent 0 = .ok (.aload_n 0, 1) := by decide +kernel
theorem dX2_addEvent_1 : decode cX2_addEvent 1 = .ok (.getfield 45, 3) := by decide +kernel
theorem dX2_addEvent_4 : decode cX2_addEvent 4 = .ok (.istore_n 2, 1) := by decide +kernel
theorem dX2_addEvent_5 : decode cX2_addEvent 5 = .ok (.aload_n 0, 1) := by decide +kernel
theorem dX2_addEvent_6 : decode cX2_addEvent 6 = .ok (.getfield 17, 3) := by decide +kernel
theorem dX2_addEvent_9 : decode cX2_addEvent 9 = .ok (.iload_n 1, 1) := by decide +kernel
theorem dX2_addEvent_10 : decode cX2_addEvent 10 = .ok (.aaload, 1) := by decide +kernel
theorem dX2_addEvent_11 : decode cX2_addEvent 11 = .ok (.aload_n 0, 1) := by decide +kernel
theorem dX2_addEvent_12 : decode cX2_addEvent 12 = .ok (.getfield 9, 3) := by decide +kernel
theorem dX2_addEvent_15 : decode cX2_addEvent 15 = .ok (.iload_n 1, 1) := by decide +kernel
theorem dX2_addEvent_16 : decode cX2_addEvent 16 = .ok (.iaload, 1) := by decide +kernel
theorem dX2_addEvent_17 : decode cX2_addEvent 17 = .ok (.invokevirtual 68, 3) := by decide +kernel
theorem dX2_addEvent_20 : decode cX2_addEvent 20 = .ok (.aload_n 0, 1) := by decide +kernel
theorem dX2_addEvent_21 : decode cX2_addEvent 21 = .ok (.getfield 17, 3) := by decide +kernel
theorem dX2_addEvent_24 : decode cX2_addEvent 24 = .ok (.iload_n 1, 1) := by decide +kernel
theorem dX2_addEvent_25 : decode cX2_addEvent 25 = .ok (.aaload, 1) := by decide +kernel
theorem dX2_addEvent_26 : decode cX2_addEvent 26 = .ok (.iload_n 2, 1) := by decide +kernel
theorem dX2_addEvent_27 : decode cX2_addEvent 27 = .ok (.invokevirtual 72, 3) := by decide +kernel
theorem dX2_addEvent_30 : decode cX2_addEvent 30 = .ok (.aload_n 0, 1) := by decide +kernel
theorem dX2_addEvent_31 : decode cX2_addEvent 31 = .ok (.getfield 27, 3) := by decide +kernel
theorem dX2_addEvent_34 : decode cX2_addEvent 34 = .ok (.iload_n 2, 1) := by decide +kernel
theorem dX2_addEvent_35 : decode cX2_addEvent 35 = .ok (.iload_n 1, 1) := by decide +kernel
theorem dX2_addEvent_36 : decode cX2_addEvent 36 = .ok (.iastore, 1) := by decide +kernel
theorem dX2_addEvent_37 : decode cX2_addEvent 37 = .ok (.aload_n 0, 1) := by decide +kernel
theorem dX2_addEvent_38 : decode cX2_addEvent 38 = .ok (.dup, 1) := by decide +kernel
theorem dX2_addEvent_39 : decode cX2_addEvent 39 = .ok (.getfield 45, 3) := by decide +kernel
theorem dX2_addEvent_42 : decode cX2_addEvent 42 = .ok (.iconst 1, 1) := by decide +kernel
theorem dX2_addEvent_43 : decode cX2_addEvent 43 = .ok (.iadd, 1) := by decide +kernel
theorem dX2_addEvent_44 : decode cX2_addEvent 44 = .ok (.putfield 45, 3) := by decide +kernel
theorem dX2_addEvent_47 : decode cX2_addEvent 47 = .ok (.iload_n 2, 1) := by decide +kernel
theorem dX2_addEvent_48 : decode cX2_addEvent 48 = .ok (.ireturn, 1) := by decide +kernel
set_option maxRecDepth 20000 in
theorem ggX2_addMessage_X1_become : GoodIn wsX2_addMessage wsX1_become := goodIn_r _ [9, 10, 11, 12, 13, 14, 15, 16, 24, 25, 26] (by decide +kernel) (by decide +kernel)
set_option maxRecDepth 20000 in
theorem gX2_addMessage_X1_become : GoodIn wsX2_addMessage (wsV RX2 37 RX1 yX1_become wsX1_become) := goodIn_app (goodIn_of _ (by decide +kernel)) ggX2_addMessage_X1_become
theorem dX2_addMessage_0 : decode cX2_addMessage 0 = .ok (.aload_n 0, 1) := by decide +kernel
theorem dX2_addMessage_1 : decode cX2_addMessage 1 = .ok (.getfield 41, 3) := by decide +kernel
theorem dX2_addMessage_4 : decode cX2_addMessage 4 = .ok (.istore_n 2, 1) := by decide +kernel
theorem dX2_addMessage_5 : decode cX2_addMessage 5 = .ok (.aload_n 0, 1) := by decide +kernel
theorem dX2_addMessage_6 : decode cX2_addMessage 6 = .ok (.getfield 21, 3) := by decide +kernel
theorem dX2_addMessage_9 : decode cX2_addMessage 9 = .ok (.iload_n 2, 1) := by decide +kernel
theorem dX2_addMessage_10 : decode cX2_addMessage 10 = .ok (.aaload, 1) := by decide +kernel
theorem dX2_addMessage_11 : decode cX2_addMessage 11 = .ok (.aload_n 0, 1) := by decide +kernel
theorem dX2_addMessage_12 : decode cX2_addMessage 12 = .ok (.getfield 17, 3) := by decide +kernel
theorem dX2_addMessage_15 : decode cX2_addMessage 15 = .ok (.iload_n 1, 1) := by decide +kernel
theorem dX2_addMessage_16 : decode cX2_addMessage 16 = .ok (.aaload, 1) := by decide +kernel
theorem dX2_addMessage_17 : decode cX2_addMessage 17 = .ok (.invokevirtual 37, 3) := by decide +kernel
theorem dX2_addMessage_20 : decode cX2_addMessage 20 = .ok (.aload_n 0, 1) := by decide +kernel
theorem dX2_addMessage_21 : decode cX2_addMessage 21 = .ok (.getfield 24, 3) := by decide +kernel
theorem dX2_addMessage_24 : decode cX2_addMessage 24 = .ok (.iload_n 2, 1) := by decide +kernel
theorem dX2_addMessage_25 : decode cX2_addMessage 25 = .ok (.iload_n 1, 1) := by decide +kernel
theorem dX2_addMessage_26 : decode cX2_addMessage 26 = .ok (.iastore, 1) := by decide +kernel
theorem dX2_addMessage_27 : decode cX2_addMessage 27 = .ok (.aload_n 0, 1) := by decide +kernel
theorem dX2_addMessage_28 : decode cX2_addMessage 28 = .ok (.dup, 1) := by decide +kernel
theorem dX2_addMessage_29 : decode cX2_addMessage 29 = .ok (.getfield 41, 3) := by decide +kernel
theorem dX2_addMessage_32 : decode cX2_addMessage 32 = .ok (.iconst 1, 1) := by decide +kernel
theorem dX2_addMessage_33 : decode cX2_addMessage 33 = .ok (.iadd, 1) := by decide +kernel
theorem dX2_addMessage_34 : decode cX2_addMessage 34 = .ok (.putfield 41, 3) := by decide +kernel
theorem dX2_addMessage_37 : decode cX2_addMessage 37 = .ok (.iload_n 2, 1) := by decide +kernel
theorem dX2_addMessage_38 : decode cX2_addMessage 38 = .ok (.ireturn, 1) := by decide +kernel
set_option maxRecDepth 20000 in
theorem ggX2_removeMessage_X1_become : GoodIn wsX2_removeMessage wsX1_become := goodIn_r _ [8, 9, 10, 11, 12, 13, 14, 15, 23, 24, 25] (by decide +kernel) (by decide +kernel)
set_option maxRecDepth 20000 in
theorem gX2_removeMessage_X1_become : GoodIn wsX2_removeMessage (wsV RX2 37 RX1 yX1_become wsX1_become) := goodIn_app (goodIn_of _ (by decide +kernel)) ggX2_removeMessage_X1_become
theorem dX2_removeMessage_0 : decode cX2_removeMessage 0 = .ok (.iload_n 1, 1) := by decide +kernel
theorem dX2_removeMessage_1 : decode cX2_removeMessage 1 = .ok (.iconst 1, 1) := by decide +kernel
theorem dX2_removeMessage_2 : decode cX2_removeMessage 2 = .ok (.iadd, 1) := by decide +kernel
theorem dX2_removeMessage_3 : decode cX2_removeMessage 3 = .ok (.istore_n 2, 1) := by decide +kernel
theorem dX2_removeMessage_4 : decode cX2_removeMessage 4 = .ok (.iload_n 2, 1) := by decide +kernel
theorem dX2_removeMessage_5 : decode cX2_removeMessage 5 = .ok (.aload_n 0, 1) := by decide +kernel
theorem dX2_removeMessage_6 : decode cX2_removeMessage 6 = .ok (.getfield 41, 3) := by decide +kernel
theorem dX2_removeMessage_9 : decode cX2_removeMessage 9 = .ok (.if_icmp .ge 40, 3) := by decide +kernel
theorem dX2_removeMessage_12 : decode cX2_removeMessage 12 = .ok (.aload_n 0, 1) := by decide +kernel
theorem dX2_removeMessage_13 : decode cX2_removeMessage 13 = .ok (.getfield 21, 3) := by decide +kernel
theorem dX2_removeMessage_16 : decode cX2_removeMessage 16 = .ok (.iload_n 2, 1) := by decide +kernel
theorem dX2_removeMessage_17 : decode cX2_removeMessage 17 = .ok (.iconst 1, 1) := by decide +kernel
theorem dX2_removeMessage_18 : decode cX2_removeMessage 18 = .ok (.isub, 1) := by decide +kernel
theorem dX2_removeMessage_19 : decode cX2_removeMessage 19 = .ok (.aaload, 1) := by decide +kernel
theorem dX2_removeMessage_20 : decode cX2_removeMessage 20 = .ok (.aload_n 0, 1) := by decide +kernel
theorem dX2_removeMessage_21 : decode cX2_removeMessage 21 = .ok (.getfield 21, 3) := by decide +kernel
theorem dX2_removeMessage_24 : decode cX2_removeMessage 24 = .ok (.iload_n 2, 1) := by decide +kernel
theorem dX2_removeMessage_25 : decode cX2_removeMessage 25 = .ok (.aaload, 1) := by decide +kernel
theorem dX2_removeMessage_26 : decode cX2_removeMessage 26 = .ok (.invokevirtual 37, 3) := by decide +kernel
theorem dX2_removeMessage_29 : decode cX2_removeMessage 29 = .ok (.aload_n 0, 1) := by decide +kernel
theorem dX2_removeMessage_30 : decode cX2_removeMessage 30 = .ok (.getfield 24, 3) := by decide +kernel
theorem dX2_removeMessage_33 : decode cX2_removeMessage 33 = .ok (.iload_n 2, 1) := by decide +kernel
theorem dX2_removeMessage_34 : decode cX2_removeMessage 34 = .ok (.iconst 1, 1) := by decide +kernel
theorem dX2_removeMessage_35 : decode cX2_removeMessage 35 = .ok (.isub, 1) := by decide +kernel
theorem dX2_removeMessage_36 : decode cX2_removeMessage 36 = .ok (.aload_n 0, 1) := by decide +kernel
theorem dX2_removeMessage_37 : decode cX2_removeMessage 37 = .ok (.getfield 24, 3) := by decide +kernel
theorem dX2_removeMessage_40 : decode cX2_removeMessage 40 = .ok (.iload_n 2, 1) := by decide +kernel
theorem dX2_removeMessage_41 : decode cX2_removeMessage 41 = .ok (.iaload, 1) := by decide +kernel
theorem dX2_removeMessage_42 : decode cX2_removeMessage 42 = .ok (.iastore, 1) := by decide +kernel
theorem dX2_removeMessage_43 : decode cX2_removeMessage 43 = .ok (.iinc 2 1, 3) := by decide +kernel
theorem dX2_removeMessage_46 : decode cX2_removeMessage 46 = .ok (.goto (-42), 3) := by decide +kernel
theorem dX2_removeMessage_49 : decode cX2_removeMessage 49 = .ok (.aload_n 0, 1) := by decide +kernel
theorem dX2_removeMessage_50 : decode cX2_removeMessage 50 = .ok (.dup, 1) := by decide +kernel
theorem dX2_removeMessage_51 : decode cX2_removeMessage 51 = .ok (.getfield 41, 3) := by decide +kernel
theorem dX2_removeMessage_54 : decode cX2_removeMessage 54 = .ok (.iconst 1, 1) := by decide +kernel
theorem dX2_removeMessage_55 : decode cX2_removeMessage 55 = .ok (.isub, 1) := by decide +kernel
theorem dX2_removeMessage_56 : decode cX2_removeMessage 56 = .ok (.putfield 41, 3) := by decide +kernel
theorem dX2_removeMessage_59 : decode cX2_removeMessage 59 = .ok (.return_, 1) := by decide +kernel
set_option maxRecDepth 20000 in
theorem ggX2_helperSet_X2_isHelper : GoodIn wsX2_helperSet wsX2_isHelper := goodIn_r _ [5, 6, 7, 8, 9, 10, 11, 12, 13] (by decide +kernel) (by decide +kernel)
set_option maxRecDepth 20000 in
theorem gX2_helperSet_X2_isHelper : GoodIn wsX2_helperSet (wsV RX2 48 RX2 yX2_isHelper wsX2_isHelper) := goodIn_app (goodIn_of _ (by decide +kernel)) ggX2_helperSet_X2_isHelper
theorem dX2_helperSet_0 : decode cX2_helperSet 0 = .ok (.iconst 0, 1) := by decide +kernel
theorem dX2_helperSet_1 : decode cX2_helperSet 1 = .ok (.istore_n 1, 1) := by decide +kernel
theorem dX2_helperSet_2 : decode cX2_helperSet 2 = .ok (.iconst 0, 1) := by decide +kernel
theorem dX2_helperSet_3 : decode cX2_helperSet 3 = .ok (.istore_n 2, 1) := by decide +kernel
theorem dX2_helperSet_4 : decode cX2_helperSet 4 = .ok (.iload_n 2, 1) := by decide +kernel
theorem dX2_helperSet_5 : decode cX2_helperSet 5 = .ok (.bipush 8, 2) := by decide +kernel
theorem dX2_helperSet_7 : decode cX2_helperSet 7 = .ok (.if_icmp .ge 23, 3) := by decide +kernel
theorem dX2_helperSet_10 : decode cX2_helperSet 10 = .ok (.aload_n 0, 1) := by decide +kernel
theorem dX2_helperSet_11 : decode cX2_helperSet 11 = .ok (.iload_n 2, 1) := by decide +kernel
theorem dX2_helperSet_12 : decode cX2_helperSet 12 = .ok (.invokevirtual 48, 3) := by decide +kernel
theorem dX2_helperSet_15 : decode cX2_helperSet 15 = .ok (.ifCond .eq 9, 3) := by decide +kernel
theorem dX2_helperSet_18 : decode cX2_helperSet 18 = .ok (.iload_n 1, 1) := by decide +kernel
theorem dX2_helperSet_19 : decode cX2_helperSet 19 = .ok (.iconst 1, 1) := by decide +kernel
theorem dX2_helperSet_20 : decode cX2_helperSet 20 = .ok (.iload_n 2, 1) := by decide +kernel
theorem dX2_helperSet_21 : decode cX2_helperSet 21 = .ok (.ishl, 1) := by decide +kernel
theorem dX2_helperSet_22 : decode cX2_helperSet 22 = .ok (.ior, 1) := by decide +kernel
theorem dX2_helperSet_23 : decode cX2_helperSet 23 = .ok (.istore_n 1, 1) := by decide +kernel
theorem dX2_helperSet_24 : decode cX2_helperSet 24 = .ok (.iinc 2 1, 3) := by decide +kernel
theorem dX2_helperSet_27 : decode cX2_helperSet 27 = .ok (.goto (-23), 3) := by decide +kernel
theorem dX2_helperSet_30 : decode cX2_helperSet 30 = .ok (.iload_n 1, 1) := by decide +kernel
theorem dX2_helperSet_31 : decode cX2_helperSet 31 = .ok (.ireturn, 1) := by decide +kernel
set_option maxRecDepth 20000 in
theorem ggX2_clashingPairs_X2_isHelper : GoodIn wsX2_clashingPairs wsX2_isHelper := goodIn_r _ [6, 7, 14, 15, 16, 17, 18, 19, 20] (by decide +kernel) (by decide +kernel)
set_option maxRecDepth 20000 in
theorem gX2_clashingPairs_X2_isHelper : GoodIn wsX2_clashingPairs (wsV RX2 48 RX2 yX2_isHelper wsX2_isHelper) := goodIn_app (goodIn_of _ (by decide +kernel)) ggX2_clashingPairs_X2_isHelper
set_option maxRecDepth 20000 in
theorem ggX2_clashingPairs_X1_orderTo : GoodIn wsX2_clashingPairs wsX1_orderTo := goodIn_r _ [12, 13, 21, 22, 23] (by decide +kernel) (by decide +kernel)
set_option maxRecDepth 20000 in
theorem gX2_clashingPairs_X1_orderTo : GoodIn wsX2_clashingPairs (wsV RX2 75 RX1 yX1_orderTo wsX1_orderTo) := goodIn_app (goodIn_of _ (by decide +kernel)) ggX2_clashingPairs_X1_orderTo
theorem dX2_clashingPairs_0 : decode cX2_clashingPairs 0 = .ok (.iconst 0, 1) := by decide +kernel
theorem dX2_clashingPairs_1 : decode cX2_clashingPairs 1 = .ok (.istore_n 1, 1) := by decide +kernel
theorem dX2_clashingPairs_2 : decode cX2_clashingPairs 2 = .ok (.iconst 0, 1) := by decide +kernel
theorem dX2_clashingPairs_3 : decode cX2_clashingPairs 3 = .ok (.istore_n 2, 1) := by decide +kernel
theorem dX2_clashingPairs_4 : decode cX2_clashingPairs 4 = .ok (.iload_n 2, 1) := by decide +kernel
theorem dX2_clashingPairs_5 : decode cX2_clashingPairs 5 = .ok (.bipush 8, 2) := by decide +kernel
theorem dX2_clashingPairs_7 : decode cX2_clashingPairs 7 = .ok (.if_icmp .ge 63, 3) := by decide +kernel
theorem dX2_clashingPairs_10 : decode cX2_clashingPairs 10 = .ok (.iload_n 2, 1) := by decide +kernel
theorem dX2_clashingPairs_11 : decode cX2_clashingPairs 11 = .ok (.iconst 1, 1) := by decide +kernel
theorem dX2_clashingPairs_12 : decode cX2_clashingPairs 12 = .ok (.iadd, 1) := by decide +kernel
theorem dX2_clashingPairs_13 : decode cX2_clashingPairs 13 = .ok (.istore_n 3, 1) := by decide +kernel
theorem dX2_clashingPairs_14 : decode cX2_clashingPairs 14 = .ok (.iload_n 3, 1) := by decide +kernel
theorem dX2_clashingPairs_15 : decode cX2_clashingPairs 15 = .ok (.bipush 8, 2) := by decide +kernel
theorem dX2_clashingPairs_17 : decode cX2_clashingPairs 17 = .ok (.if_icmp .ge 47, 3) := by decide +kernel
theorem dX2_clashingPairs_20 : decode cX2_clashingPairs 20 = .ok (.aload_n 0, 1) := by decide +kernel
theorem dX2_clashingPairs_21 : decode cX2_clashingPairs 21 = .ok (.iload_n 2, 1) := by decide +kernel
theorem dX2_clashingPairs_22 : decode cX2_clashingPairs 22 = .ok (.invokevirtual 48, 3) := by decide +kernel
theorem dX2_clashingPairs_25 : decode cX2_clashingPairs 25 = .ok (.ifCond .eq 33, 3) := by decide +kernel
theorem dX2_clashingPairs_28 : decode cX2_clashingPairs 28 = .ok (.aload_n 0, 1) := by decide +kernel
theorem dX2_clashingPairs_29 : decode cX2_clashingPairs 29 = .ok (.iload_n 3, 1) := by decide +kernel
theorem dX2_clashingPairs_30 : decode cX2_clashingPairs 30 = .ok (.invokevirtual 48, 3) := by decide +kernel
theorem dX2_clashingPairs_33 : decode cX2_clashingPairs 33 = .ok (.ifCond .eq 25, 3) := by decide +kernel
theorem dX2_clashingPairs_36 : decode cX2_clashingPairs 36 = .ok (.aload_n 0, 1) := by decide +kernel
theorem dX2_clashingPairs_37 : decode cX2_clashingPairs 37 = .ok (.getfield 17, 3) := by decide +kernel
theorem dX2_clashingPairs_40 : decode cX2_clashingPairs 40 = .ok (.iload_n 2, 1) := by decide +kernel
theorem dX2_clashingPairs_41 : decode cX2_clashingPairs 41 = .ok (.aaload, 1) := by decide +kernel
theorem dX2_clashingPairs_42 : decode cX2_clashingPairs 42 = .ok (.aload_n 0, 1) := by decide +kernel
theorem dX2_clashingPairs_43 : decode cX2_clashingPairs 43 = .ok (.getfield 17, 3) := by decide +kernel
theorem dX2_clashingPairs_46 : decode cX2_clashingPairs 46 = .ok (.iload_n 3, 1) := by decide +kernel
theorem dX2_clashingPairs_47 : decode cX2_clashingPairs 47 = .ok (.aaload, 1) := by decide +kernel
theorem dX2_clashingPairs_48 : decode cX2_clashingPairs 48 = .ok (.invokevirtual 75, 3) := by decide +kernel
theorem dX2_clashingPairs_51 : decode cX2_clashingPairs 51 = .ok (.iconst 3, 1) := by decide +kernel
theorem dX2_clashingPairs_52 : decode cX2_clashingPairs 52 = .ok (.if_icmp .ne 6, 3) := by decide +kernel
theorem dX2_clashingPairs_55 : decode cX2_clashingPairs 55 = .ok (.iinc 1 1, 3) := by decide +kernel
theorem dX2_clashingPairs_58 : decode cX2_clashingPairs 58 = .ok (.iinc 3 1, 3) := by decide +kernel
theorem dX2_clashingPairs_61 : decode cX2_clashingPairs 61 = .ok (.goto (-47), 3) := by decide +kernel
theorem dX2_clashingPairs_64 : decode cX2_clashingPairs 64 = .ok (.iinc 2 1, 3) := by decide +kernel
theorem dX2_clashingPairs_67 : decode cX2_clashingPairs 67 = .ok (.goto (-63), 3) := by decide +kernel
theorem dX2_clashingPairs_70 : decode cX2_clashingPairs 70 = .ok (.iload_n 1, 1) := by decide +kernel
theorem dX2_clashingPairs_71 : decode cX2_clashingPairs 71 = .ok (.ireturn, 1) := by decide +kernel
set_option maxRecDepth 20000 in
theorem ggX2_knotsOfHelpers_X2_isHelper : GoodIn wsX2_knotsOfHelpers wsX2_isHelper := goodIn_r _ [6, 7, 20, 21, 22, 23, 24, 25, 26] (by decide +kernel) (by decide +kernel)
set_option maxRecDepth 20000 in
theorem gX2_knotsOfHelpers_X2_isHelper : GoodIn wsX2_knotsOfHelpers (wsV RX2 48 RX2 yX2_isHelper wsX2_isHelper) := goodIn_app (goodIn_of _ (by decide +kernel)) ggX2_knotsOfHelpers_X2_isHelper
set_option maxRecDepth 20000 in
theorem ggX2_knotsOfHelpers_X1_knots : GoodIn wsX2_knotsOfHelpers wsX1_knots := goodIn_r _ [12, 13, 14, 15, 11, 16, 17, 18, 19, 27, 28, 29] (by decide +kernel) (by decide +kernel)
set_option maxRecDepth 20000 in
theorem gX2_knotsOfHelpers_X1_knots : GoodIn wsX2_knotsOfHelpers (wsV RX2 79 RX1 yX1_knots wsX1_knots) := goodIn_app (goodIn_of _ (by decide +kernel)) ggX2_knotsOfHelpers_X1_knots
theorem dX2_knotsOfHelpers_0 : decode cX2_knotsOfHelpers 0 = .ok (.iconst 0, 1) := by decide +kernel
theorem dX2_knotsOfHelpers_1 : decode cX2_knotsOfHelpers 1 = .ok (.istore_n 1, 1) := by decide +kernel
theorem dX2_knotsOfHelpers_2 : decode cX2_knotsOfHelpers 2 = .ok (.iconst 0, 1) := by decide +kernel
theorem dX2_knotsOfHelpers_3 : decode cX2_knotsOfHelpers 3 = .ok (.istore_n 2, 1) := by decide +kernel
theorem dX2_knotsOfHelpers_4 : decode cX2_knotsOfHelpers 4 = .ok (.iload_n 2, 1) := by decide +kernel
theorem dX2_knotsOfHelpers_5 : decode cX2_knotsOfHelpers 5 = .ok (.bipush 8, 2) := by decide +kernel
theorem dX2_knotsOfHelpers_7 : decode cX2_knotsOfHelpers 7 = .ok (.if_icmp .ge 29, 3) := by decide +kernel
theorem dX2_knotsOfHelpers_10 : decode cX2_knotsOfHelpers 10 = .ok (.aload_n 0, 1) := by decide +kernel
theorem dX2_knotsOfHelpers_11 : decode cX2_knotsOfHelpers 11 = .ok (.iload_n 2, 1) := by decide +kernel
theorem dX2_knotsOfHelpers_12 : decode cX2_knotsOfHelpers 12 = .ok (.invokevirtual 48, 3) := by decide +kernel
theorem dX2_knotsOfHelpers_15 : decode cX2_knotsOfHelpers 15 = .ok (.ifCond .eq 15, 3) := by decide +kernel
theorem dX2_knotsOfHelpers_18 : decode cX2_knotsOfHelpers 18 = .ok (.iload_n 1, 1) := by decide +kernel
theorem dX2_knotsOfHelpers_19 : decode cX2_knotsOfHelpers 19 = .ok (.aload_n 0, 1) := by decide +kernel
theorem dX2_knotsOfHelpers_20 : decode cX2_knotsOfHelpers 20 = .ok (.getfield 17, 3) := by decide +kernel
theorem dX2_knotsOfHelpers_23 : decode cX2_knotsOfHelpers 23 = .ok (.iload_n 2, 1) := by decide +kernel
theorem dX2_knotsOfHelpers_24 : decode cX2_knotsOfHelpers 24 = .ok (.aaload, 1) := by decide +kernel
theorem dX2_knotsOfHelpers_25 : decode cX2_knotsOfHelpers 25 = .ok (.invokevirtual 79, 3) := by decide +kernel
theorem dX2_knotsOfHelpers_28 : decode cX2_knotsOfHelpers 28 = .ok (.iadd, 1) := by decide +kernel
theorem dX2_knotsOfHelpers_29 : decode cX2_knotsOfHelpers 29 = .ok (.istore_n 1, 1) := by decide +kernel
theorem dX2_knotsOfHelpers_30 : decode cX2_knotsOfHelpers 30 = .ok (.iinc 2 1, 3) := by decide +kernel
theorem dX2_knotsOfHelpers_33 : decode cX2_knotsOfHelpers 33 = .ok (.goto (-29), 3) := by decide +kernel
theorem dX2_knotsOfHelpers_36 : decode cX2_knotsOfHelpers 36 = .ok (.iload_n 1, 1) := by decide +kernel
theorem dX2_knotsOfHelpers_37 : decode cX2_knotsOfHelpers 37 = .ok (.ireturn, 1) := by decide +kernel
set_option maxRecDepth 20000 in
theorem ggX2_foremost_X2_isHelper : GoodIn wsX2_foremost wsX2_isHelper := goodIn_r _ [5, 6, 18, 19, 20, 21, 22, 23, 24] (by decide +kernel) (by decide +kernel)
set_option maxRecDepth 20000 in
theorem gX2_foremost_X2_isHelper : GoodIn wsX2_foremost (wsV RX2 48 RX2 yX2_isHelper wsX2_isHelper) := goodIn_app (goodIn_of _ (by decide +kernel)) ggX2_foremost_X2_isHelper
set_option maxRecDepth 20000 in
theorem ggX2_foremost_X2_isForemost : GoodIn wsX2_foremost wsX2_isForemost := goodIn_r _ [10, 11, 1, 2, 3, 4, 5, 6, 12, 13, 14, 15, 16, 17, 18, 19, 20, 21, 22, 23, 24, 25, 26, 27] (by decide +kernel) (by decide +kernel)
set_option maxRecDepth 20000 in
theorem gX2_foremost_X2_isForemost : GoodIn wsX2_foremost (wsV RX2 83 RX2 yX2_isForemost wsX2_isForemost) := goodIn_app (goodIn_of _ (by decide +kernel)) ggX2_foremost_X2_isForemost
theorem dX2_foremost_0 : decode cX2_foremost 0 = .ok (.iconst 0, 1) := by decide +kernel
theorem dX2_foremost_1 : decode cX2_foremost 1 = .ok (.istore_n 1, 1) := by decide +kernel
theorem dX2_foremost_2 : decode cX2_foremost 2 = .ok (.iload_n 1, 1) := by decide +kernel
theorem dX2_foremost_3 : decode cX2_foremost 3 = .ok (.bipush 8, 2) := by decide +kernel
theorem dX2_foremost_5 : decode cX2_foremost 5 = .ok (.if_icmp .ge 27, 3) := by decide +kernel
theorem dX2_foremost_8 : decode cX2_foremost 8 = .ok (.aload_n 0, 1) := by decide +kernel
theorem dX2_foremost_9 : decode cX2_foremost 9 = .ok (.iload_n 1, 1) := by decide +kernel
theorem dX2_foremost_10 : decode cX2_foremost 10 = .ok (.invokevirtual 48, 3) := by decide +kernel
theorem dX2_foremost_13 : decode cX2_foremost 13 = .ok (.ifCond .eq 13, 3) := by decide +kernel
theorem dX2_foremost_16 : decode cX2_foremost 16 = .ok (.aload_n 0, 1) := by decide +kernel
theorem dX2_foremost_17 : decode cX2_foremost 17 = .ok (.iload_n 1, 1) := by decide +kernel
theorem dX2_foremost_18 : decode cX2_foremost 18 = .ok (.invokevirtual 83, 3) := by decide +kernel
theorem dX2_foremost_21 : decode cX2_foremost 21 = .ok (.ifCond .eq 5, 3) := by decide +kernel
theorem dX2_foremost_24 : decode cX2_foremost 24 = .ok (.iload_n 1, 1) := by decide +kernel
theorem dX2_foremost_25 : decode cX2_foremost 25 = .ok (.ireturn, 1) := by decide +kernel
theorem dX2_foremost_26 : decode cX2_foremost 26 = .ok (.iinc 1 1, 3) := by decide +kernel
theorem dX2_foremost_29 : decode cX2_foremost 29 = .ok (.goto (-27), 3) := by decide +kernel
theorem dX2_foremost_32 : decode cX2_foremost 32 = .ok (.bipush (-6), 2) := by decide +kernel
theorem dX2_foremost_34 : decode cX2_foremost 34 = .ok (.ireturn, 1) := by decide +kernel
set_option maxRecDepth 20000 in
theorem ggX2_isForemost_X2_isHelper : GoodIn wsX2_isForemost wsX2_isHelper := goodIn_r _ [6, 7, 14, 15, 16, 17, 18, 19, 20] (by decide +kernel) (by decide +kernel)
set_option maxRecDepth 20000 in
theorem gX2_isForemost_X2_isHelper : GoodIn wsX2_isForemost (wsV RX2 48 RX2 yX2_isHelper wsX2_isHelper) := goodIn_app (goodIn_of _ (by decide +kernel)) ggX2_isForemost_X2_isHelper
set_option maxRecDepth 20000 in
theorem ggX2_isForemost_X1_orderTo : GoodIn wsX2_isForemost wsX1_orderTo := goodIn_r _ [12, 13, 21, 22, 23] (by decide +kernel) (by decide +kernel)
set_option maxRecDepth 20000 in
theorem gX2_isForemost_X1_orderTo : GoodIn wsX2_isForemost (wsV RX2 75 RX1 yX1_orderTo wsX1_orderTo) := goodIn_app (goodIn_of _ (by decide +kernel)) ggX2_isForemost_X1_orderTo
theorem dX2_isForemost_0 : decode cX2_isForemost 0 = .ok (.iconst 0, 1) := by decide +kernel
theorem dX2_isForemost_1 : decode cX2_isForemost 1 = .ok (.istore_n 2, 1) := by decide +kernel
theorem dX2_isForemost_2 : decode cX2_isForemost 2 = .ok (.iload_n 2, 1) := by decide +kernel
theorem dX2_isForemost_3 : decode cX2_isForemost 3 = .ok (.bipush 8, 2) := by decide +kernel
theorem dX2_isForemost_5 : decode cX2_isForemost 5 = .ok (.if_icmp .ge 45, 3) := by decide +kernel
theorem dX2_isForemost_8 : decode cX2_isForemost 8 = .ok (.aload_n 0, 1) := by decide +kernel
theorem dX2_isForemost_9 : decode cX2_isForemost 9 = .ok (.iload_n 2, 1) := by decide +kernel
theorem dX2_isForemost_10 : decode cX2_isForemost 10 = .ok (.invokevirtual 48, 3) := by decide +kernel
theorem dX2_isForemost_13 : decode cX2_isForemost 13 = .ok (.ifCond .eq 31, 3) := by decide +kernel
theorem dX2_isForemost_16 : decode cX2_isForemost 16 = .ok (.aload_n 0, 1) := by decide +kernel
theorem dX2_isForemost_17 : decode cX2_isForemost 17 = .ok (.getfield 17, 3) := by decide +kernel
theorem dX2_isForemost_20 : decode cX2_isForemost 20 = .ok (.iload_n 2, 1) := by decide +kernel
theorem dX2_isForemost_21 : decode cX2_isForemost 21 = .ok (.aaload, 1) := by decide +kernel
theorem dX2_isForemost_22 : decode cX2_isForemost 22 = .ok (.aload_n 0, 1) := by decide +kernel
theorem dX2_isForemost_23 : decode cX2_isForemost 23 = .ok (.getfield 17, 3) := by decide +kernel
theorem dX2_isForemost_26 : decode cX2_isForemost 26 = .ok (.iload_n 1, 1) := by decide +kernel
theorem dX2_isForemost_27 : decode cX2_isForemost 27 = .ok (.aaload, 1) := by decide +kernel
theorem dX2_isForemost_28 : decode cX2_isForemost 28 = .ok (.invokevirtual 75, 3) := by decide +kernel
theorem dX2_isForemost_31 : decode cX2_isForemost 31 = .ok (.istore_n 3, 1) := by decide +kernel
theorem dX2_isForemost_32 : decode cX2_isForemost 32 = .ok (.iload_n 3, 1) := by decide +kernel
theorem dX2_isForemost_33 : decode cX2_isForemost 33 = .ok (.iconst 2, 1) := by decide +kernel
theorem dX2_isForemost_34 : decode cX2_isForemost 34 = .ok (.if_icmp .eq 8, 3) := by decide +kernel
theorem dX2_isForemost_37 : decode cX2_isForemost 37 = .ok (.iload_n 3, 1) := by decide +kernel
theorem dX2_isForemost_38 : decode cX2_isForemost 38 = .ok (.iconst 3, 1) := by decide +kernel
theorem dX2_isForemost_39 : decode cX2_isForemost 39 = .ok (.if_icmp .ne 5, 3) := by decide +kernel
theorem dX2_isForemost_42 : decode cX2_isForemost 42 = .ok (.iconst 0, 1) := by decide +kernel
theorem dX2_isForemost_43 : decode cX2_isForemost 43 = .ok (.ireturn, 1) := by decide +kernel
theorem dX2_isForemost_44 : decode cX2_isForemost 44 = .ok (.iinc 2 1, 3) := by decide +kernel
theorem dX2_isForemost_47 : decode cX2_isForemost 47 = .ok (.goto (-45), 3) := by decide +kernel
theorem dX2_isForemost_50 : decode cX2_isForemost 50 = .ok (.iconst 1, 1) := by decide +kernel
theorem dX2_isForemost_51 : decode cX2_isForemost 51 = .ok (.ireturn, 1) := by decide +kernel
set_option maxRecDepth 20000 in
theorem ggX2_leastKnowing_X2_isHelper : GoodIn wsX2_leastKnowing wsX2_isHelper := goodIn_r _ [6, 7, 22, 23, 24, 25, 26, 27, 28] (by decide +kernel) (by decide +kernel)
set_option maxRecDepth 20000 in
theorem gX2_leastKnowing_X2_isHelper : GoodIn wsX2_leastKnowing (wsV RX2 48 RX2 yX2_isHelper wsX2_isHelper) := goodIn_app (goodIn_of _ (by decide +kernel)) ggX2_leastKnowing_X2_isHelper
set_option maxRecDepth 20000 in
theorem ggX2_leastKnowing_X1_knownCount : GoodIn wsX2_leastKnowing wsX1_knownCount := goodIn_r _ [12, 13, 14, 15, 16, 17, 18, 19, 20, 21, 29, 30, 31] (by decide +kernel) (by decide +kernel)
set_option maxRecDepth 20000 in
theorem gX2_leastKnowing_X1_knownCount : GoodIn wsX2_leastKnowing (wsV RX2 86 RX1 yX1_knownCount wsX1_knownCount) := goodIn_app (goodIn_of _ (by decide +kernel)) ggX2_leastKnowing_X1_knownCount
theorem dX2_leastKnowing_0 : decode cX2_leastKnowing 0 = .ok (.iconst 0, 1) := by decide +kernel
theorem dX2_leastKnowing_1 : decode cX2_leastKnowing 1 = .ok (.istore_n 1, 1) := by decide +kernel
theorem dX2_leastKnowing_2 : decode cX2_leastKnowing 2 = .ok (.bipush 121, 2) := by decide +kernel
theorem dX2_leastKnowing_4 : decode cX2_leastKnowing 4 = .ok (.istore_n 2, 1) := by decide +kernel
theorem dX2_leastKnowing_5 : decode cX2_leastKnowing 5 = .ok (.iconst 0, 1) := by decide +kernel
theorem dX2_leastKnowing_6 : decode cX2_leastKnowing 6 = .ok (.istore_n 3, 1) := by decide +kernel
theorem dX2_leastKnowing_7 : decode cX2_leastKnowing 7 = .ok (.iload_n 3, 1) := by decide +kernel
theorem dX2_leastKnowing_8 : decode cX2_leastKnowing 8 = .ok (.bipush 8, 2) := by decide +kernel
theorem dX2_leastKnowing_10 : decode cX2_leastKnowing 10 = .ok (.if_icmp .ge 42, 3) := by decide +kernel
theorem dX2_leastKnowing_13 : decode cX2_leastKnowing 13 = .ok (.aload_n 0, 1) := by decide +kernel
theorem dX2_leastKnowing_14 : decode cX2_leastKnowing 14 = .ok (.iload_n 3, 1) := by decide +kernel
theorem dX2_leastKnowing_15 : decode cX2_leastKnowing 15 = .ok (.invokevirtual 48, 3) := by decide +kernel
theorem dX2_leastKnowing_18 : decode cX2_leastKnowing 18 = .ok (.ifCond .eq 28, 3) := by decide +kernel
theorem dX2_leastKnowing_21 : decode cX2_leastKnowing 21 = .ok (.aload_n 0, 1) := by decide +kernel
theorem dX2_leastKnowing_22 : decode cX2_leastKnowing 22 = .ok (.getfield 17, 3) := by decide +kernel
theorem dX2_leastKnowing_25 : decode cX2_leastKnowing 25 = .ok (.iload_n 3, 1) := by decide +kernel
theorem dX2_leastKnowing_26 : decode cX2_leastKnowing 26 = .ok (.aaload, 1) := by decide +kernel
theorem dX2_leastKnowing_27 : decode cX2_leastKnowing 27 = .ok (.invokevirtual 86, 3) := by decide +kernel
theorem dX2_leastKnowing_30 : decode cX2_leastKnowing 30 = .ok (.iload_n 2, 1) := by decide +kernel
theorem dX2_leastKnowing_31 : decode cX2_leastKnowing 31 = .ok (.if_icmp .ge 15, 3) := by decide +kernel
theorem dX2_leastKnowing_34 : decode cX2_leastKnowing 34 = .ok (.iload_n 3, 1) := by decide +kernel
theorem dX2_leastKnowing_35 : decode cX2_leastKnowing 35 = .ok (.istore_n 1, 1) := by decide +kernel
theorem dX2_leastKnowing_36 : decode cX2_leastKnowing 36 = .ok (.aload_n 0, 1) := by decide +kernel
theorem dX2_leastKnowing_37 : decode cX2_leastKnowing 37 = .ok (.getfield 17, 3) := by decide +kernel
theorem dX2_leastKnowing_40 : decode cX2_leastKnowing 40 = .ok (.iload_n 3, 1) := by decide +kernel
theorem dX2_leastKnowing_41 : decode cX2_leastKnowing 41 = .ok (.aaload, 1) := by decide +kernel
theorem dX2_leastKnowing_42 : decode cX2_leastKnowing 42 = .ok (.invokevirtual 86, 3) := by decide +kernel
theorem dX2_leastKnowing_45 : decode cX2_leastKnowing 45 = .ok (.istore_n 2, 1) := by decide +kernel
theorem dX2_leastKnowing_46 : decode cX2_leastKnowing 46 = .ok (.iinc 3 1, 3) := by decide +kernel
theorem dX2_leastKnowing_49 : decode cX2_leastKnowing 49 = .ok (.goto (-42), 3) := by decide +kernel
theorem dX2_leastKnowing_52 : decode cX2_leastKnowing 52 = .ok (.iload_n 1, 1) := by decide +kernel
theorem dX2_leastKnowing_53 : decode cX2_leastKnowing 53 = .ok (.ireturn, 1) := by decide +kernel
set_option maxRecDepth 20000 in
theorem ggX3_init_X2_init : GoodIn wsX3_init wsX2_init := goodIn_r _ [28, 29, 2, 3, 30, 31, 32, 33, 34, 35, 36, 17, 18, 37, 38, 39, 40, 68, 69, 70, 71, 72, 73, 74, 90, 91, 92] (by decide +kernel) (by decide +kernel)
set_option maxRecDepth 20000 in
theorem gX3_init_X2_init : GoodIn wsX3_init (wsX2_init) := ggX3_init_X2_init
set_option maxRecDepth 20000 in
theorem ggX3_init_X0_init : GoodIn wsX3_init wsX0_init := goodIn_r _ [42, 43, 2, 3, 44, 45, 46, 17, 18, 47, 37, 38, 39, 30, 40, 83, 84, 85, 86, 87, 88, 89, 90, 91, 92] (by decide +kernel) (by decide +kernel)
set_option maxRecDepth 20000 in
theorem gX3_init_X0_init_n29 : GoodIn wsX3_init (wsX0_init) := ggX3_init_X0_init
set_option maxRecDepth 20000 in
theorem ggX3_init_X1_init : GoodIn wsX3_init wsX1_init := goodIn_r _ [38, 39, 2, 3, 30, 40, 90, 91, 92] (by decide +kernel) (by decide +kernel)
set_option maxRecDepth 20000 in
theorem gX3_init_X1_init_n36 : GoodIn wsX3_init (wsX1_init) := ggX3_init_X1_init
set_option maxRecDepth 20000 in
theorem ggX3_init_J4_init_da8c8 : GoodIn wsX3_init wsJ4_init_da8c8 := goodIn_r _ [50, 51, 52, 53, 54, 55, 2, 3, 56, 57, 58, 59, 60, 61, 62, 63, 64, 65, 66, 67, 93, 94, 95, 96] (by decide +kernel) (by decide +kernel)
set_option maxRecDepth 20000 in
theorem gX3_init_J4_init_da8c8 : GoodIn wsX3_init (wsJ4_init_da8c8) := ggX3_init_J4_init_da8c8
theorem dX3_init_0 : decode cX3_init 0 = .ok (.aload_n 0, 1) := by decide +kernel
theorem dX3_init_1 : decode cX3_init 1 = .ok (.invokespecial 1, 3) := by decide +kernel
theorem dX3_init_4 : decode cX3_init 4 = .ok (.aload_n 0, 1) := by decide +kernel
theorem dX3_init_5 : decode cX3_init 5 = .ok (.new 7, 3) := by decide +kernel
theorem dX3_init_8 : decode cX3_init 8 = .ok (.dup, 1) := by decide +kernel
theorem dX3_init_9 : decode cX3_init 9 = .ok (.invokespecial 9, 3) := by decide +kernel
theorem dX3_init_12 : decode cX3_init 12 = .ok (.putfield 10, 3) := by decide +kernel
theorem dX3_init_15 : decode cX3_init 15 = .ok (.aload_n 0, 1) := by decide +kernel
theorem dX3_init_16 : decode cX3_init 16 = .ok (.bipush 6, 2) := by decide +kernel
theorem dX3_init_18 : decode cX3_init 18 = .ok (.anewarray 7, 3) := by decide +kernel
theorem dX3_init_21 : decode cX3_init 21 = .ok (.putfield 16, 3) := by decide +kernel
theorem dX3_init_24 : decode cX3_init 24 = .ok (.aload_n 0, 1) := by decide +kernel
theorem dX3_init_25 : decode cX3_init 25 = .ok (.iconst 2, 1) := by decide +kernel
theorem dX3_init_26 : decode cX3_init 26 = .ok (.anewarray 7, 3) := by decide +kernel
theorem dX3_init_29 : decode cX3_init 29 = .ok (.putfield 20, 3) := by decide +kernel
theorem dX3_init_32 : decode cX3_init 32 = .ok (.aload_n 0, 1) := by decide +kernel
theorem dX3_init_33 : decode cX3_init 33 = .ok (.iconst 2, 1) := by decide +kernel
theorem dX3_init_34 : decode cX3_init 34 = .ok (.newarray .boolean, 2) := by decide +kernel
theorem dX3_init_36 : decode cX3_init 36 = .ok (.putfield 23, 3) := by decide +kernel
theorem dX3_init_39 : decode cX3_init 39 = .ok (.aload_n 0, 1) := by decide +kernel
theorem dX3_init_40 : decode cX3_init 40 = .ok (.new 27, 3) := by decide +kernel
theorem dX3_init_43 : decode cX3_init 43 = .ok (.dup, 1) := by decide +kernel
theorem dX3_init_44 : decode cX3_init 44 = .ok (.invokespecial 29, 3) := by decide +kernel
theorem dX3_init_47 : decode cX3_init 47 = .ok (.putfield 30, 3) := by decide +kernel
theorem dX3_init_50 : decode cX3_init 50 = .ok (.aload_n 0, 1) := by decide +kernel
theorem dX3_init_51 : decode cX3_init 51 = .ok (.new 34, 3) := by decide +kernel
theorem dX3_init_54 : decode cX3_init 54 = .ok (.dup, 1) := by decide +kernel
theorem dX3_init_55 : decode cX3_init 55 = .ok (.invokespecial 36, 3) := by decide +kernel
theorem dX3_init_58 : decode cX3_init 58 = .ok (.putfield 37, 3) := by decide +kernel
theorem dX3_init_61 : decode cX3_init 61 = .ok (.aload_n 0, 1) := by decide +kernel
theorem dX3_init_62 : decode cX3_init 62 = .ok (.new 41, 3) := by decide +kernel
theorem dX3_init_65 : decode cX3_init 65 = .ok (.dup, 1) := by decide +kernel
theorem dX3_init_66 : decode cX3_init 66 = .ok (.invokespecial 43, 3) := by decide +kernel
theorem dX3_init_69 : decode cX3_init 69 = .ok (.putfield 44, 3) := by decide +kernel
theorem dX3_init_72 : decode cX3_init 72 = .ok (.iconst 0, 1) := by decide +kernel
theorem dX3_init_73 : decode cX3_init 73 = .ok (.istore_n 1, 1) := by decide +kernel
theorem dX3_init_74 : decode cX3_init 74 = .ok (.iload_n 1, 1) := by decide +kernel
theorem dX3_init_75 : decode cX3_init 75 = .ok (.bipush 6, 2) := by decide +kernel
theorem dX3_init_77 : decode cX3_init 77 = .ok (.if_icmp .ge 22, 3) := by decide +kernel
theorem dX3_init_80 : decode cX3_init 80 = .ok (.aload_n 0, 1) := by decide +kernel
theorem dX3_init_81 : decode cX3_init 81 = .ok (.getfield 16, 3) := by decide +kernel
theorem dX3_init_84 : decode cX3_init 84 = .ok (.iload_n 1, 1) := by decide +kernel
theorem dX3_init_85 : decode cX3_init 85 = .ok (.new 7, 3) := by decide +kernel
theorem dX3_init_88 : decode cX3_init 88 = .ok (.dup, 1) := by decide +kernel
theorem dX3_init_89 : decode cX3_init 89 = .ok (.invokespecial 9, 3) := by decide +kernel
theorem dX3_init_92 : decode cX3_init 92 = .ok (.aastore, 1) := by decide +kernel
theorem dX3_init_93 : decode cX3_init 93 = .ok (.iinc 1 1, 3) := by decide +kernel
theorem dX3_init_96 : decode cX3_init 96 = .ok (.goto (-22), 3) := by decide +kernel
theorem dX3_init_99 : decode cX3_init 99 = .ok (.iconst 0, 1) := by decide +kernel
theorem dX3_init_100 : decode cX3_init 100 = .ok (.istore_n 1, 1) := by decide +kernel
theorem dX3_init_101 : decode cX3_init 101 = .ok (.iload_n 1, 1) := by decide +kernel
theorem dX3_init_102 : decode cX3_init 102 = .ok (.iconst 2, 1) := by decide +kernel
theorem dX3_init_103 : decode cX3_init 103 = .ok (.if_icmp .ge 22, 3) := by decide +kernel
theorem dX3_init_106 : decode cX3_init 106 = .ok (.aload_n 0, 1) := by decide +kernel
theorem dX3_init_107 : decode cX3_init 107 = .ok (.getfield 20, 3) := by decide +kernel
theorem dX3_init_110 : decode cX3_init 110 = .ok (.iload_n 1, 1) := by decide +kernel
theorem dX3_init_111 : decode cX3_init 111 = .ok (.new 7, 3) := by decide +kernel
theorem dX3_init_114 : decode cX3_init 114 = .ok (.dup, 1) := by decide +kernel
theorem dX3_init_115 : decode cX3_init 115 = .ok (.invokespecial 9, 3) := by decide +kernel
theorem dX3_init_118 : decode cX3_init 118 = .ok (.aastore, 1) := by decide +kernel
theorem dX3_init_119 : decode cX3_init 119 = .ok (.iinc 1 1, 3) := by decide +kernel
theorem dX3_init_122 : decode cX3_init 122 = .ok (.goto (-21), 3) := by decide +kernel
theorem dX3_init_125 : decode cX3_init 125 = .ok (.aload_n 0, 1) := by decide +kernel
theorem dX3_init_126 : decode cX3_init 126 = .ok (.getfield 10, 3) := by decide +kernel
theorem dX3_init_129 : decode cX3_init 129 = .ok (.getfield 48, 3) := by decide +kernel
theorem dX3_init_132 : decode cX3_init 132 = .ok (.iconst 0, 1) := by decide +kernel
theorem dX3_init_133 : decode cX3_init 133 = .ok (.ldc 52, 2) := by decide +kernel
theorem dX3_init_135 : decode cX3_init 135 = .ok (.iastore, 1) := by decide +kernel
theorem dX3_init_136 : decode cX3_init 136 = .ok (.return_, 1) := by decide +kernel
set_option maxRecDepth 20000 in
theorem ggX3_fork_X2_isHelper : GoodIn wsX3_fork wsX2_isHelper := goodIn_r _ [7, 8, 71, 72, 73, 74, 75, 76, 77] (by decide +kernel) (by decide +kernel)
set_option maxRecDepth 20000 in
theorem gX3_fork_X2_isHelper : GoodIn wsX3_fork (wsV RX3 53 RX2 yX2_isHelper wsX2_isHelper) := goodIn_app (goodIn_of _ (by decide +kernel)) ggX3_fork_X2_isHelper
set_option maxRecDepth 20000 in
theorem ggX3_fork_X2_lowestFreeHelper : GoodIn wsX3_fork wsX2_lowestFreeHelper := goodIn_r _ [12, 13, 4, 5, 6, 7, 8, 71, 72, 73, 74, 75, 76, 77] (by decide +kernel) (by decide +kernel)
set_option maxRecDepth 20000 in
theorem gX3_fork_X2_lowestFreeHelper : GoodIn wsX3_fork (wsV RX3 57 RX2 yX2_lowestFreeHelper wsX2_lowestFreeHelper) := goodIn_app (goodIn_of _ (by decide +kernel)) ggX3_fork_X2_lowestFreeHelper
set_option maxRecDepth 20000 in
theorem ggX3_fork_J6_bitCount_0f7a4 : GoodIn wsX3_fork wsJ6_bitCount_0f7a4 := goodIn_r _ [17, 18, 19, 20] (by decide +kernel) (by decide +kernel)
set_option maxRecDepth 20000 in
theorem gX3_fork_J6_bitCount_0f7a4 : GoodIn wsX3_fork (va_wsS RX3 61 yJ6_bitCount_0f7a4 wsJ6_bitCount_0f7a4) := goodIn_app (goodIn_of _ (by decide +kernel)) ggX3_fork_J6_bitCount_0f7a4
set_option maxRecDepth 20000 in
theorem ggX3_fork_X3_remember : GoodIn wsX3_fork wsX3_remember := goodIn_r _ [25, 26, 27, 1, 28, 29, 30, 24, 31, 32, 33, 34, 6, 35, 8, 36, 37, 38, 39, 40, 41, 42, 43, 44, 45, 46, 47, 48, 49, 50, 51, 52, 53, 54, 63, 64, 65, 66, 67, 68, 69, 70, 71, 72, 73, 74, 75, 76, 77, 78, 79, 80] (by decide +kernel) (by decide +kernel)
set_option maxRecDepth 20000 in
theorem gX3_fork_X3_remember : GoodIn wsX3_fork (wsV RX3 67 RX3 yX3_remember wsX3_remember) := goodIn_app (goodIn_of _ (by decide +kernel)) ggX3_fork_X3_remember
set_option maxRecDepth 20000 in
theorem ggX3_fork_X2_split : GoodIn wsX3_fork wsX2_split := goodIn_r _ [58, 8, 40, 59, 15, 16, 17, 18, 19, 20, 60, 61, 6, 62, 46, 47, 48, 49, 50, 51, 52, 37, 38, 39, 53, 54, 71, 72, 73, 74, 75, 76, 77, 78, 79, 80] (by decide +kernel) (by decide +kernel)
set_option maxRecDepth 20000 in
theorem gX3_fork_X2_split : GoodIn wsX3_fork (wsV RX3 70 RX2 yX2_split wsX2_split) := goodIn_app (goodIn_of _ (by decide +kernel)) ggX3_fork_X2_split
theorem dX3_fork_0 : decode cX3_fork 0 = .ok (.aload_n 0, 1) := by decide +kernel
theorem dX3_fork_1 : decode cX3_fork 1 = .ok (.getfield 10, 3) := by decide +kernel
theorem dX3_fork_4 : decode cX3_fork 4 = .ok (.iload_n 1, 1) := by decide +kernel
theorem dX3_fork_5 : decode cX3_fork 5 = .ok (.invokevirtual 53, 3) := by decide +kernel
theorem dX3_fork_8 : decode cX3_fork 8 = .ok (.ifCond .ne 5, 3) := by decide +kernel
theorem dX3_fork_11 : decode cX3_fork 11 = .ok (.iconst (-1), 1) := by decide +kernel
theorem dX3_fork_12 : decode cX3_fork 12 = .ok (.ireturn, 1) := by decide +kernel
theorem dX3_fork_13 : decode cX3_fork 13 = .ok (.aload_n 0, 1) := by decide +kernel
theorem dX3_fork_14 : decode cX3_fork 14 = .ok (.getfield 10, 3) := by decide +kernel
theorem dX3_fork_17 : decode cX3_fork 17 = .ok (.invokevirtual 57, 3) := by decide +kernel
theorem dX3_fork_20 : decode cX3_fork 20 = .ok (.istore_n 2, 1) := by decide +kernel
theorem dX3_fork_21 : decode cX3_fork 21 = .ok (.iload_n 2, 1) := by decide +kernel
theorem dX3_fork_22 : decode cX3_fork 22 = .ok (.bipush (-6), 2) := by decide +kernel
theorem dX3_fork_24 : decode cX3_fork 24 = .ok (.if_icmp .ne 6, 3) := by decide +kernel
theorem dX3_fork_27 : decode cX3_fork 27 = .ok (.bipush (-4), 2) := by decide +kernel
theorem dX3_fork_29 : decode cX3_fork 29 = .ok (.ireturn, 1) := by decide +kernel
theorem dX3_fork_30 : decode cX3_fork 30 = .ok (.aload_n 0, 1) := by decide +kernel
theorem dX3_fork_31 : decode cX3_fork 31 = .ok (.getfield 10, 3) := by decide +kernel
theorem dX3_fork_34 : decode cX3_fork 34 = .ok (.getfield 48, 3) := by decide +kernel
theorem dX3_fork_37 : decode cX3_fork 37 = .ok (.iload_n 1, 1) := by decide +kernel
theorem dX3_fork_38 : decode cX3_fork 38 = .ok (.iaload, 1) := by decide +kernel
theorem dX3_fork_39 : decode cX3_fork 39 = .ok (.invokestatic 61, 3) := by decide +kernel
theorem dX3_fork_42 : decode cX3_fork 42 = .ok (.iconst 1, 1) := by decide +kernel
theorem dX3_fork_43 : decode cX3_fork 43 = .ok (.if_icmp .ne 6, 3) := by decide +kernel
theorem dX3_fork_46 : decode cX3_fork 46 = .ok (.bipush (-5), 2) := by decide +kernel
theorem dX3_fork_48 : decode cX3_fork 48 = .ok (.ireturn, 1) := by decide +kernel
theorem dX3_fork_49 : decode cX3_fork 49 = .ok (.aload_n 0, 1) := by decide +kernel
theorem dX3_fork_50 : decode cX3_fork 50 = .ok (.invokevirtual 67, 3) := by decide +kernel
theorem dX3_fork_53 : decode cX3_fork 53 = .ok (.aload_n 0, 1) := by decide +kernel
theorem dX3_fork_54 : decode cX3_fork 54 = .ok (.getfield 10, 3) := by decide +kernel
theorem dX3_fork_57 : decode cX3_fork 57 = .ok (.iload_n 1, 1) := by decide +kernel
theorem dX3_fork_58 : decode cX3_fork 58 = .ok (.iload_n 2, 1) := by decide +kernel
theorem dX3_fork_59 : decode cX3_fork 59 = .ok (.invokevirtual 70, 3) := by decide +kernel
theorem dX3_fork_62 : decode cX3_fork 62 = .ok (.iload_n 2, 1) := by decide +kernel
theorem dX3_fork_63 : decode cX3_fork 63 = .ok (.ireturn, 1) := by decide +kernel
set_option maxRecDepth 20000 in
theorem ggX3_gather_X2_isHelper : GoodIn wsX3_gather wsX2_isHelper := goodIn_r _ [7, 8, 70, 71, 72, 73, 74, 75, 76] (by decide +kernel) (by decide +kernel)
set_option maxRecDepth 20000 in
theorem gX3_gather_X2_isHelper : GoodIn wsX3_gather (wsV RX3 53 RX2 yX2_isHelper wsX2_isHelper) := goodIn_app (goodIn_of _ (by decide +kernel)) ggX3_gather_X2_isHelper
set_option maxRecDepth 20000 in
theorem ggX3_gather_X3_remember : GoodIn wsX3_gather wsX3_remember := goodIn_r _ [13, 14, 15, 1, 16, 17, 18, 12, 19, 20, 21, 22, 6, 23, 8, 24, 25, 26, 27, 28, 29, 30, 31, 32, 33, 34, 35, 36, 37, 38, 39, 40, 41, 42, 62, 63, 64, 65, 66, 67, 68, 69, 70, 71, 72, 73, 74, 75, 76, 77, 78, 79] (by decide +kernel) (by decide +kernel)
set_option maxRecDepth 20000 in
theorem gX3_gather_X3_remember : GoodIn wsX3_gather (wsV RX3 67 RX3 yX3_remember wsX3_remember) := goodIn_app (goodIn_of _ (by decide +kernel)) ggX3_gather_X3_remember
set_option maxRecDepth 20000 in
theorem ggX3_gather_X2_merge : GoodIn wsX3_gather wsX2_merge := goodIn_r _ [46, 28, 8, 47, 48, 49, 37, 50, 39, 51, 52, 53, 54, 41, 42, 70, 71, 72, 73, 74, 75, 76, 77, 78, 79] (by decide +kernel) (by decide +kernel)
set_option maxRecDepth 20000 in
theorem gX3_gather_X2_merge : GoodIn wsX3_gather (wsV RX3 74 RX2 yX2_merge wsX2_merge) := goodIn_app (goodIn_of _ (by decide +kernel)) ggX3_gather_X2_merge
set_option maxRecDepth 20000 in
theorem ggX3_gather_J6_bitCount_0f7a4 : GoodIn wsX3_gather wsJ6_bitCount_0f7a4 := goodIn_r _ [58, 59, 60, 61] (by decide +kernel) (by decide +kernel)
set_option maxRecDepth 20000 in
theorem gX3_gather_J6_bitCount_0f7a4 : GoodIn wsX3_gather (va_wsS RX3 61 yJ6_bitCount_0f7a4 wsJ6_bitCount_0f7a4) := goodIn_app (goodIn_of _ (by decide +kernel)) ggX3_gather_J6_bitCount_0f7a4
theorem dX3_gather_0 : decode cX3_gather 0 = .ok (.aload_n 0, 1) := by decide +kernel
theorem dX3_gather_1 : decode cX3_gather 1 = .ok (.getfield 10, 3) := by decide +kernel
theorem dX3_gather_4 : decode cX3_gather 4 = .ok (.iload_n 1, 1) := by decide +kernel
theorem dX3_gather_5 : decode cX3_gather 5 = .ok (.invokevirtual 53, 3) := by decide +kernel
theorem dX3_gather_8 : decode cX3_gather 8 = .ok (.ifCond .eq 14, 3) := by decide +kernel
theorem dX3_gather_11 : decode cX3_gather 11 = .ok (.aload_n 0, 1) := by decide +kernel
theorem dX3_gather_12 : decode cX3_gather 12 = .ok (.getfield 10, 3) := by decide +kernel
theorem dX3_gather_15 : decode cX3_gather 15 = .ok (.iload_n 2, 1) := by decide +kernel
theorem dX3_gather_16 : decode cX3_gather 16 = .ok (.invokevirtual 53, 3) := by decide +kernel
theorem dX3_gather_19 : decode cX3_gather 19 = .ok (.ifCond .ne 5, 3) := by decide +kernel
theorem dX3_gather_22 : decode cX3_gather 22 = .ok (.iconst (-1), 1) := by decide +kernel
theorem dX3_gather_23 : decode cX3_gather 23 = .ok (.ireturn, 1) := by decide +kernel
theorem dX3_gather_24 : decode cX3_gather 24 = .ok (.iload_n 1, 1) := by decide +kernel
theorem dX3_gather_25 : decode cX3_gather 25 = .ok (.iload_n 2, 1) := by decide +kernel
theorem dX3_gather_26 : decode cX3_gather 26 = .ok (.if_icmp .ne 6, 3) := by decide +kernel
theorem dX3_gather_29 : decode cX3_gather 29 = .ok (.bipush (-2), 2) := by decide +kernel
theorem dX3_gather_31 : decode cX3_gather 31 = .ok (.ireturn, 1) := by decide +kernel
theorem dX3_gather_32 : decode cX3_gather 32 = .ok (.aload_n 0, 1) := by decide +kernel
theorem dX3_gather_33 : decode cX3_gather 33 = .ok (.invokevirtual 67, 3) := by decide +kernel
theorem dX3_gather_36 : decode cX3_gather 36 = .ok (.aload_n 0, 1) := by decide +kernel
theorem dX3_gather_37 : decode cX3_gather 37 = .ok (.getfield 10, 3) := by decide +kernel
theorem dX3_gather_40 : decode cX3_gather 40 = .ok (.iload_n 1, 1) := by decide +kernel
theorem dX3_gather_41 : decode cX3_gather 41 = .ok (.iload_n 2, 1) := by decide +kernel
theorem dX3_gather_42 : decode cX3_gather 42 = .ok (.invokevirtual 74, 3) := by decide +kernel
theorem dX3_gather_45 : decode cX3_gather 45 = .ok (.aload_n 0, 1) := by decide +kernel
theorem dX3_gather_46 : decode cX3_gather 46 = .ok (.getfield 10, 3) := by decide +kernel
theorem dX3_gather_49 : decode cX3_gather 49 = .ok (.getfield 48, 3) := by decide +kernel
theorem dX3_gather_52 : decode cX3_gather 52 = .ok (.iload_n 2, 1) := by decide +kernel
theorem dX3_gather_53 : decode cX3_gather 53 = .ok (.iaload, 1) := by decide +kernel
theorem dX3_gather_54 : decode cX3_gather 54 = .ok (.invokestatic 61, 3) := by decide +kernel
theorem dX3_gather_57 : decode cX3_gather 57 = .ok (.ireturn, 1) := by decide +kernel
set_option maxRecDepth 20000 in
theorem ggX3_event_X2_isHelper : GoodIn wsX3_event wsX2_isHelper := goodIn_r _ [7, 8, 78, 79, 80, 81, 82, 83, 84] (by decide +kernel) (by decide +kernel)
set_option maxRecDepth 20000 in
theorem gX3_event_X2_isHelper : GoodIn wsX3_event (wsV RX3 53 RX2 yX2_isHelper wsX2_isHelper) := goodIn_app (goodIn_of _ (by decide +kernel)) ggX3_event_X2_isHelper
set_option maxRecDepth 20000 in
theorem ggX3_event_X3_remember : GoodIn wsX3_event wsX3_remember := goodIn_r _ [13, 14, 15, 1, 16, 17, 18, 12, 19, 20, 21, 22, 6, 23, 8, 24, 25, 26, 27, 28, 29, 30, 31, 32, 33, 34, 35, 36, 37, 38, 39, 40, 41, 42, 70, 71, 72, 73, 74, 75, 76, 77, 78, 79, 80, 81, 82, 83, 84, 85, 86, 87] (by decide +kernel) (by decide +kernel)
set_option maxRecDepth 20000 in
theorem gX3_event_X3_remember : GoodIn wsX3_event (wsV RX3 67 RX3 yX3_remember wsX3_remember) := goodIn_app (goodIn_of _ (by decide +kernel)) ggX3_event_X3_remember
set_option maxRecDepth 20000 in
theorem ggX3_event_X2_addEvent : GoodIn wsX3_event wsX2_addEvent := goodIn_r _ [46, 33, 28, 8, 32, 47, 48, 49, 37, 50, 39, 51, 52, 53, 54, 55, 56, 57, 58, 59, 60, 61, 62, 63, 64, 65, 66, 67, 68, 69, 41, 42, 78, 79, 80, 81, 82, 83, 84, 85, 86, 87] (by decide +kernel) (by decide +kernel)
set_option maxRecDepth 20000 in
theorem gX3_event_X2_addEvent : GoodIn wsX3_event (wsV RX3 81 RX2 yX2_addEvent wsX2_addEvent) := goodIn_app (goodIn_of _ (by decide +kernel)) ggX3_event_X2_addEvent
theorem dX3_event_0 : decode cX3_event 0 = .ok (.aload_n 0, 1) := by decide +kernel
theorem dX3_event_1 : decode cX3_event 1 = .ok (.getfield 10, 3) := by decide +kernel
theorem dX3_event_4 : decode cX3_event 4 = .ok (.iload_n 1, 1) := by decide +kernel
theorem dX3_event_5 : decode cX3_event 5 = .ok (.invokevirtual 53, 3) := by decide +kernel
theorem dX3_event_8 : decode cX3_event 8 = .ok (.ifCond .ne 5, 3) := by decide +kernel
theorem dX3_event_11 : decode cX3_event 11 = .ok (.iconst (-1), 1) := by decide +kernel
theorem dX3_event_12 : decode cX3_event 12 = .ok (.ireturn, 1) := by decide +kernel
theorem dX3_event_13 : decode cX3_event 13 = .ok (.aload_n 0, 1) := by decide +kernel
theorem dX3_event_14 : decode cX3_event 14 = .ok (.getfield 10, 3) := by decide +kernel
theorem dX3_event_17 : decode cX3_event 17 = .ok (.getfield 77, 3) := by decide +kernel
theorem dX3_event_20 : decode cX3_event 20 = .ok (.bipush 120, 2) := by decide +kernel
theorem dX3_event_22 : decode cX3_event 22 = .ok (.if_icmp .lt 6, 3) := by decide +kernel
theorem dX3_event_25 : decode cX3_event 25 = .ok (.bipush (-4), 2) := by decide +kernel
theorem dX3_event_27 : decode cX3_event 27 = .ok (.ireturn, 1) := by decide +kernel
theorem dX3_event_28 : decode cX3_event 28 = .ok (.aload_n 0, 1) := by decide +kernel
theorem dX3_event_29 : decode cX3_event 29 = .ok (.invokevirtual 67, 3) := by decide +kernel
theorem dX3_event_32 : decode cX3_event 32 = .ok (.aload_n 0, 1) := by decide +kernel
theorem dX3_event_33 : decode cX3_event 33 = .ok (.getfield 10, 3) := by decide +kernel
theorem dX3_event_36 : decode cX3_event 36 = .ok (.iload_n 1, 1) := by decide +kernel
theorem dX3_event_37 : decode cX3_event 37 = .ok (.invokevirtual 81, 3) := by decide +kernel
theorem dX3_event_40 : decode cX3_event 40 = .ok (.ireturn, 1) := by decide +kernel
set_option maxRecDepth 20000 in
theorem ggX3_send_X2_isHelper : GoodIn wsX3_send wsX2_isHelper := goodIn_r _ [7, 8, 55, 56, 57, 58, 59, 60, 61] (by decide +kernel) (by decide +kernel)
set_option maxRecDepth 20000 in
theorem gX3_send_X2_isHelper : GoodIn wsX3_send (wsV RX3 53 RX2 yX2_isHelper wsX2_isHelper) := goodIn_app (goodIn_of _ (by decide +kernel)) ggX3_send_X2_isHelper
set_option maxRecDepth 20000 in
theorem ggX3_send_X3_remember : GoodIn wsX3_send wsX3_remember := goodIn_r _ [13, 14, 15, 1, 16, 17, 18, 12, 19, 20, 21, 22, 6, 23, 8, 24, 25, 26, 27, 28, 29, 30, 31, 32, 33, 34, 35, 36, 37, 38, 39, 40, 41, 42, 47, 48, 49, 50, 51, 52, 53, 54, 55, 56, 57, 58, 59, 60, 61, 62, 63, 64] (by decide +kernel) (by decide +kernel)
set_option maxRecDepth 20000 in
theorem gX3_send_X3_remember : GoodIn wsX3_send (wsV RX3 67 RX3 yX3_remember wsX3_remember) := goodIn_app (goodIn_of _ (by decide +kernel)) ggX3_send_X3_remember
set_option maxRecDepth 20000 in
theorem ggX3_send_X2_addMessage : GoodIn wsX3_send wsX2_addMessage := goodIn_r _ [46, 31, 30, 28, 29, 34, 35, 36, 37, 38, 39, 40, 25, 26, 27, 41, 42, 55, 56, 57, 58, 59, 60, 61, 62, 63, 64] (by decide +kernel) (by decide +kernel)
set_option maxRecDepth 20000 in
theorem gX3_send_X2_addMessage : GoodIn wsX3_send (wsV RX3 87 RX2 yX2_addMessage wsX2_addMessage) := goodIn_app (goodIn_of _ (by decide +kernel)) ggX3_send_X2_addMessage
theorem dX3_send_0 : decode cX3_send 0 = .ok (.aload_n 0, 1) := by decide +kernel
theorem dX3_send_1 : decode cX3_send 1 = .ok (.getfield 10, 3) := by decide +kernel
theorem dX3_send_4 : decode cX3_send 4 = .ok (.iload_n 1, 1) := by decide +kernel
theorem dX3_send_5 : decode cX3_send 5 = .ok (.invokevirtual 53, 3) := by decide +kernel
theorem dX3_send_8 : decode cX3_send 8 = .ok (.ifCond .ne 5, 3) := by decide +kernel
theorem dX3_send_11 : decode cX3_send 11 = .ok (.iconst (-1), 1) := by decide +kernel
theorem dX3_send_12 : decode cX3_send 12 = .ok (.ireturn, 1) := by decide +kernel
theorem dX3_send_13 : decode cX3_send 13 = .ok (.aload_n 0, 1) := by decide +kernel
theorem dX3_send_14 : decode cX3_send 14 = .ok (.getfield 10, 3) := by decide +kernel
theorem dX3_send_17 : decode cX3_send 17 = .ok (.getfield 84, 3) := by decide +kernel
theorem dX3_send_20 : decode cX3_send 20 = .ok (.bipush 8, 2) := by decide +kernel
theorem dX3_send_22 : decode cX3_send 22 = .ok (.if_icmp .lt 6, 3) := by decide +kernel
theorem dX3_send_25 : decode cX3_send 25 = .ok (.bipush (-4), 2) := by decide +kernel
theorem dX3_send_27 : decode cX3_send 27 = .ok (.ireturn, 1) := by decide +kernel
theorem dX3_send_28 : decode cX3_send 28 = .ok (.aload_n 0, 1) := by decide +kernel
theorem dX3_send_29 : decode cX3_send 29 = .ok (.invokevirtual 67, 3) := by decide +kernel
theorem dX3_send_32 : decode cX3_send 32 = .ok (.aload_n 0, 1) := by decide +kernel
theorem dX3_send_33 : decode cX3_send 33 = .ok (.getfield 10, 3) := by decide +kernel
theorem dX3_send_36 : decode cX3_send 36 = .ok (.iload_n 1, 1) := by decide +kernel
theorem dX3_send_37 : decode cX3_send 37 = .ok (.invokevirtual 87, 3) := by decide +kernel
theorem dX3_send_40 : decode cX3_send 40 = .ok (.ireturn, 1) := by decide +kernel
set_option maxRecDepth 20000 in
theorem ggX3_receive_X2_isHelper : GoodIn wsX3_receive wsX2_isHelper := goodIn_r _ [9, 10, 88, 89, 90, 91, 92, 93, 94] (by decide +kernel) (by decide +kernel)
set_option maxRecDepth 20000 in
theorem gX3_receive_X2_isHelper : GoodIn wsX3_receive (wsV RX3 53 RX2 yX2_isHelper wsX2_isHelper) := goodIn_app (goodIn_of _ (by decide +kernel)) ggX3_receive_X2_isHelper
set_option maxRecDepth 20000 in
theorem ggX3_receive_X2_isMessage : GoodIn wsX3_receive wsX2_isMessage := goodIn_r _ [14, 15, 88, 89, 90, 91, 92, 93, 94] (by decide +kernel) (by decide +kernel)
set_option maxRecDepth 20000 in
theorem gX3_receive_X2_isMessage : GoodIn wsX3_receive (wsV RX3 90 RX2 yX2_isMessage wsX2_isMessage) := goodIn_app (goodIn_of _ (by decide +kernel)) ggX3_receive_X2_isMessage
set_option maxRecDepth 20000 in
theorem ggX3_receive_X3_remember : GoodIn wsX3_receive wsX3_remember := goodIn_r _ [20, 21, 22, 1, 23, 24, 25, 19, 26, 27, 28, 29, 8, 30, 10, 31, 32, 33, 34, 35, 36, 37, 15, 38, 39, 40, 41, 42, 43, 44, 45, 46, 47, 48, 80, 81, 82, 83, 84, 85, 86, 87, 88, 89, 90, 91, 92, 93, 94, 95, 96, 97] (by decide +kernel) (by decide +kernel)
set_option maxRecDepth 20000 in
theorem gX3_receive_X3_remember : GoodIn wsX3_receive (wsV RX3 67 RX3 yX3_remember wsX3_remember) := goodIn_app (goodIn_of _ (by decide +kernel)) ggX3_receive_X3_remember
set_option maxRecDepth 20000 in
theorem ggX3_receive_X1_takeOver : GoodIn wsX3_receive wsX1_takeOver := goodIn_r _ [52, 45, 53, 54, 55, 56, 47, 48, 95, 96, 97] (by decide +kernel) (by decide +kernel)
set_option maxRecDepth 20000 in
theorem gX3_receive_X1_takeOver : GoodIn wsX3_receive (wsV RX3 100 RX1 yX1_takeOver wsX1_takeOver) := goodIn_app (goodIn_of _ (by decide +kernel)) ggX3_receive_X1_takeOver
set_option maxRecDepth 20000 in
theorem ggX3_receive_X2_addEvent : GoodIn wsX3_receive wsX2_addEvent := goodIn_r _ [60, 39, 35, 10, 38, 61, 62, 63, 43, 64, 45, 65, 66, 67, 68, 53, 54, 55, 56, 69, 70, 71, 72, 73, 74, 75, 76, 77, 78, 79, 47, 48, 88, 89, 90, 91, 92, 93, 94, 95, 96, 97] (by decide +kernel) (by decide +kernel)
set_option maxRecDepth 20000 in
theorem gX3_receive_X2_addEvent : GoodIn wsX3_receive (wsV RX3 81 RX2 yX2_addEvent wsX2_addEvent) := goodIn_app (goodIn_of _ (by decide +kernel)) ggX3_receive_X2_addEvent
theorem dX3_receive_0 : decode cX3_receive 0 = .ok (.aload_n 0, 1) := by decide +kernel
theorem dX3_receive_1 : decode cX3_receive 1 = .ok (.getfield 10, 3) := by decide +kernel
theorem dX3_receive_4 : decode cX3_receive 4 = .ok (.iload_n 1, 1) := by decide +kernel
theorem dX3_receive_5 : decode cX3_receive 5 = .ok (.invokevirtual 53, 3) := by decide +kernel
theorem dX3_receive_8 : decode cX3_receive 8 = .ok (.ifCond .eq 14, 3) := by decide +kernel
theorem dX3_receive_11 : decode cX3_receive 11 = .ok (.aload_n 0, 1) := by decide +kernel
theorem dX3_receive_12 : decode cX3_receive 12 = .ok (.getfield 10, 3) := by decide +kernel
theorem dX3_receive_15 : decode cX3_receive 15 = .ok (.iload_n 2, 1) := by decide +kernel
theorem dX3_receive_16 : decode cX3_receive 16 = .ok (.invokevirtual 90, 3) := by decide +kernel
theorem dX3_receive_19 : decode cX3_receive 19 = .ok (.ifCond .ne 5, 3) := by decide +kernel
theorem dX3_receive_22 : decode cX3_receive 22 = .ok (.iconst (-1), 1) := by decide +kernel
theorem dX3_receive_23 : decode cX3_receive 23 = .ok (.ireturn, 1) := by decide +kernel
theorem dX3_receive_24 : decode cX3_receive 24 = .ok (.aload_n 0, 1) := by decide +kernel
theorem dX3_receive_25 : decode cX3_receive 25 = .ok (.getfield 10, 3) := by decide +kernel
theorem dX3_receive_28 : decode cX3_receive 28 = .ok (.getfield 77, 3) := by decide +kernel
theorem dX3_receive_31 : decode cX3_receive 31 = .ok (.bipush 120, 2) := by decide +kernel
theorem dX3_receive_33 : decode cX3_receive 33 = .ok (.if_icmp .lt 6, 3) := by decide +kernel
theorem dX3_receive_36 : decode cX3_receive 36 = .ok (.bipush (-4), 2) := by decide +kernel
theorem dX3_receive_38 : decode cX3_receive 38 = .ok (.ireturn, 1) := by decide +kernel
theorem dX3_receive_39 : decode cX3_receive 39 = .ok (.aload_n 0, 1) := by decide +kernel
theorem dX3_receive_40 : decode cX3_receive 40 = .ok (.invokevirtual 67, 3) := by decide +kernel
theorem dX3_receive_43 : decode cX3_receive 43 = .ok (.aload_n 0, 1) := by decide +kernel
theorem dX3_receive_44 : decode cX3_receive 44 = .ok (.getfield 10, 3) := by decide +kernel
theorem dX3_receive_47 : decode cX3_receive 47 = .ok (.getfield 93, 3) := by decide +kernel
theorem dX3_receive_50 : decode cX3_receive 50 = .ok (.iload_n 1, 1) := by decide +kernel
theorem dX3_receive_51 : decode cX3_receive 51 = .ok (.aaload, 1) := by decide +kernel
theorem dX3_receive_52 : decode cX3_receive 52 = .ok (.aload_n 0, 1) := by decide +kernel
theorem dX3_receive_53 : decode cX3_receive 53 = .ok (.getfield 10, 3) := by decide +kernel
theorem dX3_receive_56 : decode cX3_receive 56 = .ok (.getfield 97, 3) := by decide +kernel
theorem dX3_receive_59 : decode cX3_receive 59 = .ok (.iload_n 2, 1) := by decide +kernel
theorem dX3_receive_60 : decode cX3_receive 60 = .ok (.aaload, 1) := by decide +kernel
theorem dX3_receive_61 : decode cX3_receive 61 = .ok (.invokevirtual 100, 3) := by decide +kernel
theorem dX3_receive_64 : decode cX3_receive 64 = .ok (.aload_n 0, 1) := by decide +kernel
theorem dX3_receive_65 : decode cX3_receive 65 = .ok (.getfield 10, 3) := by decide +kernel
theorem dX3_receive_68 : decode cX3_receive 68 = .ok (.iload_n 1, 1) := by decide +kernel
theorem dX3_receive_69 : decode cX3_receive 69 = .ok (.invokevirtual 81, 3) := by decide +kernel
theorem dX3_receive_72 : decode cX3_receive 72 = .ok (.ireturn, 1) := by decide +kernel
set_option maxRecDepth 20000 in
theorem ggX3_drop_X2_isMessage : GoodIn wsX3_drop wsX2_isMessage := goodIn_r _ [7, 8, 55, 56, 57, 58, 59, 60, 61] (by decide +kernel) (by decide +kernel)
set_option maxRecDepth 20000 in
theorem gX3_drop_X2_isMessage : GoodIn wsX3_drop (wsV RX3 90 RX2 yX2_isMessage wsX2_isMessage) := goodIn_app (goodIn_of _ (by decide +kernel)) ggX3_drop_X2_isMessage
set_option maxRecDepth 20000 in
theorem ggX3_drop_X3_remember : GoodIn wsX3_drop wsX3_remember := goodIn_r _ [13, 14, 15, 1, 16, 17, 18, 12, 19, 20, 21, 22, 6, 23, 24, 25, 26, 27, 28, 29, 30, 31, 8, 32, 33, 34, 35, 36, 37, 38, 39, 40, 41, 42, 47, 48, 49, 50, 51, 52, 53, 54, 55, 56, 57, 58, 59, 60, 61, 62, 63, 64] (by decide +kernel) (by decide +kernel)
set_option maxRecDepth 20000 in
theorem gX3_drop_X3_remember : GoodIn wsX3_drop (wsV RX3 67 RX3 yX3_remember wsX3_remember) := goodIn_app (goodIn_of _ (by decide +kernel)) ggX3_drop_X3_remember
set_option maxRecDepth 20000 in
theorem ggX3_drop_X2_removeMessage : GoodIn wsX3_drop wsX2_removeMessage := goodIn_r _ [46, 8, 31, 30, 34, 35, 36, 37, 38, 39, 40, 26, 27, 28, 41, 42, 55, 56, 57, 58, 59, 60, 61, 62, 63, 64] (by decide +kernel) (by decide +kernel)
set_option maxRecDepth 20000 in
theorem gX3_drop_X2_removeMessage : GoodIn wsX3_drop (wsV RX3 104 RX2 yX2_removeMessage wsX2_removeMessage) := goodIn_app (goodIn_of _ (by decide +kernel)) ggX3_drop_X2_removeMessage
theorem dX3_drop_0 : decode cX3_drop 0 = .ok (.aload_n 0, 1) := by decide +kernel
theorem dX3_drop_1 : decode cX3_drop 1 = .ok (.getfield 10, 3) := by decide +kernel
theorem dX3_drop_4 : decode cX3_drop 4 = .ok (.iload_n 1, 1) := by decide +kernel
theorem dX3_drop_5 : decode cX3_drop 5 = .ok (.invokevirtual 90, 3) := by decide +kernel
theorem dX3_drop_8 : decode cX3_drop 8 = .ok (.ifCond .ne 5, 3) := by decide +kernel
theorem dX3_drop_11 : decode cX3_drop 11 = .ok (.iconst (-1), 1) := by decide +kernel
theorem dX3_drop_12 : decode cX3_drop 12 = .ok (.ireturn, 1) := by decide +kernel
theorem dX3_drop_13 : decode cX3_drop 13 = .ok (.aload_n 0, 1) := by decide +kernel
theorem dX3_drop_14 : decode cX3_drop 14 = .ok (.invokevirtual 67, 3) := by decide +kernel
theorem dX3_drop_17 : decode cX3_drop 17 = .ok (.aload_n 0, 1) := by decide +kernel
theorem dX3_drop_18 : decode cX3_drop 18 = .ok (.getfield 10, 3) := by decide +kernel
theorem dX3_drop_21 : decode cX3_drop 21 = .ok (.iload_n 1, 1) := by decide +kernel
theorem dX3_drop_22 : decode cX3_drop 22 = .ok (.invokevirtual 104, 3) := by decide +kernel
theorem dX3_drop_25 : decode cX3_drop 25 = .ok (.aload_n 0, 1) := by decide +kernel
theorem dX3_drop_26 : decode cX3_drop 26 = .ok (.getfield 10, 3) := by decide +kernel
theorem dX3_drop_29 : decode cX3_drop 29 = .ok (.getfield 84, 3) := by decide +kernel
theorem dX3_drop_32 : decode cX3_drop 32 = .ok (.ireturn, 1) := by decide +kernel
set_option maxRecDepth 20000 in
theorem ggX3_of_X2_isHelper : GoodIn wsX3_of wsX2_isHelper := goodIn_r _ [9, 10, 264, 265, 266, 267, 268, 269, 270] (by decide +kernel) (by decide +kernel)
set_option maxRecDepth 20000 in
theorem gX3_of_X2_isHelper : GoodIn wsX3_of (wsV RX3 53 RX2 yX2_isHelper wsX2_isHelper) := goodIn_app (goodIn_of _ (by decide +kernel)) ggX3_of_X2_isHelper
set_option maxRecDepth 20000 in
theorem ggX3_of_J6_bitCount_0f7a4 : GoodIn wsX3_of wsJ6_bitCount_0f7a4 := goodIn_r _ [14, 15, 16, 17] (by decide +kernel) (by decide +kernel)
set_option maxRecDepth 20000 in
theorem gX3_of_J6_bitCount_0f7a4 : GoodIn wsX3_of (va_wsS RX3 61 yJ6_bitCount_0f7a4 wsJ6_bitCount_0f7a4) := goodIn_app (goodIn_of _ (by decide +kernel)) ggX3_of_J6_bitCount_0f7a4
set_option maxRecDepth 20000 in
theorem ggX3_of_X1_greatestIn : GoodIn wsX3_of wsX1_greatestIn := goodIn_r _ [22, 23, 24, 25, 26, 27, 28, 29, 21, 30, 271, 272, 273] (by decide +kernel) (by decide +kernel)
set_option maxRecDepth 20000 in
theorem gX3_of_X1_greatestIn : GoodIn wsX3_of (wsV RX3 108 RX1 yX1_greatestIn wsX1_greatestIn) := goodIn_app (goodIn_of _ (by decide +kernel)) ggX3_of_X1_greatestIn
set_option maxRecDepth 20000 in
theorem ggX3_of_X1_sum : GoodIn wsX3_of wsX1_sum := goodIn_r _ [34, 23, 271, 272, 273] (by decide +kernel) (by decide +kernel)
set_option maxRecDepth 20000 in
theorem gX3_of_X1_sum : GoodIn wsX3_of (wsV RX3 111 RX1 yX1_sum wsX1_sum) := goodIn_app (goodIn_of _ (by decide +kernel)) ggX3_of_X1_sum
set_option maxRecDepth 20000 in
theorem ggX3_of_X1_knownCount : GoodIn wsX3_of wsX1_knownCount := goodIn_r _ [38, 39, 40, 41, 42, 43, 44, 45, 46, 47, 271, 272, 273] (by decide +kernel) (by decide +kernel)
set_option maxRecDepth 20000 in
theorem gX3_of_X1_knownCount : GoodIn wsX3_of (wsV RX3 114 RX1 yX1_knownCount wsX1_knownCount) := goodIn_app (goodIn_of _ (by decide +kernel)) ggX3_of_X1_knownCount
set_option maxRecDepth 20000 in
theorem ggX3_of_X1_latestKnown : GoodIn wsX3_of wsX1_latestKnown := goodIn_r _ [51, 52, 53, 54, 21, 55, 39, 40, 271, 272, 273] (by decide +kernel) (by decide +kernel)
set_option maxRecDepth 20000 in
theorem gX3_of_X1_latestKnown : GoodIn wsX3_of (wsV RX3 117 RX1 yX1_latestKnown wsX1_latestKnown) := goodIn_app (goodIn_of _ (by decide +kernel)) ggX3_of_X1_latestKnown
set_option maxRecDepth 20000 in
theorem ggX3_of_X1_knots : GoodIn wsX3_of wsX1_knots := goodIn_r _ [59, 23, 60, 61, 21, 62, 63, 64, 65, 271, 272, 273] (by decide +kernel) (by decide +kernel)
set_option maxRecDepth 20000 in
theorem gX3_of_X1_knots : GoodIn wsX3_of (wsV RX3 120 RX1 yX1_knots wsX1_knots) := goodIn_app (goodIn_of _ (by decide +kernel)) ggX3_of_X1_knots
set_option maxRecDepth 20000 in
theorem ggX3_of_X3_textOf : GoodIn wsX3_of wsX3_textOf := goodIn_r _ [70, 71, 72, 73, 74, 75, 76, 77, 78, 79, 80, 81, 82, 83, 84, 85, 86, 87, 88, 89, 90, 91, 92, 93, 94, 95, 96, 97, 98, 99, 100, 101, 102, 25, 26, 27, 103, 104, 105, 106, 107, 108, 109, 110, 111, 112, 113, 114, 115, 116, 117, 118, 119, 120, 121, 122, 123, 124, 125, 126, 127, 128, 129, 130, 131, 132, 133, 134, 135, 136, 137, 138, 139, 140, 141, 142, 143, 144, 145, 146, 147, 148, 21, 149, 23, 150, 151, 152, 63, 64, 65, 153, 154, 155, 156, 157, 158, 159, 160, 161, 162, 13, 163, 164, 165, 166, 167, 168, 169, 170, 171, 172, 173, 174, 175, 176, 177, 178, 179, 180, 181, 182, 183, 184, 185, 186, 187, 188, 189, 190, 191, 192, 193, 194, 195, 196, 197, 198, 199, 200, 201, 202, 203, 204, 205, 206, 207, 208, 209, 210, 211, 212, 213, 214, 215, 216, 217, 218, 219, 220, 221, 222, 223, 224, 225, 226, 227, 228, 229, 230, 231, 232, 233, 234, 235, 236, 237, 238, 239, 240, 241, 242, 243, 244, 245, 246, 247, 256, 257, 258, 259, 260, 261, 262, 263, 274, 275, 276, 277, 271, 272, 273] (by decide +kernel) (by decide +kernel)
set_option maxRecDepth 20000 in
theorem gX3_of_X3_textOf : GoodIn wsX3_of (wsV RX3 123 RX3 yX3_textOf wsX3_textOf) := goodIn_app (goodIn_of _ (by decide +kernel)) ggX3_of_X3_textOf
set_option maxRecDepth 20000 in
theorem ggX3_of_J4_length_8abf5 : GoodIn wsX3_of wsJ4_length_8abf5 := goodIn_r _ [251, 252, 253, 79, 254, 81, 255, 83, 274, 275, 276, 277] (by decide +kernel) (by decide +kernel)
set_option maxRecDepth 20000 in
theorem gX3_of_J4_length_8abf5 : GoodIn wsX3_of (wsV RX3 127 RJ4 yJ4_length_8abf5 wsJ4_length_8abf5) := goodIn_app (goodIn_of _ (by decide +kernel)) ggX3_of_J4_length_8abf5
theorem dX3_of_0 : decode cX3_of 0 = .ok (.aload_n 0, 1) := by decide +kernel
theorem dX3_of_1 : decode cX3_of 1 = .ok (.getfield 10, 3) := by decide +kernel
theorem dX3_of_4 : decode cX3_of 4 = .ok (.iload_n 1, 1) := by decide +kernel
theorem dX3_of_5 : decode cX3_of 5 = .ok (.invokevirtual 53, 3) := by decide +kernel
theorem dX3_of_8 : decode cX3_of 8 = .ok (.ifCond .ne 5, 3) := by decide +kernel
theorem dX3_of_11 : decode cX3_of 11 = .ok (.iconst (-1), 1) := by decide +kernel
theorem dX3_of_12 : decode cX3_of 12 = .ok (.ireturn, 1) := by decide +kernel
theorem dX3_of_13 : decode cX3_of 13 = .ok (.aload_n 0, 1) := by decide +kernel
theorem dX3_of_14 : decode cX3_of 14 = .ok (.getfield 10, 3) := by decide +kernel
theorem dX3_of_17 : decode cX3_of 17 = .ok (.getfield 93, 3) := by decide +kernel
theorem dX3_of_20 : decode cX3_of 20 = .ok (.iload_n 1, 1) := by decide +kernel
theorem dX3_of_21 : decode cX3_of 21 = .ok (.aaload, 1) := by decide +kernel
theorem dX3_of_22 : decode cX3_of 22 = .ok (.astore_n 3, 1) := by decide +kernel
theorem dX3_of_23 : decode cX3_of 23 = .ok (.iload_n 2, 1) := by decide +kernel
theorem dX3_of_24 : decode cX3_of 24 = .ok (.tableswitch 107 0 7 #[48, 58, 71, 78, 83, 88, 93, 98], 48) := by decide +kernel
theorem dX3_of_72 : decode cX3_of 72 = .ok (.aload_n 0, 1) := by decide +kernel
theorem dX3_of_73 : decode cX3_of 73 = .ok (.getfield 10, 3) := by decide +kernel
theorem dX3_of_76 : decode cX3_of 76 = .ok (.getfield 48, 3) := by decide +kernel
theorem dX3_of_79 : decode cX3_of 79 = .ok (.iload_n 1, 1) := by decide +kernel
theorem dX3_of_80 : decode cX3_of 80 = .ok (.iaload, 1) := by decide +kernel
theorem dX3_of_81 : decode cX3_of 81 = .ok (.ireturn, 1) := by decide +kernel
theorem dX3_of_82 : decode cX3_of 82 = .ok (.aload_n 0, 1) := by decide +kernel
theorem dX3_of_83 : decode cX3_of 83 = .ok (.getfield 10, 3) := by decide +kernel
theorem dX3_of_86 : decode cX3_of 86 = .ok (.getfield 48, 3) := by decide +kernel
theorem dX3_of_89 : decode cX3_of 89 = .ok (.iload_n 1, 1) := by decide +kernel
theorem dX3_of_90 : decode cX3_of 90 = .ok (.iaload, 1) := by decide +kernel
theorem dX3_of_91 : decode cX3_of 91 = .ok (.invokestatic 61, 3) := by decide +kernel
theorem dX3_of_94 : decode cX3_of 94 = .ok (.ireturn, 1) := by decide +kernel
theorem dX3_of_95 : decode cX3_of 95 = .ok (.aload_n 3, 1) := by decide +kernel
theorem dX3_of_96 : decode cX3_of 96 = .ok (.ldc 52, 2) := by decide +kernel
theorem dX3_of_98 : decode cX3_of 98 = .ok (.invokevirtual 108, 3) := by decide +kernel
theorem dX3_of_101 : decode cX3_of 101 = .ok (.ireturn, 1) := by decide +kernel
theorem dX3_of_102 : decode cX3_of 102 = .ok (.aload_n 3, 1) := by decide +kernel
theorem dX3_of_103 : decode cX3_of 103 = .ok (.invokevirtual 111, 3) := by decide +kernel
theorem dX3_of_106 : decode cX3_of 106 = .ok (.ireturn, 1) := by decide +kernel
theorem dX3_of_107 : decode cX3_of 107 = .ok (.aload_n 3, 1) := by decide +kernel
theorem dX3_of_108 : decode cX3_of 108 = .ok (.invokevirtual 114, 3) := by decide +kernel
theorem dX3_of_111 : decode cX3_of 111 = .ok (.ireturn, 1) := by decide +kernel
theorem dX3_of_112 : decode cX3_of 112 = .ok (.aload_n 3, 1) := by decide +kernel
theorem dX3_of_113 : decode cX3_of 113 = .ok (.invokevirtual 117, 3) := by decide +kernel
theorem dX3_of_116 : decode cX3_of 116 = .ok (.ireturn, 1) := by decide +kernel
theorem dX3_of_117 : decode cX3_of 117 = .ok (.aload_n 3, 1) := by decide +kernel
theorem dX3_of_118 : decode cX3_of 118 = .ok (.invokevirtual 120, 3) := by decide +kernel
theorem dX3_of_121 : decode cX3_of 121 = .ok (.ireturn, 1) := by decide +kernel
theorem dX3_of_122 : decode cX3_of 122 = .ok (.aload_n 0, 1) := by decide +kernel
theorem dX3_of_123 : decode cX3_of 123 = .ok (.aload_n 3, 1) := by decide +kernel
theorem dX3_of_124 : decode cX3_of 124 = .ok (.invokevirtual 123, 3) := by decide +kernel
theorem dX3_of_127 : decode cX3_of 127 = .ok (.invokevirtual 127, 3) := by decide +kernel
theorem dX3_of_130 : decode cX3_of 130 = .ok (.ireturn, 1) := by decide +kernel
theorem dX3_of_131 : decode cX3_of 131 = .ok (.bipush (-2), 2) := by decide +kernel
theorem dX3_of_133 : decode cX3_of 133 = .ok (.ireturn, 1) := by decide +kernel
set_option maxRecDepth 20000 in
theorem ggX3_ofMessage_X2_isMessage : GoodIn wsX3_ofMessage wsX2_isMessage := goodIn_r _ [8, 9, 47, 48, 49, 50, 51, 52, 53] (by decide +kernel) (by decide +kernel)
set_option maxRecDepth 20000 in
theorem gX3_ofMessage_X2_isMessage : GoodIn wsX3_ofMessage (wsV RX3 90 RX2 yX2_isMessage wsX2_isMessage) := goodIn_app (goodIn_of _ (by decide +kernel)) ggX3_ofMessage_X2_isMessage
set_option maxRecDepth 20000 in
theorem ggX3_ofMessage_X1_sum : GoodIn wsX3_ofMessage wsX1_sum := goodIn_r _ [14, 15, 54, 55, 56] (by decide +kernel) (by decide +kernel)
set_option maxRecDepth 20000 in
theorem gX3_ofMessage_X1_sum : GoodIn wsX3_ofMessage (wsV RX3 111 RX1 yX1_sum wsX1_sum) := goodIn_app (goodIn_of _ (by decide +kernel)) ggX3_ofMessage_X1_sum
set_option maxRecDepth 20000 in
theorem ggX3_ofMessage_X1_knownCount : GoodIn wsX3_ofMessage wsX1_knownCount := goodIn_r _ [19, 20, 21, 22, 23, 24, 25, 26, 27, 28, 54, 55, 56] (by decide +kernel) (by decide +kernel)
set_option maxRecDepth 20000 in
theorem gX3_ofMessage_X1_knownCount : GoodIn wsX3_ofMessage (wsV RX3 114 RX1 yX1_knownCount wsX1_knownCount) := goodIn_app (goodIn_of _ (by decide +kernel)) ggX3_ofMessage_X1_knownCount
set_option maxRecDepth 20000 in
theorem ggX3_ofMessage_X1_knots : GoodIn wsX3_ofMessage wsX1_knots := goodIn_r _ [32, 15, 33, 34, 13, 35, 36, 37, 38, 54, 55, 56] (by decide +kernel) (by decide +kernel)
set_option maxRecDepth 20000 in
theorem gX3_ofMessage_X1_knots : GoodIn wsX3_ofMessage (wsV RX3 120 RX1 yX1_knots wsX1_knots) := goodIn_app (goodIn_of _ (by decide +kernel)) ggX3_ofMessage_X1_knots
theorem dX3_ofMessage_0 : decode cX3_ofMessage 0 = .ok (.aload_n 0, 1) := by decide +kernel
theorem dX3_ofMessage_1 : decode cX3_ofMessage 1 = .ok (.getfield 10, 3) := by decide +kernel
theorem dX3_ofMessage_4 : decode cX3_ofMessage 4 = .ok (.iload_n 1, 1) := by decide +kernel
theorem dX3_ofMessage_5 : decode cX3_ofMessage 5 = .ok (.invokevirtual 90, 3) := by decide +kernel
theorem dX3_ofMessage_8 : decode cX3_ofMessage 8 = .ok (.ifCond .ne 5, 3) := by decide +kernel
theorem dX3_ofMessage_11 : decode cX3_ofMessage 11 = .ok (.iconst (-1), 1) := by decide +kernel
theorem dX3_ofMessage_12 : decode cX3_ofMessage 12 = .ok (.ireturn, 1) := by decide +kernel
theorem dX3_ofMessage_13 : decode cX3_ofMessage 13 = .ok (.aload_n 0, 1) := by decide +kernel
theorem dX3_ofMessage_14 : decode cX3_ofMessage 14 = .ok (.getfield 10, 3) := by decide +kernel
theorem dX3_ofMessage_17 : decode cX3_ofMessage 17 = .ok (.getfield 97, 3) := by decide +kernel
theorem dX3_ofMessage_20 : decode cX3_ofMessage 20 = .ok (.iload_n 1, 1) := by decide +kernel
theorem dX3_ofMessage_21 : decode cX3_ofMessage 21 = .ok (.aaload, 1) := by decide +kernel
theorem dX3_ofMessage_22 : decode cX3_ofMessage 22 = .ok (.astore_n 3, 1) := by decide +kernel
theorem dX3_ofMessage_23 : decode cX3_ofMessage 23 = .ok (.iload_n 2, 1) := by decide +kernel
theorem dX3_ofMessage_24 : decode cX3_ofMessage 24 = .ok (.tableswitch 57 0 3 #[32, 42, 47, 52], 32) := by decide +kernel
theorem dX3_ofMessage_56 : decode cX3_ofMessage 56 = .ok (.aload_n 0, 1) := by decide +kernel
theorem dX3_ofMessage_57 : decode cX3_ofMessage 57 = .ok (.getfield 10, 3) := by decide +kernel
theorem dX3_ofMessage_60 : decode cX3_ofMessage 60 = .ok (.getfield 130, 3) := by decide +kernel
theorem dX3_ofMessage_63 : decode cX3_ofMessage 63 = .ok (.iload_n 1, 1) := by decide +kernel
theorem dX3_ofMessage_64 : decode cX3_ofMessage 64 = .ok (.iaload, 1) := by decide +kernel
theorem dX3_ofMessage_65 : decode cX3_ofMessage 65 = .ok (.ireturn, 1) := by decide +kernel
theorem dX3_ofMessage_66 : decode cX3_ofMessage 66 = .ok (.aload_n 3, 1) := by decide +kernel
theorem dX3_ofMessage_67 : decode cX3_ofMessage 67 = .ok (.invokevirtual 111, 3) := by decide +kernel
theorem dX3_ofMessage_70 : decode cX3_ofMessage 70 = .ok (.ireturn, 1) := by decide +kernel
theorem dX3_ofMessage_71 : decode cX3_ofMessage 71 = .ok (.aload_n 3, 1) := by decide +kernel
theorem dX3_ofMessage_72 : decode cX3_ofMessage 72 = .ok (.invokevirtual 114, 3) := by decide +kernel
theorem dX3_ofMessage_75 : decode cX3_ofMessage 75 = .ok (.ireturn, 1) := by decide +kernel
theorem dX3_ofMessage_76 : decode cX3_ofMessage 76 = .ok (.aload_n 3, 1) := by decide +kernel
theorem dX3_ofMessage_77 : decode cX3_ofMessage 77 = .ok (.invokevirtual 120, 3) := by decide +kernel
theorem dX3_ofMessage_80 : decode cX3_ofMessage 80 = .ok (.ireturn, 1) := by decide +kernel
theorem dX3_ofMessage_81 : decode cX3_ofMessage 81 = .ok (.bipush (-2), 2) := by decide +kernel
theorem dX3_ofMessage_83 : decode cX3_ofMessage 83 = .ok (.ireturn, 1) := by decide +kernel
set_option maxRecDepth 20000 in
theorem ggX3_height_X3_isKind : GoodIn wsX3_height wsX3_isKind := goodIn_r _ [6] (by decide +kernel) (by decide +kernel)
set_option maxRecDepth 20000 in
theorem gX3_height_X3_isKind : GoodIn wsX3_height (va_wsS RX3 133 yX3_isKind wsX3_isKind) := goodIn_app (goodIn_of _ (by decide +kernel)) ggX3_height_X3_isKind
set_option maxRecDepth 20000 in
theorem ggX3_height_X2_stampOf : GoodIn wsX3_height wsX2_stampOf := goodIn_r _ [11, 12, 13, 14, 15, 16, 10, 17, 18, 19, 20, 21, 22, 23, 35, 36, 37, 38, 39, 40, 41] (by decide +kernel) (by decide +kernel)
set_option maxRecDepth 20000 in
theorem gX3_height_X2_stampOf : GoodIn wsX3_height (wsV RX3 136 RX2 yX2_stampOf wsX2_stampOf) := goodIn_app (goodIn_of _ (by decide +kernel)) ggX3_height_X2_stampOf
theorem dX3_height_0 : decode cX3_height 0 = .ok (.iload_n 1, 1) := by decide +kernel
theorem dX3_height_1 : decode cX3_height 1 = .ok (.invokestatic 133, 3) := by decide +kernel
theorem dX3_height_4 : decode cX3_height 4 = .ok (.ifCond .ne 6, 3) := by decide +kernel
theorem dX3_height_7 : decode cX3_height 7 = .ok (.bipush (-2), 2) := by decide +kernel
theorem dX3_height_9 : decode cX3_height 9 = .ok (.ireturn, 1) := by decide +kernel
theorem dX3_height_10 : decode cX3_height 10 = .ok (.aload_n 0, 1) := by decide +kernel
theorem dX3_height_11 : decode cX3_height 11 = .ok (.getfield 10, 3) := by decide +kernel
theorem dX3_height_14 : decode cX3_height 14 = .ok (.iload_n 1, 1) := by decide +kernel
theorem dX3_height_15 : decode cX3_height 15 = .ok (.iload_n 2, 1) := by decide +kernel
theorem dX3_height_16 : decode cX3_height 16 = .ok (.invokevirtual 136, 3) := by decide +kernel
theorem dX3_height_19 : decode cX3_height 19 = .ok (.astore 4, 2) := by decide +kernel
theorem dX3_height_21 : decode cX3_height 21 = .ok (.aload 4, 2) := by decide +kernel
theorem dX3_height_23 : decode cX3_height 23 = .ok (.ifnull 13, 3) := by decide +kernel
theorem dX3_height_26 : decode cX3_height 26 = .ok (.iload_n 3, 1) := by decide +kernel
theorem dX3_height_27 : decode cX3_height 27 = .ok (.ifCond .lt 9, 3) := by decide +kernel
theorem dX3_height_30 : decode cX3_height 30 = .ok (.iload_n 3, 1) := by decide +kernel
theorem dX3_height_31 : decode cX3_height 31 = .ok (.bipush 16, 2) := by decide +kernel
theorem dX3_height_33 : decode cX3_height 33 = .ok (.if_icmp .lt 5, 3) := by decide +kernel
theorem dX3_height_36 : decode cX3_height 36 = .ok (.iconst (-1), 1) := by decide +kernel
theorem dX3_height_37 : decode cX3_height 37 = .ok (.ireturn, 1) := by decide +kernel
theorem dX3_height_38 : decode cX3_height 38 = .ok (.aload 4, 2) := by decide +kernel
theorem dX3_height_40 : decode cX3_height 40 = .ok (.getfield 140, 3) := by decide +kernel
theorem dX3_height_43 : decode cX3_height 43 = .ok (.iload_n 3, 1) := by decide +kernel
theorem dX3_height_44 : decode cX3_height 44 = .ok (.iaload, 1) := by decide +kernel
theorem dX3_height_45 : decode cX3_height 45 = .ok (.ireturn, 1) := by decide +kernel
set_option maxRecDepth 20000 in
theorem ggX3_knows_X3_isKind : GoodIn wsX3_knows wsX3_isKind := goodIn_r _ [5] (by decide +kernel) (by decide +kernel)
set_option maxRecDepth 20000 in
theorem gX3_knows_X3_isKind : GoodIn wsX3_knows (va_wsS RX3 133 yX3_isKind wsX3_isKind) := goodIn_app (goodIn_of _ (by decide +kernel)) ggX3_knows_X3_isKind
set_option maxRecDepth 20000 in
theorem ggX3_knows_X2_stampOf : GoodIn wsX3_knows wsX2_stampOf := goodIn_r _ [10, 11, 12, 13, 14, 15, 9, 16, 17, 18, 19, 20, 21, 22, 43, 44, 45, 46, 47, 48, 49] (by decide +kernel) (by decide +kernel)
set_option maxRecDepth 20000 in
theorem gX3_knows_X2_stampOf : GoodIn wsX3_knows (wsV RX3 136 RX2 yX2_stampOf wsX2_stampOf) := goodIn_app (goodIn_of _ (by decide +kernel)) ggX3_knows_X2_stampOf
set_option maxRecDepth 20000 in
theorem ggX3_knows_X2_isEvent : GoodIn wsX3_knows wsX2_isEvent := goodIn_r _ [26, 27, 43, 44, 45, 46, 47, 48, 49] (by decide +kernel) (by decide +kernel)
set_option maxRecDepth 20000 in
theorem gX3_knows_X2_isEvent : GoodIn wsX3_knows (wsV RX3 143 RX2 yX2_isEvent wsX2_isEvent) := goodIn_app (goodIn_of _ (by decide +kernel)) ggX3_knows_X2_isEvent
set_option maxRecDepth 20000 in
theorem ggX3_knows_X1_isKnown : GoodIn wsX3_knows wsX1_isKnown := goodIn_r _ [32, 33, 34, 50, 51, 52] (by decide +kernel) (by decide +kernel)
set_option maxRecDepth 20000 in
theorem gX3_knows_X1_isKnown : GoodIn wsX3_knows (wsV RX3 146 RX1 yX1_isKnown wsX1_isKnown) := goodIn_app (goodIn_of _ (by decide +kernel)) ggX3_knows_X1_isKnown
theorem dX3_knows_0 : decode cX3_knows 0 = .ok (.iload_n 1, 1) := by decide +kernel
theorem dX3_knows_1 : decode cX3_knows 1 = .ok (.invokestatic 133, 3) := by decide +kernel
theorem dX3_knows_4 : decode cX3_knows 4 = .ok (.ifCond .ne 6, 3) := by decide +kernel
theorem dX3_knows_7 : decode cX3_knows 7 = .ok (.bipush (-2), 2) := by decide +kernel
theorem dX3_knows_9 : decode cX3_knows 9 = .ok (.ireturn, 1) := by decide +kernel
theorem dX3_knows_10 : decode cX3_knows 10 = .ok (.aload_n 0, 1) := by decide +kernel
theorem dX3_knows_11 : decode cX3_knows 11 = .ok (.getfield 10, 3) := by decide +kernel
theorem dX3_knows_14 : decode cX3_knows 14 = .ok (.iload_n 1, 1) := by decide +kernel
theorem dX3_knows_15 : decode cX3_knows 15 = .ok (.iload_n 2, 1) := by decide +kernel
theorem dX3_knows_16 : decode cX3_knows 16 = .ok (.invokevirtual 136, 3) := by decide +kernel
theorem dX3_knows_19 : decode cX3_knows 19 = .ok (.astore 4, 2) := by decide +kernel
theorem dX3_knows_21 : decode cX3_knows 21 = .ok (.aload 4, 2) := by decide +kernel
theorem dX3_knows_23 : decode cX3_knows 23 = .ok (.ifnull 14, 3) := by decide +kernel
theorem dX3_knows_26 : decode cX3_knows 26 = .ok (.aload_n 0, 1) := by decide +kernel
theorem dX3_knows_27 : decode cX3_knows 27 = .ok (.getfield 10, 3) := by decide +kernel
theorem dX3_knows_30 : decode cX3_knows 30 = .ok (.iload_n 3, 1) := by decide +kernel
theorem dX3_knows_31 : decode cX3_knows 31 = .ok (.invokevirtual 143, 3) := by decide +kernel
theorem dX3_knows_34 : decode cX3_knows 34 = .ok (.ifCond .ne 5, 3) := by decide +kernel
theorem dX3_knows_37 : decode cX3_knows 37 = .ok (.iconst (-1), 1) := by decide +kernel
theorem dX3_knows_38 : decode cX3_knows 38 = .ok (.ireturn, 1) := by decide +kernel
theorem dX3_knows_39 : decode cX3_knows 39 = .ok (.aload 4, 2) := by decide +kernel
theorem dX3_knows_41 : decode cX3_knows 41 = .ok (.iload_n 3, 1) := by decide +kernel
theorem dX3_knows_42 : decode cX3_knows 42 = .ok (.invokevirtual 146, 3) := by decide +kernel
theorem dX3_knows_45 : decode cX3_knows 45 = .ok (.ifCond .eq 7, 3) := by decide +kernel
theorem dX3_knows_48 : decode cX3_knows 48 = .ok (.iconst 1, 1) := by decide +kernel
theorem dX3_knows_49 : decode cX3_knows 49 = .ok (.goto 4, 3) := by decide +kernel
theorem dX3_knows_52 : decode cX3_knows 52 = .ok (.iconst 0, 1) := by decide +kernel
theorem dX3_knows_53 : decode cX3_knows 53 = .ok (.ireturn, 1) := by decide +kernel
set_option maxRecDepth 20000 in
theorem ggX3_count_X2_helperSet : GoodIn wsX3_count wsX2_helperSet := goodIn_r _ [11, 12, 13, 14, 10, 15, 16, 58, 59, 60, 61, 62, 63, 64] (by decide +kernel) (by decide +kernel)
set_option maxRecDepth 20000 in
theorem gX3_count_X2_helperSet : GoodIn wsX3_count (wsV RX3 149 RX2 yX2_helperSet wsX2_helperSet) := goodIn_app (goodIn_of _ (by decide +kernel)) ggX3_count_X2_helperSet
set_option maxRecDepth 20000 in
theorem ggX3_count_X2_clashingPairs : GoodIn wsX3_count wsX2_clashingPairs := goodIn_r _ [20, 21, 12, 13, 14, 10, 15, 16, 22, 23, 24, 25, 26, 27, 58, 59, 60, 61, 62, 63, 64, 72, 73, 74] (by decide +kernel) (by decide +kernel)
set_option maxRecDepth 20000 in
theorem gX3_count_X2_clashingPairs : GoodIn wsX3_count (wsV RX3 152 RX2 yX2_clashingPairs wsX2_clashingPairs) := goodIn_app (goodIn_of _ (by decide +kernel)) ggX3_count_X2_clashingPairs
set_option maxRecDepth 20000 in
theorem ggX3_count_X2_knotsOfHelpers : GoodIn wsX3_count wsX2_knotsOfHelpers := goodIn_r _ [31, 21, 12, 13, 14, 10, 15, 16, 32, 33, 34, 25, 35, 27, 36, 37, 38, 39, 40, 41, 58, 59, 60, 61, 62, 63, 64, 72, 73, 74] (by decide +kernel) (by decide +kernel)
set_option maxRecDepth 20000 in
theorem gX3_count_X2_knotsOfHelpers : GoodIn wsX3_count (wsV RX3 155 RX2 yX2_knotsOfHelpers wsX2_knotsOfHelpers) := goodIn_app (goodIn_of _ (by decide +kernel)) ggX3_count_X2_knotsOfHelpers
set_option maxRecDepth 20000 in
theorem ggX3_count_X2_foremost : GoodIn wsX3_count wsX2_foremost := goodIn_r _ [45, 12, 13, 14, 10, 15, 16, 46, 47, 48, 49, 21, 22, 23, 24, 25, 26, 27, 58, 59, 60, 61, 62, 63, 64, 72, 73, 74] (by decide +kernel) (by decide +kernel)
set_option maxRecDepth 20000 in
theorem gX3_count_X2_foremost : GoodIn wsX3_count (wsV RX3 158 RX2 yX2_foremost wsX2_foremost) := goodIn_app (goodIn_of _ (by decide +kernel)) ggX3_count_X2_foremost
theorem dX3_count_0 : decode cX3_count 0 = .ok (.iload_n 1, 1) := by decide +kernel
theorem dX3_count_1 : decode cX3_count 1 = .ok (.tableswitch 108 0 7 #[47, 55, 63, 71, 79, 87, 95, 103], 47) := by decide +kernel
theorem dX3_count_48 : decode cX3_count 48 = .ok (.aload_n 0, 1) := by decide +kernel
theorem dX3_count_49 : decode cX3_count 49 = .ok (.getfield 10, 3) := by decide +kernel
theorem dX3_count_52 : decode cX3_count 52 = .ok (.invokevirtual 149, 3) := by decide +kernel
theorem dX3_count_55 : decode cX3_count 55 = .ok (.ireturn, 1) := by decide +kernel
theorem dX3_count_56 : decode cX3_count 56 = .ok (.aload_n 0, 1) := by decide +kernel
theorem dX3_count_57 : decode cX3_count 57 = .ok (.getfield 10, 3) := by decide +kernel
theorem dX3_count_60 : decode cX3_count 60 = .ok (.getfield 84, 3) := by decide +kernel
theorem dX3_count_63 : decode cX3_count 63 = .ok (.ireturn, 1) := by decide +kernel
theorem dX3_count_64 : decode cX3_count 64 = .ok (.aload_n 0, 1) := by decide +kernel
theorem dX3_count_65 : decode cX3_count 65 = .ok (.getfield 10, 3) := by decide +kernel
theorem dX3_count_68 : decode cX3_count 68 = .ok (.getfield 77, 3) := by decide +kernel
theorem dX3_count_71 : decode cX3_count 71 = .ok (.ireturn, 1) := by decide +kernel
theorem dX3_count_72 : decode cX3_count 72 = .ok (.aload_n 0, 1) := by decide +kernel
theorem dX3_count_73 : decode cX3_count 73 = .ok (.getfield 10, 3) := by decide +kernel
theorem dX3_count_76 : decode cX3_count 76 = .ok (.invokevirtual 152, 3) := by decide +kernel
theorem dX3_count_79 : decode cX3_count 79 = .ok (.ireturn, 1) := by decide +kernel
theorem dX3_count_80 : decode cX3_count 80 = .ok (.aload_n 0, 1) := by decide +kernel
theorem dX3_count_81 : decode cX3_count 81 = .ok (.getfield 10, 3) := by decide +kernel
theorem dX3_count_84 : decode cX3_count 84 = .ok (.invokevirtual 155, 3) := by decide +kernel
theorem dX3_count_87 : decode cX3_count 87 = .ok (.ireturn, 1) := by decide +kernel
theorem dX3_count_88 : decode cX3_count 88 = .ok (.aload_n 0, 1) := by decide +kernel
theorem dX3_count_89 : decode cX3_count 89 = .ok (.getfield 10, 3) := by decide +kernel
theorem dX3_count_92 : decode cX3_count 92 = .ok (.invokevirtual 158, 3) := by decide +kernel
theorem dX3_count_95 : decode cX3_count 95 = .ok (.ireturn, 1) := by decide +kernel
theorem dX3_count_96 : decode cX3_count 96 = .ok (.aload_n 0, 1) := by decide +kernel
theorem dX3_count_97 : decode cX3_count 97 = .ok (.getfield 30, 3) := by decide +kernel
theorem dX3_count_100 : decode cX3_count 100 = .ok (.getfield 161, 3) := by decide +kernel
theorem dX3_count_103 : decode cX3_count 103 = .ok (.ireturn, 1) := by decide +kernel
theorem dX3_count_104 : decode cX3_count 104 = .ok (.aload_n 0, 1) := by decide +kernel
theorem dX3_count_105 : decode cX3_count 105 = .ok (.getfield 163, 3) := by decide +kernel
theorem dX3_count_108 : decode cX3_count 108 = .ok (.ireturn, 1) := by decide +kernel
theorem dX3_count_109 : decode cX3_count 109 = .ok (.bipush (-2), 2) := by decide +kernel
theorem dX3_count_111 : decode cX3_count 111 = .ok (.ireturn, 1) := by decide +kernel
set_option maxRecDepth 20000 in
theorem ggX3_whose_X2_isEvent : GoodIn wsX3_whose wsX2_isEvent := goodIn_r _ [7, 8, 17, 18, 19, 20, 21, 22, 23] (by decide +kernel) (by decide +kernel)
set_option maxRecDepth 20000 in
theorem gX3_whose_X2_isEvent : GoodIn wsX3_whose (wsV RX3 143 RX2 yX2_isEvent wsX2_isEvent) := goodIn_app (goodIn_of _ (by decide +kernel)) ggX3_whose_X2_isEvent
theorem dX3_whose_0 : decode cX3_whose 0 = .ok (.aload_n 0, 1) := by decide +kernel
theorem dX3_whose_1 : decode cX3_whose 1 = .ok (.getfield 10, 3) := by decide +kernel
theorem dX3_whose_4 : decode cX3_whose 4 = .ok (.iload_n 1, 1) := by decide +kernel
theorem dX3_whose_5 : decode cX3_whose 5 = .ok (.invokevirtual 143, 3) := by decide +kernel
theorem dX3_whose_8 : decode cX3_whose 8 = .ok (.ifCond .eq 15, 3) := by decide +kernel
theorem dX3_whose_11 : decode cX3_whose 11 = .ok (.aload_n 0, 1) := by decide +kernel
theorem dX3_whose_12 : decode cX3_whose 12 = .ok (.getfield 10, 3) := by decide +kernel
theorem dX3_whose_15 : decode cX3_whose 15 = .ok (.getfield 166, 3) := by decide +kernel
theorem dX3_whose_18 : decode cX3_whose 18 = .ok (.iload_n 1, 1) := by decide +kernel
theorem dX3_whose_19 : decode cX3_whose 19 = .ok (.iaload, 1) := by decide +kernel
theorem dX3_whose_20 : decode cX3_whose 20 = .ok (.goto 4, 3) := by decide +kernel
theorem dX3_whose_23 : decode cX3_whose 23 = .ok (.iconst (-1), 1) := by decide +kernel
theorem dX3_whose_24 : decode cX3_whose 24 = .ok (.ireturn, 1) := by decide +kernel
set_option maxRecDepth 20000 in
theorem ggX3_order_X3_isKind : GoodIn wsX3_order wsX3_isKind := goodIn_r _ [5] (by decide +kernel) (by decide +kernel)
set_option maxRecDepth 20000 in
theorem gX3_order_X3_isKind : GoodIn wsX3_order (va_wsS RX3 133 yX3_isKind wsX3_isKind) := goodIn_app (goodIn_of _ (by decide +kernel)) ggX3_order_X3_isKind
set_option maxRecDepth 20000 in
theorem ggX3_order_X2_stampOf : GoodIn wsX3_order wsX2_stampOf := goodIn_r _ [10, 11, 12, 13, 14, 15, 9, 16, 17, 18, 19, 20, 21, 22, 37, 38, 39, 40, 41, 42, 43] (by decide +kernel) (by decide +kernel)
set_option maxRecDepth 20000 in
theorem gX3_order_X2_stampOf : GoodIn wsX3_order (wsV RX3 136 RX2 yX2_stampOf wsX2_stampOf) := goodIn_app (goodIn_of _ (by decide +kernel)) ggX3_order_X2_stampOf
set_option maxRecDepth 20000 in
theorem ggX3_order_X1_orderTo : GoodIn wsX3_order wsX1_orderTo := goodIn_r _ [27, 28, 44, 45, 46] (by decide +kernel) (by decide +kernel)
set_option maxRecDepth 20000 in
theorem gX3_order_X1_orderTo : GoodIn wsX3_order (wsV RX3 169 RX1 yX1_orderTo wsX1_orderTo) := goodIn_app (goodIn_of _ (by decide +kernel)) ggX3_order_X1_orderTo
theorem dX3_order_0 : decode cX3_order 0 = .ok (.iload_n 1, 1) := by decide +kernel
theorem dX3_order_1 : decode cX3_order 1 = .ok (.invokestatic 133, 3) := by decide +kernel
theorem dX3_order_4 : decode cX3_order 4 = .ok (.ifCond .eq 10, 3) := by decide +kernel
theorem dX3_order_7 : decode cX3_order 7 = .ok (.iload_n 3, 1) := by decide +kernel
theorem dX3_order_8 : decode cX3_order 8 = .ok (.invokestatic 133, 3) := by decide +kernel
theorem dX3_order_11 : decode cX3_order 11 = .ok (.ifCond .ne 6, 3) := by decide +kernel
theorem dX3_order_14 : decode cX3_order 14 = .ok (.bipush (-2), 2) := by decide +kernel
theorem dX3_order_16 : decode cX3_order 16 = .ok (.ireturn, 1) := by decide +kernel
theorem dX3_order_17 : decode cX3_order 17 = .ok (.aload_n 0, 1) := by decide +kernel
theorem dX3_order_18 : decode cX3_order 18 = .ok (.getfield 10, 3) := by decide +kernel
theorem dX3_order_21 : decode cX3_order 21 = .ok (.iload_n 1, 1) := by decide +kernel
theorem dX3_order_22 : decode cX3_order 22 = .ok (.iload_n 2, 1) := by decide +kernel
theorem dX3_order_23 : decode cX3_order 23 = .ok (.invokevirtual 136, 3) := by decide +kernel
theorem dX3_order_26 : decode cX3_order 26 = .ok (.astore 5, 2) := by decide +kernel
theorem dX3_order_28 : decode cX3_order 28 = .ok (.aload_n 0, 1) := by decide +kernel
theorem dX3_order_29 : decode cX3_order 29 = .ok (.getfield 10, 3) := by decide +kernel
theorem dX3_order_32 : decode cX3_order 32 = .ok (.iload_n 3, 1) := by decide +kernel
theorem dX3_order_33 : decode cX3_order 33 = .ok (.iload 4, 2) := by decide +kernel
theorem dX3_order_35 : decode cX3_order 35 = .ok (.invokevirtual 136, 3) := by decide +kernel
theorem dX3_order_38 : decode cX3_order 38 = .ok (.astore 6, 2) := by decide +kernel
theorem dX3_order_40 : decode cX3_order 40 = .ok (.aload 5, 2) := by decide +kernel
theorem dX3_order_42 : decode cX3_order 42 = .ok (.ifnull 8, 3) := by decide +kernel
theorem dX3_order_45 : decode cX3_order 45 = .ok (.aload 6, 2) := by decide +kernel
theorem dX3_order_47 : decode cX3_order 47 = .ok (.ifnonnull 5, 3) := by decide +kernel
theorem dX3_order_50 : decode cX3_order 50 = .ok (.iconst (-1), 1) := by decide +kernel
theorem dX3_order_51 : decode cX3_order 51 = .ok (.ireturn, 1) := by decide +kernel
theorem dX3_order_52 : decode cX3_order 52 = .ok (.aload 5, 2) := by decide +kernel
theorem dX3_order_54 : decode cX3_order 54 = .ok (.aload 6, 2) := by decide +kernel
theorem dX3_order_56 : decode cX3_order 56 = .ok (.invokevirtual 169, 3) := by decide +kernel
theorem dX3_order_59 : decode cX3_order 59 = .ok (.ireturn, 1) := by decide +kernel
set_option maxRecDepth 20000 in
theorem ggX3_more_X3_isKind : GoodIn wsX3_more wsX3_isKind := goodIn_r _ [5] (by decide +kernel) (by decide +kernel)
set_option maxRecDepth 20000 in
theorem gX3_more_X3_isKind : GoodIn wsX3_more (va_wsS RX3 133 yX3_isKind wsX3_isKind) := goodIn_app (goodIn_of _ (by decide +kernel)) ggX3_more_X3_isKind
set_option maxRecDepth 20000 in
theorem ggX3_more_X2_stampOf : GoodIn wsX3_more wsX2_stampOf := goodIn_r _ [10, 11, 12, 13, 14, 15, 9, 16, 17, 18, 19, 20, 21, 22, 46, 47, 48, 49, 50, 51, 52] (by decide +kernel) (by decide +kernel)
set_option maxRecDepth 20000 in
theorem gX3_more_X2_stampOf : GoodIn wsX3_more (wsV RX3 136 RX2 yX2_stampOf wsX2_stampOf) := goodIn_app (goodIn_of _ (by decide +kernel)) ggX3_more_X2_stampOf
set_option maxRecDepth 20000 in
theorem ggX3_more_X1_knownBeyond : GoodIn wsX3_more wsX1_knownBeyond := goodIn_r _ [27, 28, 29, 30, 31, 32, 33, 34, 35, 36, 37, 53, 54, 55] (by decide +kernel) (by decide +kernel)
set_option maxRecDepth 20000 in
theorem gX3_more_X1_knownBeyond : GoodIn wsX3_more (wsV RX3 173 RX1 yX1_knownBeyond wsX1_knownBeyond) := goodIn_app (goodIn_of _ (by decide +kernel)) ggX3_more_X1_knownBeyond
theorem dX3_more_0 : decode cX3_more 0 = .ok (.iload_n 1, 1) := by decide +kernel
theorem dX3_more_1 : decode cX3_more 1 = .ok (.invokestatic 133, 3) := by decide +kernel
theorem dX3_more_4 : decode cX3_more 4 = .ok (.ifCond .eq 10, 3) := by decide +kernel
theorem dX3_more_7 : decode cX3_more 7 = .ok (.iload_n 3, 1) := by decide +kernel
theorem dX3_more_8 : decode cX3_more 8 = .ok (.invokestatic 133, 3) := by decide +kernel
theorem dX3_more_11 : decode cX3_more 11 = .ok (.ifCond .ne 6, 3) := by decide +kernel
theorem dX3_more_14 : decode cX3_more 14 = .ok (.bipush (-2), 2) := by decide +kernel
theorem dX3_more_16 : decode cX3_more 16 = .ok (.ireturn, 1) := by decide +kernel
theorem dX3_more_17 : decode cX3_more 17 = .ok (.aload_n 0, 1) := by decide +kernel
theorem dX3_more_18 : decode cX3_more 18 = .ok (.getfield 10, 3) := by decide +kernel
theorem dX3_more_21 : decode cX3_more 21 = .ok (.iload_n 1, 1) := by decide +kernel
theorem dX3_more_22 : decode cX3_more 22 = .ok (.iload_n 2, 1) := by decide +kernel
theorem dX3_more_23 : decode cX3_more 23 = .ok (.invokevirtual 136, 3) := by decide +kernel
theorem dX3_more_26 : decode cX3_more 26 = .ok (.astore 5, 2) := by decide +kernel
theorem dX3_more_28 : decode cX3_more 28 = .ok (.aload_n 0, 1) := by decide +kernel
theorem dX3_more_29 : decode cX3_more 29 = .ok (.getfield 10, 3) := by decide +kernel
theorem dX3_more_32 : decode cX3_more 32 = .ok (.iload_n 3, 1) := by decide +kernel
theorem dX3_more_33 : decode cX3_more 33 = .ok (.iload 4, 2) := by decide +kernel
theorem dX3_more_35 : decode cX3_more 35 = .ok (.invokevirtual 136, 3) := by decide +kernel
theorem dX3_more_38 : decode cX3_more 38 = .ok (.astore 6, 2) := by decide +kernel
theorem dX3_more_40 : decode cX3_more 40 = .ok (.aload 5, 2) := by decide +kernel
theorem dX3_more_42 : decode cX3_more 42 = .ok (.ifnull 8, 3) := by decide +kernel
theorem dX3_more_45 : decode cX3_more 45 = .ok (.aload 6, 2) := by decide +kernel
theorem dX3_more_47 : decode cX3_more 47 = .ok (.ifnonnull 5, 3) := by decide +kernel
theorem dX3_more_50 : decode cX3_more 50 = .ok (.iconst (-1), 1) := by decide +kernel
theorem dX3_more_51 : decode cX3_more 51 = .ok (.ireturn, 1) := by decide +kernel
theorem dX3_more_52 : decode cX3_more 52 = .ok (.aload 5, 2) := by decide +kernel
theorem dX3_more_54 : decode cX3_more 54 = .ok (.aload 6, 2) := by decide +kernel
theorem dX3_more_56 : decode cX3_more 56 = .ok (.invokevirtual 173, 3) := by decide +kernel
theorem dX3_more_59 : decode cX3_more 59 = .ok (.ireturn, 1) := by decide +kernel
set_option maxRecDepth 20000 in
theorem ggX3_printed_X2_isHelper : GoodIn wsX3_printed wsX2_isHelper := goodIn_r _ [7, 8, 229, 230, 231, 232, 233, 234, 235] (by decide +kernel) (by decide +kernel)
set_option maxRecDepth 20000 in
theorem gX3_printed_X2_isHelper : GoodIn wsX3_printed (wsV RX3 53 RX2 yX2_isHelper wsX2_isHelper) := goodIn_app (goodIn_of _ (by decide +kernel)) ggX3_printed_X2_isHelper
set_option maxRecDepth 20000 in
theorem ggX3_printed_X3_textOf : GoodIn wsX3_printed wsX3_textOf := goodIn_r _ [13, 14, 15, 16, 17, 18, 19, 20, 21, 22, 23, 24, 25, 26, 27, 28, 29, 30, 31, 32, 33, 34, 35, 36, 37, 38, 39, 40, 41, 42, 43, 44, 45, 46, 47, 48, 49, 50, 51, 52, 53, 54, 55, 56, 57, 58, 59, 60, 61, 62, 63, 64, 65, 66, 67, 68, 69, 70, 71, 72, 73, 74, 75, 76, 77, 78, 79, 80, 81, 82, 83, 84, 85, 86, 87, 88, 89, 90, 91, 92, 93, 94, 95, 96, 97, 98, 99, 100, 101, 102, 103, 104, 105, 106, 107, 108, 109, 110, 111, 112, 113, 114, 115, 116, 117, 118, 119, 120, 121, 122, 123, 124, 125, 126, 127, 128, 129, 130, 131, 132, 133, 134, 135, 136, 137, 138, 139, 140, 141, 142, 143, 144, 145, 146, 147, 148, 149, 150, 151, 152, 153, 154, 155, 156, 157, 158, 159, 160, 161, 162, 163, 164, 165, 166, 167, 168, 169, 170, 171, 172, 173, 174, 175, 176, 177, 178, 179, 180, 181, 182, 183, 184, 185, 186, 187, 188, 189, 190, 191, 192, 193, 194, 195, 196, 197, 198, 199, 221, 222, 223, 224, 225, 226, 227, 228, 236, 237, 238, 239, 240, 241, 242] (by decide +kernel) (by decide +kernel)
set_option maxRecDepth 20000 in
theorem gX3_printed_X3_textOf : GoodIn wsX3_printed (wsV RX3 123 RX3 yX3_textOf wsX3_textOf) := goodIn_app (goodIn_of _ (by decide +kernel)) ggX3_printed_X3_textOf
set_option maxRecDepth 20000 in
theorem ggX3_printed_J4_length_8abf5 : GoodIn wsX3_printed wsJ4_length_8abf5 := goodIn_r _ [203, 204, 205, 22, 206, 24, 207, 26, 236, 237, 238, 239] (by decide +kernel) (by decide +kernel)
set_option maxRecDepth 20000 in
theorem gX3_printed_J4_length_8abf5 : GoodIn wsX3_printed (wsV RX3 127 RJ4 yJ4_length_8abf5 wsJ4_length_8abf5) := goodIn_app (goodIn_of _ (by decide +kernel)) ggX3_printed_J4_length_8abf5
set_option maxRecDepth 20000 in
theorem ggX3_printed_J4_charAt_5068e : GoodIn wsX3_printed wsJ4_charAt_5068e := goodIn_r _ [211, 212, 213, 22, 214, 24, 215, 34, 27, 26, 216, 65, 47, 66, 217, 195, 133, 196, 135, 197, 198, 138, 199, 218, 219, 89, 220, 124, 148, 149, 128, 129, 130, 236, 237, 238, 239] (by decide +kernel) (by decide +kernel)
set_option maxRecDepth 20000 in
theorem gX3_printed_J4_charAt_5068e : GoodIn wsX3_printed (wsV RX3 182 RJ4 yJ4_charAt_5068e wsJ4_charAt_5068e) := goodIn_app (goodIn_of _ (by decide +kernel)) ggX3_printed_J4_charAt_5068e
theorem dX3_printed_0 : decode cX3_printed 0 = .ok (.aload_n 0, 1) := by decide +kernel
theorem dX3_printed_1 : decode cX3_printed 1 = .ok (.getfield 10, 3) := by decide +kernel
theorem dX3_printed_4 : decode cX3_printed 4 = .ok (.iload_n 1, 1) := by decide +kernel
theorem dX3_printed_5 : decode cX3_printed 5 = .ok (.invokevirtual 53, 3) := by decide +kernel
theorem dX3_printed_8 : decode cX3_printed 8 = .ok (.ifCond .ne 5, 3) := by decide +kernel
theorem dX3_printed_11 : decode cX3_printed 11 = .ok (.iconst (-1), 1) := by decide +kernel
theorem dX3_printed_12 : decode cX3_printed 12 = .ok (.ireturn, 1) := by decide +kernel
theorem dX3_printed_13 : decode cX3_printed 13 = .ok (.aload_n 0, 1) := by decide +kernel
theorem dX3_printed_14 : decode cX3_printed 14 = .ok (.aload_n 0, 1) := by decide +kernel
theorem dX3_printed_15 : decode cX3_printed 15 = .ok (.getfield 10, 3) := by decide +kernel
theorem dX3_printed_18 : decode cX3_printed 18 = .ok (.getfield 93, 3) := by decide +kernel
theorem dX3_printed_21 : decode cX3_printed 21 = .ok (.iload_n 1, 1) := by decide +kernel
theorem dX3_printed_22 : decode cX3_printed 22 = .ok (.aaload, 1) := by decide +kernel
theorem dX3_printed_23 : decode cX3_printed 23 = .ok (.invokevirtual 123, 3) := by decide +kernel
theorem dX3_printed_26 : decode cX3_printed 26 = .ok (.astore_n 3, 1) := by decide +kernel
theorem dX3_printed_27 : decode cX3_printed 27 = .ok (.iload_n 2, 1) := by decide +kernel
theorem dX3_printed_28 : decode cX3_printed 28 = .ok (.ifCond .lt 11, 3) := by decide +kernel
theorem dX3_printed_31 : decode cX3_printed 31 = .ok (.iload_n 2, 1) := by decide +kernel
theorem dX3_printed_32 : decode cX3_printed 32 = .ok (.aload_n 3, 1) := by decide +kernel
theorem dX3_printed_33 : decode cX3_printed 33 = .ok (.invokevirtual 127, 3) := by decide +kernel
theorem dX3_printed_36 : decode cX3_printed 36 = .ok (.if_icmp .lt 5, 3) := by decide +kernel
theorem dX3_printed_39 : decode cX3_printed 39 = .ok (.iconst (-1), 1) := by decide +kernel
theorem dX3_printed_40 : decode cX3_printed 40 = .ok (.ireturn, 1) := by decide +kernel
theorem dX3_printed_41 : decode cX3_printed 41 = .ok (.aload_n 3, 1) := by decide +kernel
theorem dX3_printed_42 : decode cX3_printed 42 = .ok (.iload_n 2, 1) := by decide +kernel
theorem dX3_printed_43 : decode cX3_printed 43 = .ok (.invokevirtual 182, 3) := by decide +kernel
theorem dX3_printed_46 : decode cX3_printed 46 = .ok (.ireturn, 1) := by decide +kernel
set_option maxRecDepth 20000 in
theorem ggX3_ifReceive_X2_isHelper : GoodIn wsX3_ifReceive wsX2_isHelper := goodIn_r _ [10, 11, 86, 87, 88, 89, 90, 91, 92] (by decide +kernel) (by decide +kernel)
set_option maxRecDepth 20000 in
theorem gX3_ifReceive_X2_isHelper : GoodIn wsX3_ifReceive (wsV RX3 53 RX2 yX2_isHelper wsX2_isHelper) := goodIn_app (goodIn_of _ (by decide +kernel)) ggX3_ifReceive_X2_isHelper
set_option maxRecDepth 20000 in
theorem ggX3_ifReceive_X2_isMessage : GoodIn wsX3_ifReceive wsX2_isMessage := goodIn_r _ [15, 16, 86, 87, 88, 89, 90, 91, 92] (by decide +kernel) (by decide +kernel)
set_option maxRecDepth 20000 in
theorem gX3_ifReceive_X2_isMessage : GoodIn wsX3_ifReceive (wsV RX3 90 RX2 yX2_isMessage wsX2_isMessage) := goodIn_app (goodIn_of _ (by decide +kernel)) ggX3_ifReceive_X2_isMessage
set_option maxRecDepth 20000 in
theorem ggX3_ifReceive_X1_become : GoodIn wsX3_ifReceive wsX1_become := goodIn_r _ [21, 22, 23, 24, 25, 26, 27, 28, 93, 94, 95] (by decide +kernel) (by decide +kernel)
set_option maxRecDepth 20000 in
theorem gX3_ifReceive_X1_become : GoodIn wsX3_ifReceive (wsV RX3 186 RX1 yX1_become wsX1_become) := goodIn_app (goodIn_of _ (by decide +kernel)) ggX3_ifReceive_X1_become
set_option maxRecDepth 20000 in
theorem ggX3_ifReceive_X1_takeOver : GoodIn wsX3_ifReceive wsX1_takeOver := goodIn_r _ [32, 22, 33, 34, 35, 36, 27, 28, 93, 94, 95] (by decide +kernel) (by decide +kernel)
set_option maxRecDepth 20000 in
theorem gX3_ifReceive_X1_takeOver : GoodIn wsX3_ifReceive (wsV RX3 100 RX1 yX1_takeOver wsX1_takeOver) := goodIn_app (goodIn_of _ (by decide +kernel)) ggX3_ifReceive_X1_takeOver
set_option maxRecDepth 20000 in
theorem ggX3_ifReceive_X1_raise : GoodIn wsX3_ifReceive wsX1_raise := goodIn_r _ [40, 22, 41, 42, 43, 20, 44, 33, 34, 35, 36, 45, 46, 47, 48, 49, 50, 51, 93, 94, 95] (by decide +kernel) (by decide +kernel)
set_option maxRecDepth 20000 in
theorem gX3_ifReceive_X1_raise : GoodIn wsX3_ifReceive (wsV RX3 189 RX1 yX1_raise wsX1_raise) := goodIn_app (goodIn_of _ (by decide +kernel)) ggX3_ifReceive_X1_raise
set_option maxRecDepth 20000 in
theorem ggX3_ifReceive_X1_knownBeyond : GoodIn wsX3_ifReceive wsX1_knownBeyond := goodIn_r _ [55, 27, 56, 28, 57, 58, 59, 60, 61, 62, 63, 93, 94, 95] (by decide +kernel) (by decide +kernel)
set_option maxRecDepth 20000 in
theorem gX3_ifReceive_X1_knownBeyond : GoodIn wsX3_ifReceive (wsV RX3 173 RX1 yX1_knownBeyond wsX1_knownBeyond) := goodIn_app (goodIn_of _ (by decide +kernel)) ggX3_ifReceive_X1_knownBeyond
set_option maxRecDepth 20000 in
theorem ggX3_ifReceive_X1_orderTo : GoodIn wsX3_ifReceive wsX1_orderTo := goodIn_r _ [67, 22, 93, 94, 95] (by decide +kernel) (by decide +kernel)
set_option maxRecDepth 20000 in
theorem gX3_ifReceive_X1_orderTo : GoodIn wsX3_ifReceive (wsV RX3 169 RX1 yX1_orderTo wsX1_orderTo) := goodIn_app (goodIn_of _ (by decide +kernel)) ggX3_ifReceive_X1_orderTo
set_option maxRecDepth 20000 in
theorem ggX3_ifReceive_X1_knots : GoodIn wsX3_ifReceive wsX1_knots := goodIn_r _ [71, 22, 72, 73, 20, 74, 75, 76, 77, 93, 94, 95] (by decide +kernel) (by decide +kernel)
set_option maxRecDepth 20000 in
theorem gX3_ifReceive_X1_knots : GoodIn wsX3_ifReceive (wsV RX3 120 RX1 yX1_knots wsX1_knots) := goodIn_app (goodIn_of _ (by decide +kernel)) ggX3_ifReceive_X1_knots
theorem dX3_ifReceive_0 : decode cX3_ifReceive 0 = .ok (.aload_n 0, 1) := by decide +kernel
theorem dX3_ifReceive_1 : decode cX3_ifReceive 1 = .ok (.getfield 10, 3) := by decide +kernel
theorem dX3_ifReceive_4 : decode cX3_ifReceive 4 = .ok (.iload_n 1, 1) := by decide +kernel
theorem dX3_ifReceive_5 : decode cX3_ifReceive 5 = .ok (.invokevirtual 53, 3) := by decide +kernel
theorem dX3_ifReceive_8 : decode cX3_ifReceive 8 = .ok (.ifCond .eq 14, 3) := by decide +kernel
theorem dX3_ifReceive_11 : decode cX3_ifReceive 11 = .ok (.aload_n 0, 1) := by decide +kernel
theorem dX3_ifReceive_12 : decode cX3_ifReceive 12 = .ok (.getfield 10, 3) := by decide +kernel
theorem dX3_ifReceive_15 : decode cX3_ifReceive 15 = .ok (.iload_n 2, 1) := by decide +kernel
theorem dX3_ifReceive_16 : decode cX3_ifReceive 16 = .ok (.invokevirtual 90, 3) := by decide +kernel
theorem dX3_ifReceive_19 : decode cX3_ifReceive 19 = .ok (.ifCond .ne 5, 3) := by decide +kernel
theorem dX3_ifReceive_22 : decode cX3_ifReceive 22 = .ok (.iconst (-1), 1) := by decide +kernel
theorem dX3_ifReceive_23 : decode cX3_ifReceive 23 = .ok (.ireturn, 1) := by decide +kernel
theorem dX3_ifReceive_24 : decode cX3_ifReceive 24 = .ok (.aload_n 0, 1) := by decide +kernel
theorem dX3_ifReceive_25 : decode cX3_ifReceive 25 = .ok (.getfield 10, 3) := by decide +kernel
theorem dX3_ifReceive_28 : decode cX3_ifReceive 28 = .ok (.getfield 93, 3) := by decide +kernel
theorem dX3_ifReceive_31 : decode cX3_ifReceive 31 = .ok (.iload_n 1, 1) := by decide +kernel
theorem dX3_ifReceive_32 : decode cX3_ifReceive 32 = .ok (.aaload, 1) := by decide +kernel
theorem dX3_ifReceive_33 : decode cX3_ifReceive 33 = .ok (.astore 4, 2) := by decide +kernel
theorem dX3_ifReceive_35 : decode cX3_ifReceive 35 = .ok (.aload_n 0, 1) := by decide +kernel
theorem dX3_ifReceive_36 : decode cX3_ifReceive 36 = .ok (.getfield 10, 3) := by decide +kernel
theorem dX3_ifReceive_39 : decode cX3_ifReceive 39 = .ok (.getfield 97, 3) := by decide +kernel
theorem dX3_ifReceive_42 : decode cX3_ifReceive 42 = .ok (.iload_n 2, 1) := by decide +kernel
theorem dX3_ifReceive_43 : decode cX3_ifReceive 43 = .ok (.aaload, 1) := by decide +kernel
theorem dX3_ifReceive_44 : decode cX3_ifReceive 44 = .ok (.astore 5, 2) := by decide +kernel
theorem dX3_ifReceive_46 : decode cX3_ifReceive 46 = .ok (.aload_n 0, 1) := by decide +kernel
theorem dX3_ifReceive_47 : decode cX3_ifReceive 47 = .ok (.getfield 37, 3) := by decide +kernel
theorem dX3_ifReceive_50 : decode cX3_ifReceive 50 = .ok (.aload 4, 2) := by decide +kernel
theorem dX3_ifReceive_52 : decode cX3_ifReceive 52 = .ok (.invokevirtual 186, 3) := by decide +kernel
theorem dX3_ifReceive_55 : decode cX3_ifReceive 55 = .ok (.aload_n 0, 1) := by decide +kernel
theorem dX3_ifReceive_56 : decode cX3_ifReceive 56 = .ok (.getfield 37, 3) := by decide +kernel
theorem dX3_ifReceive_59 : decode cX3_ifReceive 59 = .ok (.aload 5, 2) := by decide +kernel
theorem dX3_ifReceive_61 : decode cX3_ifReceive 61 = .ok (.invokevirtual 100, 3) := by decide +kernel
theorem dX3_ifReceive_64 : decode cX3_ifReceive 64 = .ok (.aload_n 0, 1) := by decide +kernel
theorem dX3_ifReceive_65 : decode cX3_ifReceive 65 = .ok (.getfield 37, 3) := by decide +kernel
theorem dX3_ifReceive_68 : decode cX3_ifReceive 68 = .ok (.aload_n 0, 1) := by decide +kernel
theorem dX3_ifReceive_69 : decode cX3_ifReceive 69 = .ok (.getfield 10, 3) := by decide +kernel
theorem dX3_ifReceive_72 : decode cX3_ifReceive 72 = .ok (.getfield 48, 3) := by decide +kernel
theorem dX3_ifReceive_75 : decode cX3_ifReceive 75 = .ok (.iload_n 1, 1) := by decide +kernel
theorem dX3_ifReceive_76 : decode cX3_ifReceive 76 = .ok (.iaload, 1) := by decide +kernel
theorem dX3_ifReceive_77 : decode cX3_ifReceive 77 = .ok (.invokevirtual 189, 3) := by decide +kernel
theorem dX3_ifReceive_80 : decode cX3_ifReceive 80 = .ok (.iload_n 3, 1) := by decide +kernel
theorem dX3_ifReceive_81 : decode cX3_ifReceive 81 = .ok (.tableswitch 55 0 2 #[27, 37, 47], 27) := by decide +kernel
theorem dX3_ifReceive_108 : decode cX3_ifReceive 108 = .ok (.aload 5, 2) := by decide +kernel
theorem dX3_ifReceive_110 : decode cX3_ifReceive 110 = .ok (.aload 4, 2) := by decide +kernel
theorem dX3_ifReceive_112 : decode cX3_ifReceive 112 = .ok (.invokevirtual 173, 3) := by decide +kernel
theorem dX3_ifReceive_115 : decode cX3_ifReceive 115 = .ok (.iconst 1, 1) := by decide +kernel
theorem dX3_ifReceive_116 : decode cX3_ifReceive 116 = .ok (.iadd, 1) := by decide +kernel
theorem dX3_ifReceive_117 : decode cX3_ifReceive 117 = .ok (.ireturn, 1) := by decide +kernel
theorem dX3_ifReceive_118 : decode cX3_ifReceive 118 = .ok (.aload_n 0, 1) := by decide +kernel
theorem dX3_ifReceive_119 : decode cX3_ifReceive 119 = .ok (.getfield 37, 3) := by decide +kernel
theorem dX3_ifReceive_122 : decode cX3_ifReceive 122 = .ok (.aload 5, 2) := by decide +kernel
theorem dX3_ifReceive_124 : decode cX3_ifReceive 124 = .ok (.invokevirtual 169, 3) := by decide +kernel
theorem dX3_ifReceive_127 : decode cX3_ifReceive 127 = .ok (.ireturn, 1) := by decide +kernel
theorem dX3_ifReceive_128 : decode cX3_ifReceive 128 = .ok (.aload_n 0, 1) := by decide +kernel
theorem dX3_ifReceive_129 : decode cX3_ifReceive 129 = .ok (.getfield 37, 3) := by decide +kernel
theorem dX3_ifReceive_132 : decode cX3_ifReceive 132 = .ok (.invokevirtual 120, 3) := by decide +kernel
theorem dX3_ifReceive_135 : decode cX3_ifReceive 135 = .ok (.ireturn, 1) := by decide +kernel
theorem dX3_ifReceive_136 : decode cX3_ifReceive 136 = .ok (.bipush (-2), 2) := by decide +kernel
theorem dX3_ifReceive_138 : decode cX3_ifReceive 138 = .ok (.ireturn, 1) := by decide +kernel
set_option maxRecDepth 20000 in
theorem ggX3_laggard_X2_leastKnowing : GoodIn wsX3_laggard wsX2_leastKnowing := goodIn_r _ [8, 9, 10, 11, 12, 7, 13, 14, 15, 16, 17, 18, 19, 20, 21, 22, 23, 24, 25, 26, 27, 28, 38, 39, 40, 41, 42, 43, 44, 45, 46, 47] (by decide +kernel) (by decide +kernel)
set_option maxRecDepth 20000 in
theorem gX3_laggard_X2_leastKnowing : GoodIn wsX3_laggard (wsV RX3 192 RX2 yX2_leastKnowing wsX2_leastKnowing) := goodIn_app (goodIn_of _ (by decide +kernel)) ggX3_laggard_X2_leastKnowing
set_option maxRecDepth 20000 in
theorem ggX3_laggard_X1_knownCount : GoodIn wsX3_laggard wsX1_knownCount := goodIn_r _ [19, 20, 21, 22, 23, 24, 25, 26, 27, 28, 45, 46, 47] (by decide +kernel) (by decide +kernel)
set_option maxRecDepth 20000 in
theorem gX3_laggard_X1_knownCount : GoodIn wsX3_laggard (wsV RX3 114 RX1 yX1_knownCount wsX1_knownCount) := goodIn_app (goodIn_of _ (by decide +kernel)) ggX3_laggard_X1_knownCount
theorem dX3_laggard_0 : decode cX3_laggard 0 = .ok (.iload_n 1, 1) := by decide +kernel
theorem dX3_laggard_1 : decode cX3_laggard 1 = .ok (.ifCond .eq 11, 3) := by decide +kernel
theorem dX3_laggard_4 : decode cX3_laggard 4 = .ok (.iload_n 1, 1) := by decide +kernel
theorem dX3_laggard_5 : decode cX3_laggard 5 = .ok (.iconst 1, 1) := by decide +kernel
theorem dX3_laggard_6 : decode cX3_laggard 6 = .ok (.if_icmp .eq 6, 3) := by decide +kernel
theorem dX3_laggard_9 : decode cX3_laggard 9 = .ok (.bipush (-2), 2) := by decide +kernel
theorem dX3_laggard_11 : decode cX3_laggard 11 = .ok (.ireturn, 1) := by decide +kernel
theorem dX3_laggard_12 : decode cX3_laggard 12 = .ok (.aload_n 0, 1) := by decide +kernel
theorem dX3_laggard_13 : decode cX3_laggard 13 = .ok (.getfield 10, 3) := by decide +kernel
theorem dX3_laggard_16 : decode cX3_laggard 16 = .ok (.invokevirtual 192, 3) := by decide +kernel
theorem dX3_laggard_19 : decode cX3_laggard 19 = .ok (.istore_n 2, 1) := by decide +kernel
theorem dX3_laggard_20 : decode cX3_laggard 20 = .ok (.iload_n 1, 1) := by decide +kernel
theorem dX3_laggard_21 : decode cX3_laggard 21 = .ok (.ifCond .ne 7, 3) := by decide +kernel
theorem dX3_laggard_24 : decode cX3_laggard 24 = .ok (.iload_n 2, 1) := by decide +kernel
theorem dX3_laggard_25 : decode cX3_laggard 25 = .ok (.goto 23, 3) := by decide +kernel
theorem dX3_laggard_28 : decode cX3_laggard 28 = .ok (.aload_n 0, 1) := by decide +kernel
theorem dX3_laggard_29 : decode cX3_laggard 29 = .ok (.getfield 10, 3) := by decide +kernel
theorem dX3_laggard_32 : decode cX3_laggard 32 = .ok (.getfield 77, 3) := by decide +kernel
theorem dX3_laggard_35 : decode cX3_laggard 35 = .ok (.aload_n 0, 1) := by decide +kernel
theorem dX3_laggard_36 : decode cX3_laggard 36 = .ok (.getfield 10, 3) := by decide +kernel
theorem dX3_laggard_39 : decode cX3_laggard 39 = .ok (.getfield 93, 3) := by decide +kernel
theorem dX3_laggard_42 : decode cX3_laggard 42 = .ok (.iload_n 2, 1) := by decide +kernel
theorem dX3_laggard_43 : decode cX3_laggard 43 = .ok (.aaload, 1) := by decide +kernel
theorem dX3_laggard_44 : decode cX3_laggard 44 = .ok (.invokevirtual 114, 3) := by decide +kernel
theorem dX3_laggard_47 : decode cX3_laggard 47 = .ok (.isub, 1) := by decide +kernel
theorem dX3_laggard_48 : decode cX3_laggard 48 = .ok (.ireturn, 1) := by decide +kernel
theorem dX3_isKind_0 : decode cX3_isKind 0 = .ok (.iload_n 0, 1) := by decide +kernel
theorem dX3_isKind_1 : decode cX3_isKind 1 = .ok (.ifCond .eq 8, 3) := by decide +kernel
theorem dX3_isKind_4 : decode cX3_isKind 4 = .ok (.iload_n 0, 1) := by decide +kernel
theorem dX3_isKind_5 : decode cX3_isKind 5 = .ok (.iconst 1, 1) := by decide +kernel
theorem dX3_isKind_6 : decode cX3_isKind 6 = .ok (.if_icmp .ne 7, 3) := by decide +kernel
theorem dX3_isKind_9 : decode cX3_isKind 9 = .ok (.iconst 1, 1) := by decide +kernel
theorem dX3_isKind_10 : decode cX3_isKind 10 = .ok (.goto 4, 3) := by decide +kernel
theorem dX3_isKind_13 : decode cX3_isKind 13 = .ok (.iconst 0, 1) := by decide +kernel
theorem dX3_isKind_14 : decode cX3_isKind 14 = .ok (.ireturn, 1) := by decide +kernel
set_option maxRecDepth 20000 in
theorem ggX3_remember_X3_forgetOldest : GoodIn wsX3_remember wsX3_forgetOldest := goodIn_r _ [8, 2, 1, 34, 35, 36, 37, 38, 39, 40, 41] (by decide +kernel) (by decide +kernel)
set_option maxRecDepth 20000 in
theorem gX3_remember_X3_forgetOldest : GoodIn wsX3_remember (wsV RX3 209 RX3 yX3_forgetOldest wsX3_forgetOldest) := goodIn_app (goodIn_of _ (by decide +kernel)) ggX3_remember_X3_forgetOldest
set_option maxRecDepth 20000 in
theorem ggX3_remember_X2_become : GoodIn wsX3_remember wsX2_become := goodIn_r _ [13, 14, 15, 16, 17, 18, 19, 20, 21, 22, 23, 24, 25, 26, 27, 28, 29, 30, 31, 32, 33, 42, 43, 44, 45, 46, 47, 48, 49, 50, 51] (by decide +kernel) (by decide +kernel)
set_option maxRecDepth 20000 in
theorem gX3_remember_X2_become : GoodIn wsX3_remember (wsV RX3 203 RX2 yX2_become wsX2_become) := goodIn_app (goodIn_of _ (by decide +kernel)) ggX3_remember_X2_become
theorem dX3_remember_0 : decode cX3_remember 0 = .ok (.aload_n 0, 1) := by decide +kernel
theorem dX3_remember_1 : decode cX3_remember 1 = .ok (.getfield 163, 3) := by decide +kernel
theorem dX3_remember_4 : decode cX3_remember 4 = .ok (.bipush 6, 2) := by decide +kernel
theorem dX3_remember_6 : decode cX3_remember 6 = .ok (.if_icmp .lt 7, 3) := by decide +kernel
theorem dX3_remember_9 : decode cX3_remember 9 = .ok (.aload_n 0, 1) := by decide +kernel
theorem dX3_remember_10 : decode cX3_remember 10 = .ok (.invokevirtual 209, 3) := by decide +kernel
theorem dX3_remember_13 : decode cX3_remember 13 = .ok (.aload_n 0, 1) := by decide +kernel
theorem dX3_remember_14 : decode cX3_remember 14 = .ok (.getfield 16, 3) := by decide +kernel
theorem dX3_remember_17 : decode cX3_remember 17 = .ok (.aload_n 0, 1) := by decide +kernel
theorem dX3_remember_18 : decode cX3_remember 18 = .ok (.getfield 163, 3) := by decide +kernel
theorem dX3_remember_21 : decode cX3_remember 21 = .ok (.aaload, 1) := by decide +kernel
theorem dX3_remember_22 : decode cX3_remember 22 = .ok (.aload_n 0, 1) := by decide +kernel
theorem dX3_remember_23 : decode cX3_remember 23 = .ok (.getfield 10, 3) := by decide +kernel
theorem dX3_remember_26 : decode cX3_remember 26 = .ok (.invokevirtual 203, 3) := by decide +kernel
theorem dX3_remember_29 : decode cX3_remember 29 = .ok (.aload_n 0, 1) := by decide +kernel
theorem dX3_remember_30 : decode cX3_remember 30 = .ok (.dup, 1) := by decide +kernel
theorem dX3_remember_31 : decode cX3_remember 31 = .ok (.getfield 163, 3) := by decide +kernel
theorem dX3_remember_34 : decode cX3_remember 34 = .ok (.iconst 1, 1) := by decide +kernel
theorem dX3_remember_35 : decode cX3_remember 35 = .ok (.iadd, 1) := by decide +kernel
theorem dX3_remember_36 : decode cX3_remember 36 = .ok (.putfield 163, 3) := by decide +kernel
theorem dX3_remember_39 : decode cX3_remember 39 = .ok (.return_, 1) := by decide +kernel
theorem dX3_forgetOldest_0 : decode cX3_forgetOldest 0 = .ok (.aload_n 0, 1) := by decide +kernel
theorem dX3_forgetOldest_1 : decode cX3_forgetOldest 1 = .ok (.getfield 16, 3) := by decide +kernel
theorem dX3_forgetOldest_4 : decode cX3_forgetOldest 4 = .ok (.iconst 0, 1) := by decide +kernel
theorem dX3_forgetOldest_5 : decode cX3_forgetOldest 5 = .ok (.aaload, 1) := by decide +kernel
theorem dX3_forgetOldest_6 : decode cX3_forgetOldest 6 = .ok (.astore_n 1, 1) := by decide +kernel
theorem dX3_forgetOldest_7 : decode cX3_forgetOldest 7 = .ok (.iconst 1, 1) := by decide +kernel
theorem dX3_forgetOldest_8 : decode cX3_forgetOldest 8 = .ok (.istore_n 2, 1) := by decide +kernel
theorem dX3_forgetOldest_9 : decode cX3_forgetOldest 9 = .ok (.iload_n 2, 1) := by decide +kernel
theorem dX3_forgetOldest_10 : decode cX3_forgetOldest 10 = .ok (.bipush 6, 2) := by decide +kernel
theorem dX3_forgetOldest_12 : decode cX3_forgetOldest 12 = .ok (.if_icmp .ge 23, 3) := by decide +kernel
theorem dX3_forgetOldest_15 : decode cX3_forgetOldest 15 = .ok (.aload_n 0, 1) := by decide +kernel
theorem dX3_forgetOldest_16 : decode cX3_forgetOldest 16 = .ok (.getfield 16, 3) := by decide +kernel
theorem dX3_forgetOldest_19 : decode cX3_forgetOldest 19 = .ok (.iload_n 2, 1) := by decide +kernel
theorem dX3_forgetOldest_20 : decode cX3_forgetOldest 20 = .ok (.iconst 1, 1) := by decide +kernel
theorem dX3_forgetOldest_21 : decode cX3_forgetOldest 21 = .ok (.isub, 1) := by decide +kernel
theorem dX3_forgetOldest_22 : decode cX3_forgetOldest 22 = .ok (.aload_n 0, 1) := by decide +kernel
theorem dX3_forgetOldest_23 : decode cX3_forgetOldest 23 = .ok (.getfield 16, 3) := by decide +kernel
theorem dX3_forgetOldest_26 : decode cX3_forgetOldest 26 = .ok (.iload_n 2, 1) := by decide +kernel
theorem dX3_forgetOldest_27 : decode cX3_forgetOldest 27 = .ok (.aaload, 1) := by decide +kernel
theorem dX3_forgetOldest_28 : decode cX3_forgetOldest 28 = .ok (.aastore, 1) := by decide +kernel
theorem dX3_forgetOldest_29 : decode cX3_forgetOldest 29 = .ok (.iinc 2 1, 3) := by decide +kernel
theorem dX3_forgetOldest_32 : decode cX3_forgetOldest 32 = .ok (.goto (-23), 3) := by decide +kernel
theorem dX3_forgetOldest_35 : decode cX3_forgetOldest 35 = .ok (.aload_n 0, 1) := by decide +kernel
theorem dX3_forgetOldest_36 : decode cX3_forgetOldest 36 = .ok (.getfield 16, 3) := by decide +kernel
theorem dX3_forgetOldest_39 : decode cX3_forgetOldest 39 = .ok (.iconst 5, 1) := by decide +kernel
theorem dX3_forgetOldest_40 : decode cX3_forgetOldest 40 = .ok (.aload_n 1, 1) := by decide +kernel
theorem dX3_forgetOldest_41 : decode cX3_forgetOldest 41 = .ok (.aastore, 1) := by decide +kernel
theorem dX3_forgetOldest_42 : decode cX3_forgetOldest 42 = .ok (.aload_n 0, 1) := by decide +kernel
theorem dX3_forgetOldest_43 : decode cX3_forgetOldest 43 = .ok (.iconst 5, 1) := by decide +kernel
theorem dX3_forgetOldest_44 : decode cX3_forgetOldest 44 = .ok (.putfield 163, 3) := by decide +kernel
theorem dX3_forgetOldest_47 : decode cX3_forgetOldest 47 = .ok (.return_, 1) := by decide +kernel
set_option maxRecDepth 20000 in
theorem ggX3_textOf_J4_setLength_d00df : GoodIn wsX3_textOf wsJ4_setLength_d00df := goodIn_r _ [6, 7, 8, 9, 10, 11, 12, 13, 14, 15, 16, 17, 18, 19, 20, 21, 22, 23, 24, 25, 26, 27, 28, 29, 30, 31, 32, 33, 34, 35, 36, 37, 38, 39, 40, 41, 42, 43, 44, 45, 46, 47, 48, 49, 50, 51, 52, 53, 54, 55, 56, 57, 58, 59, 60, 61, 62, 63, 64, 65, 66, 67, 68, 69, 70, 71, 72, 73, 74, 75, 76, 77, 78, 195, 196, 197, 198] (by decide +kernel) (by decide +kernel)
set_option maxRecDepth 20000 in
theorem gX3_textOf_J4_setLength_d00df : GoodIn wsX3_textOf (wsV RX3 212 RJ4 yJ4_setLength_d00df wsJ4_setLength_d00df) := goodIn_app (goodIn_of _ (by decide +kernel)) ggX3_textOf_J4_setLength_d00df
set_option maxRecDepth 20000 in
theorem ggX3_textOf_X1_print : GoodIn wsX3_textOf wsX1_print := goodIn_r _ [83, 84, 85, 86, 82, 87, 88, 89, 90, 91, 92, 93, 5, 94, 95, 96, 9, 97, 11, 98, 13, 14, 99, 100, 101, 102, 16, 17, 18, 19, 20, 21, 22, 23, 24, 25, 26, 27, 28, 29, 30, 31, 32, 33, 34, 35, 36, 37, 38, 39, 40, 41, 42, 43, 44, 45, 46, 47, 48, 49, 50, 51, 52, 53, 54, 55, 56, 57, 58, 59, 60, 61, 62, 63, 103, 104, 105, 106, 107, 108, 109, 76, 110, 111, 112, 113, 114, 115, 116, 117, 118, 119, 120, 121, 122, 123, 124, 125, 126, 127, 128, 129, 130, 131, 132, 133, 134, 135, 136, 137, 138, 139, 140, 141, 142, 143, 144, 145, 146, 66, 147, 148, 149, 150, 151, 152, 153, 154, 155, 156, 157, 158, 159, 160, 161, 162, 163, 164, 165, 166, 167, 168, 169, 170, 171, 172, 173, 174, 175, 176, 177, 178, 179, 180, 181, 182, 183, 184, 185, 186, 199, 200, 201, 195, 196, 197, 198] (by decide +kernel) (by decide +kernel)
set_option maxRecDepth 20000 in
theorem gX3_textOf_X1_print : GoodIn wsX3_textOf (wsV RX3 215 RX1 yX1_print wsX1_print) := goodIn_app (goodIn_of _ (by decide +kernel)) ggX3_textOf_X1_print
theorem dX3_textOf_0 : decode cX3_textOf 0 = .ok (.aload_n 0, 1) := by decide +kernel
theorem dX3_textOf_1 : decode cX3_textOf 1 = .ok (.getfield 44, 3) := by decide +kernel
theorem dX3_textOf_4 : decode cX3_textOf 4 = .ok (.iconst 0, 1) := by decide +kernel
theorem dX3_textOf_5 : decode cX3_textOf 5 = .ok (.invokevirtual 212, 3) := by decide +kernel
theorem dX3_textOf_8 : decode cX3_textOf 8 = .ok (.aload_n 1, 1) := by decide +kernel
theorem dX3_textOf_9 : decode cX3_textOf 9 = .ok (.aload_n 0, 1) := by decide +kernel
theorem dX3_textOf_10 : decode cX3_textOf 10 = .ok (.getfield 44, 3) := by decide +kernel
theorem dX3_textOf_13 : decode cX3_textOf 13 = .ok (.invokevirtual 215, 3) := by decide +kernel
theorem dX3_textOf_16 : decode cX3_textOf 16 = .ok (.aload_n 0, 1) := by decide +kernel
theorem dX3_textOf_17 : decode cX3_textOf 17 = .ok (.getfield 44, 3) := by decide +kernel
theorem dX3_textOf_20 : decode cX3_textOf 20 = .ok (.areturn, 1) := by decide +kernel
set_option maxRecDepth 20000 in
theorem ggJ5_init_d00df_J2_newBytesFor_77867 : GoodIn wsJ5_init_d00df wsJ2_newBytesFor_77867 := goodIn_r _ [11, 5, 12, 13, 10, 14, 15] (by decide +kernel) (by decide +kernel)
set_option maxRecDepth 20000 in
theorem gJ5_init_d00df_J2_newBytesFor_77867 : GoodIn wsJ5_init_d00df (va_wsS RJ5 26 yJ2_newBytesFor_77867 wsJ2_newBytesFor_77867) := goodIn_app (goodIn_of _ (by decide +kernel)) ggJ5_init_d00df_J2_newBytesFor_77867
theorem dJ5_init_d00df_0 : decode cJ5_init_d00df 0 = .ok (.aload_n 0, 1) := by decide +kernel
theorem dJ5_init_d00df_1 : decode cJ5_init_d00df 1 = .ok (.invokespecial 3, 3) := by decide +kernel
theorem dJ5_init_d00df_4 : decode cJ5_init_d00df 4 = .ok (.getstatic 18, 3) := by decide +kernel
theorem dJ5_init_d00df_7 : decode cJ5_init_d00df 7 = .ok (.ifCond .eq 18, 3) := by decide +kernel
theorem dJ5_init_d00df_10 : decode cJ5_init_d00df 10 = .ok (.aload_n 0, 1) := by decide +kernel
theorem dJ5_init_d00df_11 : decode cJ5_init_d00df 11 = .ok (.iload_n 1, 1) := by decide +kernel
theorem dJ5_init_d00df_12 : decode cJ5_init_d00df 12 = .ok (.newarray .byte, 2) := by decide +kernel
theorem dJ5_init_d00df_14 : decode cJ5_init_d00df 14 = .ok (.putfield 15, 3) := by decide +kernel
theorem dJ5_init_d00df_17 : decode cJ5_init_d00df 17 = .ok (.aload_n 0, 1) := by decide +kernel
theorem dJ5_init_d00df_18 : decode cJ5_init_d00df 18 = .ok (.iconst 0, 1) := by decide +kernel
theorem dJ5_init_d00df_19 : decode cJ5_init_d00df 19 = .ok (.putfield 22, 3) := by decide +kernel
theorem dJ5_init_d00df_22 : decode cJ5_init_d00df 22 = .ok (.goto 16, 3) := by decide +kernel
theorem dJ5_init_d00df_25 : decode cJ5_init_d00df 25 = .ok (.aload_n 0, 1) := by decide +kernel
theorem dJ5_init_d00df_26 : decode cJ5_init_d00df 26 = .ok (.iload_n 1, 1) := by decide +kernel
theorem dJ5_init_d00df_27 : decode cJ5_init_d00df 27 = .ok (.invokestatic 26, 3) := by decide +kernel
theorem dJ5_init_d00df_30 : decode cJ5_init_d00df 30 = .ok (.putfield 15, 3) := by decide +kernel
theorem dJ5_init_d00df_33 : decode cJ5_init_d00df 33 = .ok (.aload_n 0, 1) := by decide +kernel
theorem dJ5_init_d00df_34 : decode cJ5_init_d00df 34 = .ok (.iconst 1, 1) := by decide +kernel
theorem dJ5_init_d00df_35 : decode cJ5_init_d00df 35 = .ok (.putfield 22, 3) := by decide +kernel
theorem dJ5_init_d00df_38 : decode cJ5_init_d00df 38 = .ok (.return_, 1) := by decide +kernel
theorem dJ5_length_8abf5_0 : decode cJ5_length_8abf5 0 = .ok (.aload_n 0, 1) := by decide +kernel
theorem dJ5_length_8abf5_1 : decode cJ5_length_8abf5 1 = .ok (.getfield 79, 3) := by decide +kernel
theorem dJ5_length_8abf5_4 : decode cJ5_length_8abf5 4 = .ok (.ireturn, 1) := by decide +kernel
set_option maxRecDepth 20000 in
theorem ggJ5_ensureCapacityInternal_d00df_J5_newCapacity_0f7a4 : GoodIn wsJ5_ensureCapacityInternal_d00df wsJ5_newCapacity_0f7a4 := goodIn_r _ [8, 1, 2, 9, 10, 11, 12, 13, 14, 15, 16, 17, 18, 19, 20, 21, 40, 41, 42, 43] (by decide +kernel) (by decide +kernel)
set_option maxRecDepth 20000 in
theorem gJ5_ensureCapacityInternal_d00df_J5_newCapacity_0f7a4_u104J4 : GoodIn wsJ5_ensureCapacityInternal_d00df (va_wsU RJ5 104 RJ4 "java/lang/AbstractStringBuilder" ⟨"java/lang/AbstractStringBuilder", "newCapacity", "(I)I"⟩ yJ5_newCapacity_0f7a4 wsJ5_newCapacity_0f7a4) := goodIn_app (goodIn_of _ (by decide +kernel)) ggJ5_ensureCapacityInternal_d00df_J5_newCapacity_0f7a4
set_option maxRecDepth 20000 in
theorem ggJ5_ensureCapacityInternal_d00df_J7_copyOf_9075b : GoodIn wsJ5_ensureCapacityInternal_d00df wsJ7_copyOf_9075b := goodIn_r _ [25, 26, 27, 28, 29, 30, 31, 32, 33, 34, 16, 35, 36, 37, 38, 39] (by decide +kernel) (by decide +kernel)
set_option maxRecDepth 20000 in
theorem gJ5_ensureCapacityInternal_d00df_J7_copyOf_9075b : GoodIn wsJ5_ensureCapacityInternal_d00df (va_wsS RJ5 108 yJ7_copyOf_9075b wsJ7_copyOf_9075b) := goodIn_app (goodIn_of _ (by decide +kernel)) ggJ5_ensureCapacityInternal_d00df_J7_copyOf_9075b
theorem dJ5_ensureCapacityInternal_d00df_0 : decode cJ5_ensureCapacityInternal_d00df 0 = .ok (.aload_n 0, 1) := by decide +kernel
theorem dJ5_ensureCapacityInternal_d00df_1 : decode cJ5_ensureCapacityInternal_d00df 1 = .ok (.getfield 15, 3) := by decide +kernel
theorem dJ5_ensureCapacityInternal_d00df_4 : decode cJ5_ensureCapacityInternal_d00df 4 = .ok (.arraylength, 1) := by decide +kernel
theorem dJ5_ensureCapacityInternal_d00df_5 : decode cJ5_ensureCapacityInternal_d00df 5 = .ok (.aload_n 0, 1) := by decide +kernel
theorem dJ5_ensureCapacityInternal_d00df_6 : decode cJ5_ensureCapacityInternal_d00df 6 = .ok (.getfield 22, 3) := by decide +kernel
theorem dJ5_ensureCapacityInternal_d00df_9 : decode cJ5_ensureCapacityInternal_d00df 9 = .ok (.ishr, 1) := by decide +kernel
theorem dJ5_ensureCapacityInternal_d00df_10 : decode cJ5_ensureCapacityInternal_d00df 10 = .ok (.istore_n 2, 1) := by decide +kernel
theorem dJ5_ensureCapacityInternal_d00df_11 : decode cJ5_ensureCapacityInternal_d00df 11 = .ok (.iload_n 1, 1) := by decide +kernel
theorem dJ5_ensureCapacityInternal_d00df_12 : decode cJ5_ensureCapacityInternal_d00df 12 = .ok (.iload_n 2, 1) := by decide +kernel
theorem dJ5_ensureCapacityInternal_d00df_13 : decode cJ5_ensureCapacityInternal_d00df 13 = .ok (.isub, 1) := by decide +kernel
theorem dJ5_ensureCapacityInternal_d00df_14 : decode cJ5_ensureCapacityInternal_d00df 14 = .ok (.ifCond .le 24, 3) := by decide +kernel
theorem dJ5_ensureCapacityInternal_d00df_17 : decode cJ5_ensureCapacityInternal_d00df 17 = .ok (.aload_n 0, 1) := by decide +kernel
theorem dJ5_ensureCapacityInternal_d00df_18 : decode cJ5_ensureCapacityInternal_d00df 18 = .ok (.aload_n 0, 1) := by decide +kernel
theorem dJ5_ensureCapacityInternal_d00df_19 : decode cJ5_ensureCapacityInternal_d00df 19 = .ok (.getfield 15, 3) := by decide +kernel
theorem dJ5_ensureCapacityInternal_d00df_22 : decode cJ5_ensureCapacityInternal_d00df 22 = .ok (.aload_n 0, 1) := by decide +kernel
theorem dJ5_ensureCapacityInternal_d00df_23 : decode cJ5_ensureCapacityInternal_d00df 23 = .ok (.iload_n 1, 1) := by decide +kernel
theorem dJ5_ensureCapacityInternal_d00df_24 : decode cJ5_ensureCapacityInternal_d00df 24 = .ok (.invokevirtual 104, 3) := by decide +kernel
theorem dJ5_ensureCapacityInternal_d00df_27 : decode cJ5_ensureCapacityInternal_d00df 27 = .ok (.aload_n 0, 1) := by decide +kernel
theorem dJ5_ensureCapacityInternal_d00df_28 : decode cJ5_ensureCapacityInternal_d00df 28 = .ok (.getfield 22, 3) := by decide +kernel
theorem dJ5_ensureCapacityInternal_d00df_31 : decode cJ5_ensureCapacityInternal_d00df 31 = .ok (.ishl, 1) := by decide +kernel
theorem dJ5_ensureCapacityInternal_d00df_32 : decode cJ5_ensureCapacityInternal_d00df 32 = .ok (.invokestatic 108, 3) := by decide +kernel
theorem dJ5_ensureCapacityInternal_d00df_35 : decode cJ5_ensureCapacityInternal_d00df 35 = .ok (.putfield 15, 3) := by decide +kernel
theorem dJ5_ensureCapacityInternal_d00df_38 : decode cJ5_ensureCapacityInternal_d00df 38 = .ok (.return_, 1) := by decide +kernel
set_option maxRecDepth 20000 in
theorem ggJ5_newCapacity_0f7a4_J8_newLength_cabcc : GoodIn wsJ5_newCapacity_0f7a4 wsJ8_newLength_cabcc := goodIn_r _ [7, 8, 9, 10, 11, 12, 13, 14, 6, 15] (by decide +kernel) (by decide +kernel)
set_option maxRecDepth 20000 in
theorem gJ5_newCapacity_0f7a4_J8_newLength_cabcc : GoodIn wsJ5_newCapacity_0f7a4 (va_wsS RJ5 114 yJ8_newLength_cabcc wsJ8_newLength_cabcc) := goodIn_app (goodIn_of _ (by decide +kernel)) ggJ5_newCapacity_0f7a4_J8_newLength_cabcc
theorem dJ5_newCapacity_0f7a4_0 : decode cJ5_newCapacity_0f7a4 0 = .ok (.aload_n 0, 1) := by decide +kernel
theorem dJ5_newCapacity_0f7a4_1 : decode cJ5_newCapacity_0f7a4 1 = .ok (.getfield 15, 3) := by decide +kernel
theorem dJ5_newCapacity_0f7a4_4 : decode cJ5_newCapacity_0f7a4 4 = .ok (.arraylength, 1) := by decide +kernel
theorem dJ5_newCapacity_0f7a4_5 : decode cJ5_newCapacity_0f7a4 5 = .ok (.istore_n 2, 1) := by decide +kernel
theorem dJ5_newCapacity_0f7a4_6 : decode cJ5_newCapacity_0f7a4 6 = .ok (.iload_n 1, 1) := by decide +kernel
theorem dJ5_newCapacity_0f7a4_7 : decode cJ5_newCapacity_0f7a4 7 = .ok (.aload_n 0, 1) := by decide +kernel
theorem dJ5_newCapacity_0f7a4_8 : decode cJ5_newCapacity_0f7a4 8 = .ok (.getfield 22, 3) := by decide +kernel
theorem dJ5_newCapacity_0f7a4_11 : decode cJ5_newCapacity_0f7a4 11 = .ok (.ishl, 1) := by decide +kernel
theorem dJ5_newCapacity_0f7a4_12 : decode cJ5_newCapacity_0f7a4 12 = .ok (.istore_n 3, 1) := by decide +kernel
theorem dJ5_newCapacity_0f7a4_13 : decode cJ5_newCapacity_0f7a4 13 = .ok (.iload_n 3, 1) := by decide +kernel
theorem dJ5_newCapacity_0f7a4_14 : decode cJ5_newCapacity_0f7a4 14 = .ok (.iload_n 2, 1) := by decide +kernel
theorem dJ5_newCapacity_0f7a4_15 : decode cJ5_newCapacity_0f7a4 15 = .ok (.isub, 1) := by decide +kernel
theorem dJ5_newCapacity_0f7a4_16 : decode cJ5_newCapacity_0f7a4 16 = .ok (.istore 4, 2) := by decide +kernel
theorem dJ5_newCapacity_0f7a4_18 : decode cJ5_newCapacity_0f7a4 18 = .ok (.iload_n 2, 1) := by decide +kernel
theorem dJ5_newCapacity_0f7a4_19 : decode cJ5_newCapacity_0f7a4 19 = .ok (.iload 4, 2) := by decide +kernel
theorem dJ5_newCapacity_0f7a4_21 : decode cJ5_newCapacity_0f7a4 21 = .ok (.iload_n 2, 1) := by decide +kernel
theorem dJ5_newCapacity_0f7a4_22 : decode cJ5_newCapacity_0f7a4 22 = .ok (.iconst 2, 1) := by decide +kernel
theorem dJ5_newCapacity_0f7a4_23 : decode cJ5_newCapacity_0f7a4 23 = .ok (.aload_n 0, 1) := by decide +kernel
theorem dJ5_newCapacity_0f7a4_24 : decode cJ5_newCapacity_0f7a4 24 = .ok (.getfield 22, 3) := by decide +kernel
theorem dJ5_newCapacity_0f7a4_27 : decode cJ5_newCapacity_0f7a4 27 = .ok (.ishl, 1) := by decide +kernel
theorem dJ5_newCapacity_0f7a4_28 : decode cJ5_newCapacity_0f7a4 28 = .ok (.iadd, 1) := by decide +kernel
theorem dJ5_newCapacity_0f7a4_29 : decode cJ5_newCapacity_0f7a4 29 = .ok (.invokestatic 114, 3) := by decide +kernel
theorem dJ5_newCapacity_0f7a4_32 : decode cJ5_newCapacity_0f7a4 32 = .ok (.istore 5, 2) := by decide +kernel
theorem dJ5_newCapacity_0f7a4_34 : decode cJ5_newCapacity_0f7a4 34 = .ok (.iload 5, 2) := by decide +kernel
theorem dJ5_newCapacity_0f7a4_36 : decode cJ5_newCapacity_0f7a4 36 = .ok (.ldc 39, 2) := by decide +kernel
theorem dJ5_newCapacity_0f7a4_38 : decode cJ5_newCapacity_0f7a4 38 = .ok (.if_icmp .ne 13, 3) := by decide +kernel
theorem dJ5_newCapacity_0f7a4_41 : decode cJ5_newCapacity_0f7a4 41 = .ok (.new 120, 3) := by decide +kernel
theorem dJ5_newCapacity_0f7a4_44 : decode cJ5_newCapacity_0f7a4 44 = .ok (.dup, 1) := by decide +kernel
theorem dJ5_newCapacity_0f7a4_45 : decode cJ5_newCapacity_0f7a4 45 = .ok (.ldc 122, 2) := by decide +kernel
theorem dJ5_newCapacity_0f7a4_47 : decode cJ5_newCapacity_0f7a4 47 = .ok (.invokespecial 124, 3) := by decide +kernel
theorem dJ5_newCapacity_0f7a4_50 : decode cJ5_newCapacity_0f7a4 50 = .ok (.athrow, 1) := by decide +kernel
theorem dJ5_newCapacity_0f7a4_51 : decode cJ5_newCapacity_0f7a4 51 = .ok (.iload 5, 2) := by decide +kernel
theorem dJ5_newCapacity_0f7a4_53 : decode cJ5_newCapacity_0f7a4 53 = .ok (.aload_n 0, 1) := by decide +kernel
theorem dJ5_newCapacity_0f7a4_54 : decode cJ5_newCapacity_0f7a4 54 = .ok (.getfield 22, 3) := by decide +kernel
theorem dJ5_newCapacity_0f7a4_57 : decode cJ5_newCapacity_0f7a4 57 = .ok (.ishr, 1) := by decide +kernel
theorem dJ5_newCapacity_0f7a4_58 : decode cJ5_newCapacity_0f7a4 58 = .ok (.ireturn, 1) := by decide +kernel
set_option maxRecDepth 20000 in
theorem ggJ5_inflate_da8c8_J5_isLatin1_aae02 : GoodIn wsJ5_inflate_da8c8 wsJ5_isLatin1_aae02 := goodIn_r _ [9, 10, 3, 48, 49, 50, 51] (by decide +kernel) (by decide +kernel)
set_option maxRecDepth 20000 in
theorem gJ5_inflate_da8c8_J5_isLatin1_aae02_u83J4 : GoodIn wsJ5_inflate_da8c8 (va_wsU RJ5 83 RJ4 "java/lang/AbstractStringBuilder" ⟨"java/lang/AbstractStringBuilder", "isLatin1", "()Z"⟩ yJ5_isLatin1_aae02 wsJ5_isLatin1_aae02) := goodIn_app (goodIn_of _ (by decide +kernel)) ggJ5_inflate_da8c8_J5_isLatin1_aae02
set_option maxRecDepth 20000 in
theorem ggJ5_inflate_da8c8_J2_newBytesFor_77867 : GoodIn wsJ5_inflate_da8c8 wsJ2_newBytesFor_77867 := goodIn_r _ [14, 15, 16, 17, 13, 18, 19] (by decide +kernel) (by decide +kernel)
set_option maxRecDepth 20000 in
theorem gJ5_inflate_da8c8_J2_newBytesFor_77867 : GoodIn wsJ5_inflate_da8c8 (va_wsS RJ5 26 yJ2_newBytesFor_77867 wsJ2_newBytesFor_77867) := goodIn_app (goodIn_of _ (by decide +kernel)) ggJ5_inflate_da8c8_J2_newBytesFor_77867
set_option maxRecDepth 20000 in
theorem ggJ5_inflate_da8c8_J1_inflate_0e8fd : GoodIn wsJ5_inflate_da8c8 wsJ1_inflate_0e8fd := goodIn_r _ [23, 24, 25, 13, 26, 27, 28, 29, 30, 31, 32, 33, 34, 35, 36, 37, 38, 39, 40, 41, 42, 43, 44, 45, 46, 47] (by decide +kernel) (by decide +kernel)
set_option maxRecDepth 20000 in
theorem gJ5_inflate_da8c8_J1_inflate_0e8fd : GoodIn wsJ5_inflate_da8c8 (va_wsS RJ5 125 yJ1_inflate_0e8fd wsJ1_inflate_0e8fd) := goodIn_app (goodIn_of _ (by decide +kernel)) ggJ5_inflate_da8c8_J1_inflate_0e8fd
theorem dJ5_inflate_da8c8_0 : decode cJ5_inflate_da8c8 0 = .ok (.aload_n 0, 1) := by decide +kernel
theorem dJ5_inflate_da8c8_1 : decode cJ5_inflate_da8c8 1 = .ok (.invokevirtual 83, 3) := by decide +kernel
theorem dJ5_inflate_da8c8_4 : decode cJ5_inflate_da8c8 4 = .ok (.ifCond .ne 4, 3) := by decide +kernel
theorem dJ5_inflate_da8c8_7 : decode cJ5_inflate_da8c8 7 = .ok (.return_, 1) := by decide +kernel
theorem dJ5_inflate_da8c8_8 : decode cJ5_inflate_da8c8 8 = .ok (.aload_n 0, 1) := by decide +kernel
theorem dJ5_inflate_da8c8_9 : decode cJ5_inflate_da8c8 9 = .ok (.getfield 15, 3) := by decide +kernel
theorem dJ5_inflate_da8c8_12 : decode cJ5_inflate_da8c8 12 = .ok (.arraylength, 1) := by decide +kernel
theorem dJ5_inflate_da8c8_13 : decode cJ5_inflate_da8c8 13 = .ok (.invokestatic 26, 3) := by decide +kernel
theorem dJ5_inflate_da8c8_16 : decode cJ5_inflate_da8c8 16 = .ok (.astore_n 1, 1) := by decide +kernel
theorem dJ5_inflate_da8c8_17 : decode cJ5_inflate_da8c8 17 = .ok (.aload_n 0, 1) := by decide +kernel
theorem dJ5_inflate_da8c8_18 : decode cJ5_inflate_da8c8 18 = .ok (.getfield 15, 3) := by decide +kernel
theorem dJ5_inflate_da8c8_21 : decode cJ5_inflate_da8c8 21 = .ok (.iconst 0, 1) := by decide +kernel
theorem dJ5_inflate_da8c8_22 : decode cJ5_inflate_da8c8 22 = .ok (.aload_n 1, 1) := by decide +kernel
theorem dJ5_inflate_da8c8_23 : decode cJ5_inflate_da8c8 23 = .ok (.iconst 0, 1) := by decide +kernel
theorem dJ5_inflate_da8c8_24 : decode cJ5_inflate_da8c8 24 = .ok (.aload_n 0, 1) := by decide +kernel
theorem dJ5_inflate_da8c8_25 : decode cJ5_inflate_da8c8 25 = .ok (.getfield 79, 3) := by decide +kernel
theorem dJ5_inflate_da8c8_28 : decode cJ5_inflate_da8c8 28 = .ok (.invokestatic 125, 3) := by decide +kernel
theorem dJ5_inflate_da8c8_31 : decode cJ5_inflate_da8c8 31 = .ok (.aload_n 0, 1) := by decide +kernel
theorem dJ5_inflate_da8c8_32 : decode cJ5_inflate_da8c8 32 = .ok (.aload_n 1, 1) := by decide +kernel
theorem dJ5_inflate_da8c8_33 : decode cJ5_inflate_da8c8 33 = .ok (.putfield 15, 3) := by decide +kernel
theorem dJ5_inflate_da8c8_36 : decode cJ5_inflate_da8c8 36 = .ok (.aload_n 0, 1) := by decide +kernel
theorem dJ5_inflate_da8c8_37 : decode cJ5_inflate_da8c8 37 = .ok (.iconst 1, 1) := by decide +kernel
theorem dJ5_inflate_da8c8_38 : decode cJ5_inflate_da8c8 38 = .ok (.putfield 22, 3) := by decide +kernel
theorem dJ5_inflate_da8c8_41 : decode cJ5_inflate_da8c8 41 = .ok (.return_, 1) := by decide +kernel
set_option maxRecDepth 20000 in
theorem ggJ5_setLength_d00df_J5_ensureCapacityInternal_d00df : GoodIn wsJ5_setLength_d00df wsJ5_ensureCapacityInternal_d00df := goodIn_r _ [9, 2, 10, 11, 12, 13, 14, 8, 15, 16, 17, 18, 19, 20, 21, 22, 23, 24, 25, 26, 27, 28, 29, 30, 31, 32, 33, 34, 35, 36, 37, 38, 39, 40, 41, 42, 43, 44, 45, 46, 68, 69, 70, 71] (by decide +kernel) (by decide +kernel)
set_option maxRecDepth 20000 in
theorem gJ5_setLength_d00df_J5_ensureCapacityInternal_d00df_u100J4 : GoodIn wsJ5_setLength_d00df (va_wsU RJ5 100 RJ4 "java/lang/AbstractStringBuilder" ⟨"java/lang/AbstractStringBuilder", "ensureCapacityInternal", "(I)V"⟩ yJ5_ensureCapacityInternal_d00df wsJ5_ensureCapacityInternal_d00df) := goodIn_app (goodIn_of _ (by decide +kernel)) ggJ5_setLength_d00df_J5_ensureCapacityInternal_d00df
set_option maxRecDepth 20000 in
theorem ggJ5_setLength_d00df_J5_isLatin1_aae02 : GoodIn wsJ5_setLength_d00df wsJ5_isLatin1_aae02 := goodIn_r _ [51, 52, 10, 68, 69, 70, 71] (by decide +kernel) (by decide +kernel)
set_option maxRecDepth 20000 in
theorem gJ5_setLength_d00df_J5_isLatin1_aae02_u83J4 : GoodIn wsJ5_setLength_d00df (va_wsU RJ5 83 RJ4 "java/lang/AbstractStringBuilder" ⟨"java/lang/AbstractStringBuilder", "isLatin1", "()Z"⟩ yJ5_isLatin1_aae02 wsJ5_isLatin1_aae02) := goodIn_app (goodIn_of _ (by decide +kernel)) ggJ5_setLength_d00df_J5_isLatin1_aae02
set_option maxRecDepth 20000 in
theorem ggJ5_setLength_d00df_J1_fillNull_b72d1 : GoodIn wsJ5_setLength_d00df wsJ1_fillNull_b72d1 := goodIn_r _ [56, 57, 58, 31, 59, 60, 61, 62] (by decide +kernel) (by decide +kernel)
set_option maxRecDepth 20000 in
theorem gJ5_setLength_d00df_J1_fillNull_b72d1 : GoodIn wsJ5_setLength_d00df (va_wsS RJ5 133 yJ1_fillNull_b72d1 wsJ1_fillNull_b72d1) := goodIn_app (goodIn_of _ (by decide +kernel)) ggJ5_setLength_d00df_J1_fillNull_b72d1
set_option maxRecDepth 20000 in
theorem ggJ5_setLength_d00df_J2_fillNull_b72d1 : GoodIn wsJ5_setLength_d00df wsJ2_fillNull_b72d1 := goodIn_r _ [66, 67, 58, 31, 59, 60, 61, 62] (by decide +kernel) (by decide +kernel)
set_option maxRecDepth 20000 in
theorem gJ5_setLength_d00df_J2_fillNull_b72d1 : GoodIn wsJ5_setLength_d00df (va_wsS RJ5 137 yJ2_fillNull_b72d1 wsJ2_fillNull_b72d1) := goodIn_app (goodIn_of _ (by decide +kernel)) ggJ5_setLength_d00df_J2_fillNull_b72d1
theorem dJ5_setLength_d00df_0 : decode cJ5_setLength_d00df 0 = .ok (.iload_n 1, 1) := by decide +kernel
theorem dJ5_setLength_d00df_1 : decode cJ5_setLength_d00df 1 = .ok (.ifCond .ge 12, 3) := by decide +kernel
theorem dJ5_setLength_d00df_4 : decode cJ5_setLength_d00df 4 = .ok (.new 129, 3) := by decide +kernel
theorem dJ5_setLength_d00df_7 : decode cJ5_setLength_d00df 7 = .ok (.dup, 1) := by decide +kernel
theorem dJ5_setLength_d00df_8 : decode cJ5_setLength_d00df 8 = .ok (.iload_n 1, 1) := by decide +kernel
theorem dJ5_setLength_d00df_9 : decode cJ5_setLength_d00df 9 = .ok (.invokespecial 131, 3) := by decide +kernel
theorem dJ5_setLength_d00df_12 : decode cJ5_setLength_d00df 12 = .ok (.athrow, 1) := by decide +kernel
theorem dJ5_setLength_d00df_13 : decode cJ5_setLength_d00df 13 = .ok (.aload_n 0, 1) := by decide +kernel
theorem dJ5_setLength_d00df_14 : decode cJ5_setLength_d00df 14 = .ok (.iload_n 1, 1) := by decide +kernel
theorem dJ5_setLength_d00df_15 : decode cJ5_setLength_d00df 15 = .ok (.invokevirtual 100, 3) := by decide +kernel
theorem dJ5_setLength_d00df_18 : decode cJ5_setLength_d00df 18 = .ok (.aload_n 0, 1) := by decide +kernel
theorem dJ5_setLength_d00df_19 : decode cJ5_setLength_d00df 19 = .ok (.getfield 79, 3) := by decide +kernel
theorem dJ5_setLength_d00df_22 : decode cJ5_setLength_d00df 22 = .ok (.iload_n 1, 1) := by decide +kernel
theorem dJ5_setLength_d00df_23 : decode cJ5_setLength_d00df 23 = .ok (.if_icmp .ge 40, 3) := by decide +kernel
theorem dJ5_setLength_d00df_26 : decode cJ5_setLength_d00df 26 = .ok (.aload_n 0, 1) := by decide +kernel
theorem dJ5_setLength_d00df_27 : decode cJ5_setLength_d00df 27 = .ok (.invokevirtual 83, 3) := by decide +kernel
theorem dJ5_setLength_d00df_30 : decode cJ5_setLength_d00df 30 = .ok (.ifCond .eq 18, 3) := by decide +kernel
theorem dJ5_setLength_d00df_33 : decode cJ5_setLength_d00df 33 = .ok (.aload_n 0, 1) := by decide +kernel
theorem dJ5_setLength_d00df_34 : decode cJ5_setLength_d00df 34 = .ok (.getfield 15, 3) := by decide +kernel
theorem dJ5_setLength_d00df_37 : decode cJ5_setLength_d00df 37 = .ok (.aload_n 0, 1) := by decide +kernel
theorem dJ5_setLength_d00df_38 : decode cJ5_setLength_d00df 38 = .ok (.getfield 79, 3) := by decide +kernel
theorem dJ5_setLength_d00df_41 : decode cJ5_setLength_d00df 41 = .ok (.iload_n 1, 1) := by decide +kernel
theorem dJ5_setLength_d00df_42 : decode cJ5_setLength_d00df 42 = .ok (.invokestatic 133, 3) := by decide +kernel
theorem dJ5_setLength_d00df_45 : decode cJ5_setLength_d00df 45 = .ok (.goto 31, 3) := by decide +kernel
theorem dJ5_setLength_d00df_48 : decode cJ5_setLength_d00df 48 = .ok (.aload_n 0, 1) := by decide +kernel
theorem dJ5_setLength_d00df_49 : decode cJ5_setLength_d00df 49 = .ok (.getfield 15, 3) := by decide +kernel
theorem dJ5_setLength_d00df_52 : decode cJ5_setLength_d00df 52 = .ok (.aload_n 0, 1) := by decide +kernel
theorem dJ5_setLength_d00df_53 : decode cJ5_setLength_d00df 53 = .ok (.getfield 79, 3) := by decide +kernel
theorem dJ5_setLength_d00df_56 : decode cJ5_setLength_d00df 56 = .ok (.iload_n 1, 1) := by decide +kernel
theorem dJ5_setLength_d00df_57 : decode cJ5_setLength_d00df 57 = .ok (.invokestatic 137, 3) := by decide +kernel
theorem dJ5_setLength_d00df_60 : decode cJ5_setLength_d00df 60 = .ok (.goto 16, 3) := by decide +kernel
theorem dJ5_setLength_d00df_63 : decode cJ5_setLength_d00df 63 = .ok (.aload_n 0, 1) := by decide +kernel
theorem dJ5_setLength_d00df_64 : decode cJ5_setLength_d00df 64 = .ok (.getfield 79, 3) := by decide +kernel
theorem dJ5_setLength_d00df_67 : decode cJ5_setLength_d00df 67 = .ok (.iload_n 1, 1) := by decide +kernel
theorem dJ5_setLength_d00df_68 : decode cJ5_setLength_d00df 68 = .ok (.if_icmp .le 8, 3) := by decide +kernel
theorem dJ5_setLength_d00df_71 : decode cJ5_setLength_d00df 71 = .ok (.aload_n 0, 1) := by decide +kernel
theorem dJ5_setLength_d00df_72 : decode cJ5_setLength_d00df 72 = .ok (.iconst 1, 1) := by decide +kernel
theorem dJ5_setLength_d00df_73 : decode cJ5_setLength_d00df 73 = .ok (.putfield 73, 3) := by decide +kernel
theorem dJ5_setLength_d00df_76 : decode cJ5_setLength_d00df 76 = .ok (.aload_n 0, 1) := by decide +kernel
theorem dJ5_setLength_d00df_77 : decode cJ5_setLength_d00df 77 = .ok (.iload_n 1, 1) := by decide +kernel
theorem dJ5_setLength_d00df_78 : decode cJ5_setLength_d00df 78 = .ok (.putfield 79, 3) := by decide +kernel
theorem dJ5_setLength_d00df_81 : decode cJ5_setLength_d00df 81 = .ok (.return_, 1) := by decide +kernel
set_option maxRecDepth 20000 in
theorem ggJ5_charAt_5068e_J0_checkIndex_df160 : GoodIn wsJ5_charAt_5068e wsJ0_checkIndex_df160 := goodIn_r _ [11, 12, 13, 14, 15, 16] (by decide +kernel) (by decide +kernel)
set_option maxRecDepth 20000 in
theorem gJ5_charAt_5068e_J0_checkIndex_df160 : GoodIn wsJ5_charAt_5068e (va_wsS RJ5 144 yJ0_checkIndex_df160 wsJ0_checkIndex_df160) := goodIn_app (goodIn_of _ (by decide +kernel)) ggJ5_charAt_5068e_J0_checkIndex_df160
set_option maxRecDepth 20000 in
theorem ggJ5_charAt_5068e_J2_getChar_3b067 : GoodIn wsJ5_charAt_5068e wsJ2_getChar_3b067 := goodIn_r _ [20, 21, 22, 23, 24, 25, 19, 26] (by decide +kernel) (by decide +kernel)
set_option maxRecDepth 20000 in
theorem gJ5_charAt_5068e_J2_getChar_3b067 : GoodIn wsJ5_charAt_5068e (va_wsS RJ5 148 yJ2_getChar_3b067 wsJ2_getChar_3b067) := goodIn_app (goodIn_of _ (by decide +kernel)) ggJ5_charAt_5068e_J2_getChar_3b067
theorem dJ5_charAt_5068e_0 : decode cJ5_charAt_5068e 0 = .ok (.aload_n 0, 1) := by decide +kernel
theorem dJ5_charAt_5068e_1 : decode cJ5_charAt_5068e 1 = .ok (.getfield 22, 3) := by decide +kernel
theorem dJ5_charAt_5068e_4 : decode cJ5_charAt_5068e 4 = .ok (.istore_n 2, 1) := by decide +kernel
theorem dJ5_charAt_5068e_5 : decode cJ5_charAt_5068e 5 = .ok (.aload_n 0, 1) := by decide +kernel
theorem dJ5_charAt_5068e_6 : decode cJ5_charAt_5068e 6 = .ok (.getfield 15, 3) := by decide +kernel
theorem dJ5_charAt_5068e_9 : decode cJ5_charAt_5068e 9 = .ok (.astore_n 3, 1) := by decide +kernel
theorem dJ5_charAt_5068e_10 : decode cJ5_charAt_5068e 10 = .ok (.aload_n 0, 1) := by decide +kernel
theorem dJ5_charAt_5068e_11 : decode cJ5_charAt_5068e 11 = .ok (.getfield 79, 3) := by decide +kernel
theorem dJ5_charAt_5068e_14 : decode cJ5_charAt_5068e 14 = .ok (.aload_n 3, 1) := by decide +kernel
theorem dJ5_charAt_5068e_15 : decode cJ5_charAt_5068e 15 = .ok (.arraylength, 1) := by decide +kernel
theorem dJ5_charAt_5068e_16 : decode cJ5_charAt_5068e 16 = .ok (.iload_n 2, 1) := by decide +kernel
theorem dJ5_charAt_5068e_17 : decode cJ5_charAt_5068e 17 = .ok (.ishr, 1) := by decide +kernel
theorem dJ5_charAt_5068e_18 : decode cJ5_charAt_5068e 18 = .ok (.invokestatic 138, 3) := by decide +kernel
theorem dJ5_charAt_5068e_21 : decode cJ5_charAt_5068e 21 = .ok (.istore 4, 2) := by decide +kernel
theorem dJ5_charAt_5068e_23 : decode cJ5_charAt_5068e 23 = .ok (.iload_n 1, 1) := by decide +kernel
theorem dJ5_charAt_5068e_24 : decode cJ5_charAt_5068e 24 = .ok (.iload 4, 2) := by decide +kernel
theorem dJ5_charAt_5068e_26 : decode cJ5_charAt_5068e 26 = .ok (.invokestatic 144, 3) := by decide +kernel
theorem dJ5_charAt_5068e_29 : decode cJ5_charAt_5068e 29 = .ok (.iload_n 2, 1) := by decide +kernel
theorem dJ5_charAt_5068e_30 : decode cJ5_charAt_5068e 30 = .ok (.ifCond .ne 12, 3) := by decide +kernel
theorem dJ5_charAt_5068e_33 : decode cJ5_charAt_5068e 33 = .ok (.aload_n 3, 1) := by decide +kernel
theorem dJ5_charAt_5068e_34 : decode cJ5_charAt_5068e 34 = .ok (.iload_n 1, 1) := by decide +kernel
theorem dJ5_charAt_5068e_35 : decode cJ5_charAt_5068e 35 = .ok (.baload, 1) := by decide +kernel
theorem dJ5_charAt_5068e_36 : decode cJ5_charAt_5068e 36 = .ok (.sipush 255, 3) := by decide +kernel
theorem dJ5_charAt_5068e_39 : decode cJ5_charAt_5068e 39 = .ok (.iand, 1) := by decide +kernel
theorem dJ5_charAt_5068e_40 : decode cJ5_charAt_5068e 40 = .ok (.i2c, 1) := by decide +kernel
theorem dJ5_charAt_5068e_41 : decode cJ5_charAt_5068e 41 = .ok (.ireturn, 1) := by decide +kernel
theorem dJ5_charAt_5068e_42 : decode cJ5_charAt_5068e 42 = .ok (.aload_n 3, 1) := by decide +kernel
theorem dJ5_charAt_5068e_43 : decode cJ5_charAt_5068e 43 = .ok (.iload_n 1, 1) := by decide +kernel
theorem dJ5_charAt_5068e_44 : decode cJ5_charAt_5068e 44 = .ok (.invokestatic 148, 3) := by decide +kernel
theorem dJ5_charAt_5068e_47 : decode cJ5_charAt_5068e 47 = .ok (.ireturn, 1) := by decide +kernel
set_option maxRecDepth 20000 in
theorem ggJ5_append_3fe6f_J5_ensureCapacityInternal_d00df : GoodIn wsJ5_append_3fe6f wsJ5_ensureCapacityInternal_d00df := goodIn_r _ [8, 2, 9, 10, 11, 12, 13, 7, 14, 15, 16, 17, 18, 19, 20, 21, 22, 23, 24, 25, 26, 27, 28, 29, 30, 31, 32, 33, 34, 35, 36, 37, 38, 39, 40, 41, 42, 43, 44, 45, 108, 109, 110, 111] (by decide +kernel) (by decide +kernel)
set_option maxRecDepth 20000 in
theorem gJ5_append_3fe6f_J5_ensureCapacityInternal_d00df_u100J4 : GoodIn wsJ5_append_3fe6f (va_wsU RJ5 100 RJ4 "java/lang/AbstractStringBuilder" ⟨"java/lang/AbstractStringBuilder", "ensureCapacityInternal", "(I)V"⟩ yJ5_ensureCapacityInternal_d00df wsJ5_ensureCapacityInternal_d00df) := goodIn_app (goodIn_of _ (by decide +kernel)) ggJ5_append_3fe6f_J5_ensureCapacityInternal_d00df
set_option maxRecDepth 20000 in
theorem ggJ5_append_3fe6f_J5_isLatin1_aae02 : GoodIn wsJ5_append_3fe6f wsJ5_isLatin1_aae02 := goodIn_r _ [50, 51, 9, 108, 109, 110, 111] (by decide +kernel) (by decide +kernel)
set_option maxRecDepth 20000 in
theorem gJ5_append_3fe6f_J5_isLatin1_aae02_u83J4 : GoodIn wsJ5_append_3fe6f (va_wsU RJ5 83 RJ4 "java/lang/AbstractStringBuilder" ⟨"java/lang/AbstractStringBuilder", "isLatin1", "()Z"⟩ yJ5_isLatin1_aae02 wsJ5_isLatin1_aae02) := goodIn_app (goodIn_of _ (by decide +kernel)) ggJ5_append_3fe6f_J5_isLatin1_aae02
set_option maxRecDepth 20000 in
theorem ggJ5_append_3fe6f_J1_canEncode_fc78d : GoodIn wsJ5_append_3fe6f wsJ1_canEncode_fc78d := goodIn_r _ [55] (by decide +kernel) (by decide +kernel)
set_option maxRecDepth 20000 in
theorem gJ5_append_3fe6f_J1_canEncode_fc78d : GoodIn wsJ5_append_3fe6f (va_wsS RJ5 191 yJ1_canEncode_fc78d wsJ1_canEncode_fc78d) := goodIn_app (goodIn_of _ (by decide +kernel)) ggJ5_append_3fe6f_J1_canEncode_fc78d
set_option maxRecDepth 20000 in
theorem ggJ5_append_3fe6f_J5_inflate_da8c8 : GoodIn wsJ5_append_3fe6f wsJ5_inflate_da8c8 := goodIn_r _ [60, 2, 1, 9, 46, 47, 48, 49, 7, 50, 51, 61, 62, 63, 64, 38, 65, 66, 67, 68, 69, 70, 54, 71, 72, 73, 74, 75, 76, 77, 78, 79, 80, 81, 82, 83, 84, 85, 86, 87, 88, 89, 90, 91, 92, 93, 94, 95, 108, 109, 110, 111] (by decide +kernel) (by decide +kernel)
set_option maxRecDepth 20000 in
theorem gJ5_append_3fe6f_J5_inflate_da8c8_u195J4 : GoodIn wsJ5_append_3fe6f (va_wsU RJ5 195 RJ4 "java/lang/AbstractStringBuilder" ⟨"java/lang/AbstractStringBuilder", "inflate", "()V"⟩ yJ5_inflate_da8c8 wsJ5_inflate_da8c8) := goodIn_app (goodIn_of _ (by decide +kernel)) ggJ5_append_3fe6f_J5_inflate_da8c8
set_option maxRecDepth 20000 in
theorem ggJ5_append_3fe6f_J2_putCharSB_b72d1 : GoodIn wsJ5_append_3fe6f wsJ2_putCharSB_b72d1 := goodIn_r _ [98, 99, 100, 63, 101, 78, 79, 80, 102, 103, 83, 104, 85, 105, 106, 88, 107, 90, 91, 92, 93, 94, 95] (by decide +kernel) (by decide +kernel)
set_option maxRecDepth 20000 in
theorem gJ5_append_3fe6f_J2_putCharSB_b72d1 : GoodIn wsJ5_append_3fe6f (va_wsS RJ5 197 yJ2_putCharSB_b72d1 wsJ2_putCharSB_b72d1) := goodIn_app (goodIn_of _ (by decide +kernel)) ggJ5_append_3fe6f_J2_putCharSB_b72d1
