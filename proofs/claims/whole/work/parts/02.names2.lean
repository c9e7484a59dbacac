theorem dX2_split_26 : decode cX2_split 26 = .ok (.getfield 9, 3) := by decide +kernel
theorem dX2_split_29 : decode cX2_split 29 = .ok (.iload_n 1, 1) := by decide +kernel
theorem dX2_split_30 : decode cX2_split 30 = .ok (.iload 5, 2) := by decide +kernel
theorem dX2_split_32 : decode cX2_split 32 = .ok (.iastore, 1) := by decide +kernel
theorem dX2_split_33 : decode cX2_split 33 = .ok (.aload_n 0, 1) := by decide +kernel
theorem dX2_split_34 : decode cX2_split 34 = .ok (.getfield 9, 3) := by decide +kernel
theorem dX2_split_37 : decode cX2_split 37 = .ok (.iload_n 2, 1) := by decide +kernel
theorem dX2_split_38 : decode cX2_split 38 = .ok (.iload_n 3, 1) := by decide +kernel
theorem dX2_split_39 : decode cX2_split 39 = .ok (.iload 5, 2) := by decide +kernel
theorem dX2_split_41 : decode cX2_split 41 = .ok (.iconst (-1), 1) := by decide +kernel
theorem dX2_split_42 : decode cX2_split 42 = .ok (.ixor, 1) := by decide +kernel
theorem dX2_split_43 : decode cX2_split 43 = .ok (.iand, 1) := by decide +kernel
theorem dX2_split_44 : decode cX2_split 44 = .ok (.iastore, 1) := by decide +kernel
theorem dX2_split_45 : decode cX2_split 45 = .ok (.aload_n 0, 1) := by decide +kernel
theorem dX2_split_46 : decode cX2_split 46 = .ok (.getfield 17, 3) := by decide +kernel
theorem dX2_split_49 : decode cX2_split 49 = .ok (.iload_n 2, 1) := by decide +kernel
theorem dX2_split_50 : decode cX2_split 50 = .ok (.aaload, 1) := by decide +kernel
theorem dX2_split_51 : decode cX2_split 51 = .ok (.aload_n 0, 1) := by decide +kernel
theorem dX2_split_52 : decode cX2_split 52 = .ok (.getfield 17, 3) := by decide +kernel
theorem dX2_split_55 : decode cX2_split 55 = .ok (.iload_n 1, 1) := by decide +kernel
theorem dX2_split_56 : decode cX2_split 56 = .ok (.aaload, 1) := by decide +kernel
theorem dX2_split_57 : decode cX2_split 57 = .ok (.invokevirtual 37, 3) := by decide +kernel
theorem dX2_split_60 : decode cX2_split 60 = .ok (.return_, 1) := by decide +kernel
set_option maxRecDepth 20000 in
theorem ggX2_lowestCells_J6_bitCount_0f7a4 : GoodIn wsX2_lowestCells wsJ6_bitCount_0f7a4 := goodIn_r _ [4, 5, 6, 7] (by decide +kernel) (by decide +kernel)
set_option maxRecDepth 20000 in
theorem gX2_lowestCells_J6_bitCount_0f7a4 : GoodIn wsX2_lowestCells (va_wsS RX2 55 yJ6_bitCount_0f7a4 wsJ6_bitCount_0f7a4) := goodIn_app (goodIn_of _ (by decide +kernel)) ggX2_lowestCells_J6_bitCount_0f7a4
theorem dX2_lowestCells_0 : decode cX2_lowestCells 0 = .ok (.iconst 0, 1) := by decide +kernel
theorem dX2_lowestCells_1 : decode cX2_lowestCells 1 = .ok (.istore_n 2, 1) := by decide +kernel
theorem dX2_lowestCells_2 : decode cX2_lowestCells 2 = .ok (.iconst 0, 1) := by decide +kernel
theorem dX2_lowestCells_3 : decode cX2_lowestCells 3 = .ok (.istore_n 3, 1) := by decide +kernel
theorem dX2_lowestCells_4 : decode cX2_lowestCells 4 = .ok (.iload_n 3, 1) := by decide +kernel
theorem dX2_lowestCells_5 : decode cX2_lowestCells 5 = .ok (.bipush 16, 2) := by decide +kernel
theorem dX2_lowestCells_7 : decode cX2_lowestCells 7 = .ok (.if_icmp .ge 25, 3) := by decide +kernel
theorem dX2_lowestCells_10 : decode cX2_lowestCells 10 = .ok (.iload_n 2, 1) := by decide +kernel
theorem dX2_lowestCells_11 : decode cX2_lowestCells 11 = .ok (.invokestatic 55, 3) := by decide +kernel
theorem dX2_lowestCells_14 : decode cX2_lowestCells 14 = .ok (.iload_n 1, 1) := by decide +kernel
theorem dX2_lowestCells_15 : decode cX2_lowestCells 15 = .ok (.if_icmp .ge 11, 3) := by decide +kernel
theorem dX2_lowestCells_18 : decode cX2_lowestCells 18 = .ok (.iload_n 2, 1) := by decide +kernel
theorem dX2_lowestCells_19 : decode cX2_lowestCells 19 = .ok (.iload_n 0, 1) := by decide +kernel
theorem dX2_lowestCells_20 : decode cX2_lowestCells 20 = .ok (.iconst 1, 1) := by decide +kernel
theorem dX2_lowestCells_21 : decode cX2_lowestCells 21 = .ok (.iload_n 3, 1) := by decide +kernel
theorem dX2_lowestCells_22 : decode cX2_lowestCells 22 = .ok (.ishl, 1) := by decide +kernel
theorem dX2_lowestCells_23 : decode cX2_lowestCells 23 = .ok (.iand, 1) := by decide +kernel
theorem dX2_lowestCells_24 : decode cX2_lowestCells 24 = .ok (.ior, 1) := by decide +kernel
theorem dX2_lowestCells_25 : decode cX2_lowestCells 25 = .ok (.istore_n 2, 1) := by decide +kernel
theorem dX2_lowestCells_26 : decode cX2_lowestCells 26 = .ok (.iinc 3 1, 3) := by decide +kernel
theorem dX2_lowestCells_29 : decode cX2_lowestCells 29 = .ok (.goto (-25), 3) := by decide +kernel
theorem dX2_lowestCells_32 : decode cX2_lowestCells 32 = .ok (.iload_n 2, 1) := by decide +kernel
theorem dX2_lowestCells_33 : decode cX2_lowestCells 33 = .ok (.ireturn, 1) := by decide +kernel
set_option maxRecDepth 20000 in
theorem ggX2_merge_X1_takeOver : GoodIn wsX2_merge wsX1_takeOver := goodIn_r _ [7, 8, 9, 10, 11, 12, 13, 14, 22, 23, 24] (by decide +kernel) (by decide +kernel)
set_option maxRecDepth 20000 in
theorem gX2_merge_X1_takeOver : GoodIn wsX2_merge (wsV RX2 65 RX1 yX1_takeOver wsX1_takeOver) := goodIn_app (goodIn_of _ (by decide +kernel)) ggX2_merge_X1_takeOver
theorem dX2_merge_0 : decode cX2_merge 0 = .ok (.aload_n 0, 1) := by decide +kernel
theorem dX2_merge_1 : decode cX2_merge 1 = .ok (.getfield 17, 3) := by decide +kernel
theorem dX2_merge_4 : decode cX2_merge 4 = .ok (.iload_n 2, 1) := by decide +kernel
theorem dX2_merge_5 : decode cX2_merge 5 = .ok (.aaload, 1) := by decide +kernel
theorem dX2_merge_6 : decode cX2_merge 6 = .ok (.aload_n 0, 1) := by decide +kernel
theorem dX2_merge_7 : decode cX2_merge 7 = .ok (.getfield 17, 3) := by decide +kernel
theorem dX2_merge_10 : decode cX2_merge 10 = .ok (.iload_n 1, 1) := by decide +kernel
theorem dX2_merge_11 : decode cX2_merge 11 = .ok (.aaload, 1) := by decide +kernel
theorem dX2_merge_12 : decode cX2_merge 12 = .ok (.invokevirtual 65, 3) := by decide +kernel
theorem dX2_merge_15 : decode cX2_merge 15 = .ok (.aload_n 0, 1) := by decide +kernel
theorem dX2_merge_16 : decode cX2_merge 16 = .ok (.getfield 9, 3) := by decide +kernel
theorem dX2_merge_19 : decode cX2_merge 19 = .ok (.iload_n 2, 1) := by decide +kernel
theorem dX2_merge_20 : decode cX2_merge 20 = .ok (.dup2, 1) := by decide +kernel
theorem dX2_merge_21 : decode cX2_merge 21 = .ok (.iaload, 1) := by decide +kernel
theorem dX2_merge_22 : decode cX2_merge 22 = .ok (.aload_n 0, 1) := by decide +kernel
theorem dX2_merge_23 : decode cX2_merge 23 = .ok (.getfield 9, 3) := by decide +kernel
theorem dX2_merge_26 : decode cX2_merge 26 = .ok (.iload_n 1, 1) := by decide +kernel
theorem dX2_merge_27 : decode cX2_merge 27 = .ok (.iaload, 1) := by decide +kernel
theorem dX2_merge_28 : decode cX2_merge 28 = .ok (.ior, 1) := by decide +kernel
theorem dX2_merge_29 : decode cX2_merge 29 = .ok (.iastore, 1) := by decide +kernel
theorem dX2_merge_30 : decode cX2_merge 30 = .ok (.aload_n 0, 1) := by decide +kernel
theorem dX2_merge_31 : decode cX2_merge 31 = .ok (.getfield 9, 3) := by decide +kernel
theorem dX2_merge_34 : decode cX2_merge 34 = .ok (.iload_n 1, 1) := by decide +kernel
theorem dX2_merge_35 : decode cX2_merge 35 = .ok (.iconst 0, 1) := by decide +kernel
theorem dX2_merge_36 : decode cX2_merge 36 = .ok (.iastore, 1) := by decide +kernel
theorem dX2_merge_37 : decode cX2_merge 37 = .ok (.return_, 1) := by decide +kernel
set_option maxRecDepth 20000 in
theorem ggX2_addEvent_X1_raise : GoodIn wsX2_addEvent wsX1_raise := goodIn_r _ [9, 10, 11, 12, 13, 8, 14, 15, 16, 17, 18, 19, 20, 21, 22, 23, 24, 25, 39, 40, 41] (by decide +kernel) (by decide +kernel)
set_option maxRecDepth 20000 in
theorem gX2_addEvent_X1_raise : GoodIn wsX2_addEvent (wsV RX2 68 RX1 yX1_raise wsX1_raise) := goodIn_app (goodIn_of _ (by decide +kernel)) ggX2_addEvent_X1_raise
set_option maxRecDepth 20000 in
theorem ggX2_addEvent_X1_learn : GoodIn wsX2_addEvent wsX1_learn := goodIn_r _ [29, 30, 31, 39, 40, 41] (by decide +kernel) (by decide +kernel)
set_option maxRecDepth 20000 in
theorem gX2_addEvent_X1_learn : GoodIn wsX2_addEvent (wsV RX2 72 RX1 yX1_learn wsX1_learn) := goodIn_app (goodIn_of _ (by decide +kernel)) ggX2_addEvent_X1_learn
theorem dX2_addEvent_0 : decode cX2_addEvent 0 = .ok (.aload_n 0, 1) := by decide +kernel
theorem dX2_addEvent_1 : decode cX2_addEvent 1 = .ok (.getfield 45, 3) := by decide +kernel
theorem dX2_addEvent_4 : decode cX2_addEvent 4 = .ok (.istore_n 2, 1) := by decide +kernel
theorem dX2_addEvent_5 : decode cX2_addEvent 5 = .ok (.aload_n 0, 1) := by decide +kernel
theorem dX2_addEvent_6 : decode cX2_addEvent 6 = .ok (.getfield 17, 3) := by decide +kernel
theorem dX2_addEvent_9 : decode cX2_addEvent 9 = .ok (.iload_n 1, 1) := by decide +kernel
theorem dX2_addEvent_10 : decode cX2_addEvent 10 = .ok (.aaload, 1) := by decide +kernel
theorem dX2_addEvent_11 : decode cX2_addEvent 11 = .ok (.aload_n 0, 1) := by decide +kernel
theorem dX2_addEvent_12 : decode cX2_addEvent 12 = .ok (.getfield 9, 3) := by decide +kernel
theorem dX2_addEvent_15 : decode cX2_addEvent 15 = .ok (.iload_n 1, 1) := by decide +kernel
theorem dX2_addEvent_16 : decode cX2_addEvent 16 = .ok (.iaload, 1) := by decide +kernel
theorem dX2_addEvent_17 : decode cX2_addEvent 17 = .ok (.invokevirtual 68, 3) := by decide +kernel
theorem dX2_addEvent_20 : decode cX2_addEvent 20 = .ok (.aload_n 0, 1) := by decide +kernel
theorem dX2_addEvent_21 : decode cX2_addEvent 21 = .ok (.getfield 17, 3) := by decide +kernel
theorem dX2_addEvent_24 : decode cX2_addEvent 24 = .ok (.iload_n 1, 1) := by decide +kernel
theorem dX2_addEvent_25 : decode cX2_addEvent 25 = .ok (.aaload, 1) := by decide +kernel
theorem dX2_addEvent_26 : decode cX2_addEvent 26 = .ok (.iload_n 2, 1) := by decide +kernel
theorem dX2_addEvent_27 : decode cX2_addEvent 27 = .ok (.invokevirtual 72, 3) := by decide +kernel
theorem dX2_addEvent_30 : decode cX2_addEvent 30 = .ok (.aload_n 0, 1) := by decide +kernel
theorem dX2_addEvent_31 : decode cX2_addEvent 31 = .ok (.getfield 27, 3) := by decide +kernel
theorem dX2_addEvent_34 : decode cX2_addEvent 34 = .ok (.iload_n 2, 1) := by decide +kernel
theorem dX2_addEvent_35 : decode cX2_addEvent 35 = .ok (.iload_n 1, 1) := by decide +kernel
theorem dX2_addEvent_36 : decode cX2_addEvent 36 = .ok (.iastore, 1) := by decide +kernel
theorem dX2_addEvent_37 : decode cX2_addEvent 37 = .ok (.aload_n 0, 1) := by decide +kernel
theorem dX2_addEvent_38 : decode cX2_addEvent 38 = .ok (.dup, 1) := by decide +kernel
theorem dX2_addEvent_39 : decode cX2_addEvent 39 = .ok (.getfield 45, 3) := by decide +kernel
theorem dX2_addEvent_42 : decode cX2_addEvent 42 = .ok (.iconst 1, 1) := by decide +kernel
theorem dX2_addEvent_43 : decode cX2_addEvent 43 = .ok (.iadd, 1) := by decide +kernel
theorem dX2_addEvent_44 : decode cX2_addEvent 44 = .ok (.putfield 45, 3) := by decide +kernel
theorem dX2_addEvent_47 : decode cX2_addEvent 47 = .ok (.iload_n 2, 1) := by decide +kernel
theorem dX2_addEvent_48 : decode cX2_addEvent 48 = .ok (.ireturn, 1) := by decide +kernel
set_option maxRecDepth 20000 in
theorem ggX2_addMessage_X1_become : GoodIn wsX2_addMessage wsX1_become := goodIn_r _ [9, 10, 11, 12, 13, 14, 15, 16, 24, 25, 26] (by decide +kernel) (by decide +kernel)
set_option maxRecDepth 20000 in
theorem gX2_addMessage_X1_become : GoodIn wsX2_addMessage (wsV RX2 37 RX1 yX1_become wsX1_become) := goodIn_app (goodIn_of _ (by decide +kernel)) ggX2_addMessage_X1_become
theorem dX2_addMessage_0 : decode cX2_addMessage 0 = .ok (.aload_n 0, 1) := by decide +kernel
theorem dX2_addMessage_1 : decode cX2_addMessage 1 = .ok (.getfield 41, 3) := by decide +kernel
theorem dX2_addMessage_4 : decode cX2_addMessage 4 = .ok (.istore_n 2, 1) := by decide +kernel
theorem dX2_addMessage_5 : decode cX2_addMessage 5 = .ok (.aload_n 0, 1) := by decide +kernel
theorem dX2_addMessage_6 : decode cX2_addMessage 6 = .ok (.getfield 21, 3) := by decide +kernel
theorem dX2_addMessage_9 : decode cX2_addMessage 9 = .ok (.iload_n 2, 1) := by decide +kernel
theorem dX2_addMessage_10 : decode cX2_addMessage 10 = .ok (.aaload, 1) := by decide +kernel
theorem dX2_addMessage_11 : decode cX2_addMessage 11 = .ok (.aload_n 0, 1) := by decide +kernel
theorem dX2_addMessage_12 : decode cX2_addMessage 12 = .ok (.getfield 17, 3) := by decide +kernel
theorem dX2_addMessage_15 : decode cX2_addMessage 15 = .ok (.iload_n 1, 1) := by decide +kernel
theorem dX2_addMessage_16 : decode cX2_addMessage 16 = .ok (.aaload, 1) := by decide +kernel
theorem dX2_addMessage_17 : decode cX2_addMessage 17 = .ok (.invokevirtual 37, 3) := by decide +kernel
theorem dX2_addMessage_20 : decode cX2_addMessage 20 = .ok (.aload_n 0, 1) := by decide +kernel
theorem dX2_addMessage_21 : decode cX2_addMessage 21 = .ok (.getfield 24, 3) := by decide +kernel
theorem dX2_addMessage_24 : decode cX2_addMessage 24 = .ok (.iload_n 2, 1) := by decide +kernel
theorem dX2_addMessage_25 : decode cX2_addMessage 25 = .ok (.iload_n 1, 1) := by decide +kernel
theorem dX2_addMessage_26 : decode cX2_addMessage 26 = .ok (.iastore, 1) := by decide +kernel
theorem dX2_addMessage_27 : decode cX2_addMessage 27 = .ok (.aload_n 0, 1) := by decide +kernel
theorem dX2_addMessage_28 : decode cX2_addMessage 28 = .ok (.dup, 1) := by decide +kernel
theorem dX2_addMessage_29 : decode cX2_addMessage 29 = .ok (.getfield 41, 3) := by decide +kernel
theorem dX2_addMessage_32 : decode cX2_addMessage 32 = .ok (.iconst 1, 1) := by decide +kernel
theorem dX2_addMessage_33 : decode cX2_addMessage 33 = .ok (.iadd, 1) := by decide +kernel
theorem dX2_addMessage_34 : decode cX2_addMessage 34 = .ok (.putfield 41, 3) := by decide +kernel
theorem dX2_addMessage_37 : decode cX2_addMessage 37 = .ok (.iload_n 2, 1) := by decide +kernel
theorem dX2_addMessage_38 : decode cX2_addMessage 38 = .ok (.ireturn, 1) := by decide +kernel
set_option maxRecDepth 20000 in
theorem ggX2_removeMessage_X1_become : GoodIn wsX2_removeMessage wsX1_become := goodIn_r _ [8, 9, 10, 11, 12, 13, 14, 15, 23, 24, 25] (by decide +kernel) (by decide +kernel)
set_option maxRecDepth 20000 in
theorem gX2_removeMessage_X1_become : GoodIn wsX2_removeMessage (wsV RX2 37 RX1 yX1_become wsX1_become) := goodIn_app (goodIn_of _ (by decide +kernel)) ggX2_removeMessage_X1_become
theorem dX2_removeMessage_0 : decode cX2_removeMessage 0 = .ok (.iload_n 1, 1) := by decide +kernel
theorem dX2_removeMessage_1 : decode cX2_removeMessage 1 = .ok (.iconst 1, 1) := by decide +kernel
theorem dX2_removeMessage_2 : decode cX2_removeMessage 2 = .ok (.iadd, 1) := by decide +kernel
theorem dX2_removeMessage_3 : decode cX2_removeMessage 3 = .ok (.istore_n 2, 1) := by decide +kernel
theorem dX2_removeMessage_4 : decode cX2_removeMessage 4 = .ok (.iload_n 2, 1) := by decide +kernel
theorem dX2_removeMessage_5 : decode cX2_removeMessage 5 = .ok (.aload_n 0, 1) := by decide +kernel
theorem dX2_removeMessage_6 : decode cX2_removeMessage 6 = .ok (.getfield 41, 3) := by decide +kernel
theorem dX2_removeMessage_9 : decode cX2_removeMessage 9 = .ok (.if_icmp .ge 40, 3) := by decide +kernel
theorem dX2_removeMessage_12 : decode cX2_removeMessage 12 = .ok (.aload_n 0, 1) := by decide +kernel
theorem dX2_removeMessage_13 : decode cX2_removeMessage 13 = .ok (.getfield 21, 3) := by decide +kernel
theorem dX2_removeMessage_16 : decode cX2_removeMessage 16 = .ok (.iload_n 2, 1) := by decide +kernel
theorem dX2_removeMessage_17 : decode cX2_removeMessage 17 = .ok (.iconst 1, 1) := by decide +kernel
theorem dX2_removeMessage_18 : decode cX2_removeMessage 18 = .ok (.isub, 1) := by decide +kernel
theorem dX2_removeMessage_19 : decode cX2_removeMessage 19 = .ok (.aaload, 1) := by decide +kernel
theorem dX2_removeMessage_20 : decode cX2_removeMessage 20 = .ok (.aload_n 0, 1) := by decide +kernel
theorem dX2_removeMessage_21 : decode cX2_removeMessage 21 = .ok (.getfield 21, 3) := by decide +kernel
theorem dX2_removeMessage_24 : decode cX2_removeMessage 24 = .ok (.iload_n 2, 1) := by decide +kernel
theorem dX2_removeMessage_25 : decode cX2_removeMessage 25 = .ok (.aaload, 1) := by decide +kernel
theorem dX2_removeMessage_26 : decode cX2_removeMessage 26 = .ok (.invokevirtual 37, 3) := by decide +kernel
theorem dX2_removeMessage_29 : decode cX2_removeMessage 29 = .ok (.aload_n 0, 1) := by decide +kernel
theorem dX2_removeMessage_30 : decode cX2_removeMessage 30 = .ok (.getfield 24, 3) := by decide +kernel
theorem dX2_removeMessage_33 : decode cX2_removeMessage 33 = .ok (.iload_n 2, 1) := by decide +kernel
theorem dX2_removeMessage_34 : decode cX2_removeMessage 34 = .ok (.iconst 1, 1) := by decide +kernel
theorem dX2_removeMessage_35 : decode cX2_removeMessage 35 = .ok (.isub, 1) := by decide +kernel
theorem dX2_removeMessage_36 : decode cX2_removeMessage 36 = .ok (.aload_n 0, 1) := by decide +kernel
theorem dX2_removeMessage_37 : decode cX2_removeMessage 37 = .ok (.getfield 24, 3) := by decide +kernel
theorem dX2_removeMessage_40 : decode cX2_removeMessage 40 = .ok (.iload_n 2, 1) := by decide +kernel
theorem dX2_removeMessage_41 : decode cX2_removeMessage 41 = .ok (.iaload, 1) := by decide +kernel
theorem dX2_removeMessage_42 : decode cX2_removeMessage 42 = .ok (.iastore, 1) := by decide +kernel
theorem dX2_removeMessage_43 : decode cX2_removeMessage 43 = .ok (.iinc 2 1, 3) := by decide +kernel
theorem dX2_removeMessage_46 : decode cX2_removeMessage 46 = .ok (.goto (-42), 3) := by decide +kernel
theorem dX2_removeMessage_49 : decode cX2_removeMessage 49 = .ok (.aload_n 0, 1) := by decide +kernel
theorem dX2_removeMessage_50 : decode cX2_removeMessage 50 = .ok (.dup, 1) := by decide +kernel
theorem dX2_removeMessage_51 : decode cX2_removeMessage 51 = .ok (.getfield 41, 3) := by decide +kernel
theorem dX2_removeMessage_54 : decode cX2_removeMessage 54 = .ok (.iconst 1, 1) := by decide +kernel
theorem dX2_removeMessage_55 : decode cX2_removeMessage 55 = .ok (.isub, 1) := by decide +kernel
theorem dX2_removeMessage_56 : decode cX2_removeMessage 56 = .ok (.putfield 41, 3) := by decide +kernel
theorem dX2_removeMessage_59 : decode cX2_removeMessage 59 = .ok (.return_, 1) := by decide +kernel
set_option maxRecDepth 20000 in
theorem ggX2_helperSet_X2_isHelper : GoodIn wsX2_helperSet wsX2_isHelper := goodIn_r _ [5, 6, 7, 8, 9, 10, 11, 12, 13] (by decide +kernel) (by decide +kernel)
set_option maxRecDepth 20000 in
theorem gX2_helperSet_X2_isHelper : GoodIn wsX2_helperSet (wsV RX2 48 RX2 yX2_isHelper wsX2_isHelper) := goodIn_app (goodIn_of _ (by decide +kernel)) ggX2_helperSet_X2_isHelper
theorem dX2_helperSet_0 : decode cX2_helperSet 0 = .ok (.iconst 0, 1) := by decide +kernel
theorem dX2_helperSet_1 : decode cX2_helperSet 1 = .ok (.istore_n 1, 1) := by decide +kernel
theorem dX2_helperSet_2 : decode cX2_helperSet 2 = .ok (.iconst 0, 1) := by decide +kernel
theorem dX2_helperSet_3 : decode cX2_helperSet 3 = .ok (.istore_n 2, 1) := by decide +kernel
theorem dX2_helperSet_4 : decode cX2_helperSet 4 = .ok (.iload_n 2, 1) := by decide +kernel
theorem dX2_helperSet_5 : decode cX2_helperSet 5 = .ok (.bipush 8, 2) := by decide +kernel
theorem dX2_helperSet_7 : decode cX2_helperSet 7 = .ok (.if_icmp .ge 23, 3) := by decide +kernel
theorem dX2_helperSet_10 : decode cX2_helperSet 10 = .ok (.aload_n 0, 1) := by decide +kernel
theorem dX2_helperSet_11 : decode cX2_helperSet 11 = .ok (.iload_n 2, 1) := by decide +kernel
theorem dX2_helperSet_12 : decode cX2_helperSet 12 = .ok (.invokevirtual 48, 3) := by decide +kernel
theorem dX2_helperSet_15 : decode cX2_helperSet 15 = .ok (.ifCond .eq 9, 3) := by decide +kernel
theorem dX2_helperSet_18 : decode cX2_helperSet 18 = .ok (.iload_n 1, 1) := by decide +kernel
theorem dX2_helperSet_19 : decode cX2_helperSet 19 = .ok (.iconst 1, 1) := by decide +kernel
theorem dX2_helperSet_20 : decode cX2_helperSet 20 = .ok (.iload_n 2, 1) := by decide +kernel
theorem dX2_helperSet_21 : decode cX2_helperSet 21 = .ok (.ishl, 1) := by decide +kernel
theorem dX2_helperSet_22 : decode cX2_helperSet 22 = .ok (.ior, 1) := by decide +kernel
theorem dX2_helperSet_23 : decode cX2_helperSet 23 = .ok (.istore_n 1, 1) := by decide +kernel
theorem dX2_helperSet_24 : decode cX2_helperSet 24 = .ok (.iinc 2 1, 3) := by decide +kernel
theorem dX2_helperSet_27 : decode cX2_helperSet 27 = .ok (.goto (-23), 3) := by decide +kernel
theorem dX2_helperSet_30 : decode cX2_helperSet 30 = .ok (.iload_n 1, 1) := by decide +kernel
theorem dX2_helperSet_31 : decode cX2_helperSet 31 = .ok (.ireturn, 1) := by decide +kernel
set_option maxRecDepth 20000 in
theorem ggX2_clashingPairs_X2_isHelper : GoodIn wsX2_clashingPairs wsX2_isHelper := goodIn_r _ [6, 7, 14, 15, 16, 17, 18, 19, 20] (by decide +kernel) (by decide +kernel)
set_option maxRecDepth 20000 in
theorem gX2_clashingPairs_X2_isHelper : GoodIn wsX2_clashingPairs (wsV RX2 48 RX2 yX2_isHelper wsX2_isHelper) := goodIn_app (goodIn_of _ (by decide +kernel)) ggX2_clashingPairs_X2_isHelper
set_option maxRecDepth 20000 in
theorem ggX2_clashingPairs_X1_orderTo : GoodIn wsX2_clashingPairs wsX1_orderTo := goodIn_r _ [12, 13, 21, 22, 23] (by decide +kernel) (by decide +kernel)
set_option maxRecDepth 20000 in
theorem gX2_clashingPairs_X1_orderTo : GoodIn wsX2_clashingPairs (wsV RX2 75 RX1 yX1_orderTo wsX1_orderTo) := goodIn_app (goodIn_of _ (by decide +kernel)) ggX2_clashingPairs_X1_orderTo
theorem dX2_clashingPairs_0 : decode cX2_clashingPairs 0 = .ok (.iconst 0, 1) := by decide +kernel
theorem dX2_clashingPairs_1 : decode cX2_clashingPairs 1 = .ok (.istore_n 1, 1) := by decide +kernel
theorem dX2_clashingPairs_2 : decode cX2_clashingPairs 2 = .ok (.iconst 0, 1) := by decide +kernel
theorem dX2_clashingPairs_3 : decode cX2_clashingPairs 3 = .ok (.istore_n 2, 1) := by decide +kernel
theorem dX2_clashingPairs_4 : decode cX2_clashingPairs 4 = .ok (.iload_n 2, 1) := by decide +kernel
theorem dX2_clashingPairs_5 : decode cX2_clashingPairs 5 = .ok (.bipush 8, 2) := by decide +kernel
theorem dX2_clashingPairs_7 : decode cX2_clashingPairs 7 = .ok (.if_icmp .ge 63, 3) := by decide +kernel
theorem dX2_clashingPairs_10 : decode cX2_clashingPairs 10 = .ok (.iload_n 2, 1) := by decide +kernel
theorem dX2_clashingPairs_11 : decode cX2_clashingPairs 11 = .ok (.iconst 1, 1) := by decide +kernel
theorem dX2_clashingPairs_12 : decode cX2_clashingPairs 12 = .ok (.iadd, 1) := by decide +kernel
theorem dX2_clashingPairs_13 : decode cX2_clashingPairs 13 = .ok (.istore_n 3, 1) := by decide +kernel
theorem dX2_clashingPairs_14 : decode cX2_clashingPairs 14 = .ok (.iload_n 3, 1) := by decide +kernel
theorem dX2_clashingPairs_15 : decode cX2_clashingPairs 15 = .ok (.bipush 8, 2) := by decide +kernel
theorem dX2_clashingPairs_17 : decode cX2_clashingPairs 17 = .ok (.if_icmp .ge 47, 3) := by decide +kernel
theorem dX2_clashingPairs_20 : decode cX2_clashingPairs 20 = .ok (.aload_n 0, 1) := by decide +kernel
theorem dX2_clashingPairs_21 : decode cX2_clashingPairs 21 = .ok (.iload_n 2, 1) := by decide +kernel
theorem dX2_clashingPairs_22 : decode cX2_clashingPairs 22 = .ok (.invokevirtual 48, 3) := by decide +kernel
theorem dX2_clashingPairs_25 : decode cX2_clashingPairs 25 = .ok (.ifCond .eq 33, 3) := by decide +kernel
theorem dX2_clashingPairs_28 : decode cX2_clashingPairs 28 = .ok (.aload_n 0, 1) := by decide +kernel
theorem dX2_clashingPairs_29 : decode cX2_clashingPairs 29 = .ok (.iload_n 3, 1) := by decide +kernel
theorem dX2_clashingPairs_30 : decode cX2_clashingPairs 30 = .ok (.invokevirtual 48, 3) := by decide +kernel
theorem dX2_clashingPairs_33 : decode cX2_clashingPairs 33 = .ok (.ifCond .eq 25, 3) := by decide +kernel
theorem dX2_clashingPairs_36 : decode cX2_clashingPairs 36 = .ok (.aload_n 0, 1) := by decide +kernel
theorem dX2_clashingPairs_37 : decode cX2_clashingPairs 37 = .ok (.getfield 17, 3) := by decide +kernel
theorem dX2_clashingPairs_40 : decode cX2_clashingPairs 40 = .ok (.iload_n 2, 1) := by decide +kernel
theorem dX2_clashingPairs_41 : decode cX2_clashingPairs 41 = .ok (.aaload, 1) := by decide +kernel
theorem dX2_clashingPairs_42 : decode cX2_clashingPairs 42 = .ok (.aload_n 0, 1) := by decide +kernel
theorem dX2_clashingPairs_43 : decode cX2_clashingPairs 43 = .ok (.getfield 17, 3) := by decide +kernel
theorem dX2_clashingPairs_46 : decode cX2_clashingPairs 46 = .ok (.iload_n 3, 1) := by decide +kernel
theorem dX2_clashingPairs_47 : decode cX2_clashingPairs 47 = .ok (.aaload, 1) := by decide +kernel
theorem dX2_clashingPairs_48 : decode cX2_clashingPairs 48 = .ok (.invokevirtual 75, 3) := by decide +kernel
theorem dX2_clashingPairs_51 : decode cX2_clashingPairs 51 = .ok (.iconst 3, 1) := by decide +kernel
theorem dX2_clashingPairs_52 : decode cX2_clashingPairs 52 = .ok (.if_icmp .ne 6, 3) := by decide +kernel
theorem dX2_clashingPairs_55 : decode cX2_clashingPairs 55 = .ok (.iinc 1 1, 3) := by decide +kernel
theorem dX2_clashingPairs_58 : decode cX2_clashingPairs 58 = .ok (.iinc 3 1, 3) := by decide +kernel
theorem dX2_clashingPairs_61 : decode cX2_clashingPairs 61 = .ok (.goto (-47), 3) := by decide +kernel
theorem dX2_clashingPairs_64 : decode cX2_clashingPairs 64 = .ok (.iinc 2 1, 3) := by decide +kernel
theorem dX2_clashingPairs_67 : decode cX2_clashingPairs 67 = .ok (.goto (-63), 3) := by decide +kernel
theorem dX2_clashingPairs_70 : decode cX2_clashingPairs 70 = .ok (.iload_n 1, 1) := by decide +kernel
theorem dX2_clashingPairs_71 : decode cX2_clashingPairs 71 = .ok (.ireturn, 1) := by decide +kernel
set_option maxRecDepth 20000 in
theorem ggX2_knotsOfHelpers_X2_isHelper : GoodIn wsX2_knotsOfHelpers wsX2_isHelper := goodIn_r _ [6, 7, 20, 21, 22, 23, 24, 25, 26] (by decide +kernel) (by decide +kernel)
set_option maxRecDepth 20000 in
theorem gX2_knotsOfHelpers_X2_isHelper : GoodIn wsX2_knotsOfHelpers (wsV RX2 48 RX2 yX2_isHelper wsX2_isHelper) := goodIn_app (goodIn_of _ (by decide +kernel)) ggX2_knotsOfHelpers_X2_isHelper
set_option maxRecDepth 20000 in
theorem ggX2_knotsOfHelpers_X1_knots : GoodIn wsX2_knotsOfHelpers wsX1_knots := goodIn_r _ [12, 13, 14, 15, 11, 16, 17, 18, 19, 27, 28, 29] (by decide +kernel) (by decide +kernel)
set_option maxRecDepth 20000 in
theorem gX2_knotsOfHelpers_X1_knots : GoodIn wsX2_knotsOfHelpers (wsV RX2 79 RX1 yX1_knots wsX1_knots) := goodIn_app (goodIn_of _ (by decide +kernel)) ggX2_knotsOfHelpers_X1_knots
theorem dX2_knotsOfHelpers_0 : decode cX2_knotsOfHelpers 0 = .ok (.iconst 0, 1) := by decide +kernel
theorem dX2_knotsOfHelpers_1 : decode cX2_knotsOfHelpers 1 = .ok (.istore_n 1, 1) := by decide +kernel
theorem dX2_knotsOfHelpers_2 : decode cX2_knotsOfHelpers 2 = .ok (.iconst 0, 1) := by decide +kernel
theorem dX2_knotsOfHelpers_3 : decode cX2_knotsOfHelpers 3 = .ok (.istore_n 2, 1) := by decide +kernel
theorem dX2_knotsOfHelpers_4 : decode cX2_knotsOfHelpers 4 = .ok (.iload_n 2, 1) := by decide +kernel
theorem dX2_knotsOfHelpers_5 : decode cX2_knotsOfHelpers 5 = .ok (.bipush 8, 2) := by decide +kernel
theorem dX2_knotsOfHelpers_7 : decode cX2_knotsOfHelpers 7 = .ok (.if_icmp .ge 29, 3) := by decide +kernel
theorem dX2_knotsOfHelpers_10 : decode cX2_knotsOfHelpers 10 = .ok (.aload_n 0, 1) := by decide +kernel
theorem dX2_knotsOfHelpers_11 : decode cX2_knotsOfHelpers 11 = .ok (.iload_n 2, 1) := by decide +kernel
theorem dX2_knotsOfHelpers_12 : decode cX2_knotsOfHelpers 12 = .ok (.invokevirtual 48, 3) := by decide +kernel
theorem dX2_knotsOfHelpers_15 : decode cX2_knotsOfHelpers 15 = .ok (.ifCond .eq 15, 3) := by decide +kernel
theorem dX2_knotsOfHelpers_18 : decode cX2_knotsOfHelpers 18 = .ok (.iload_n 1, 1) := by decide +kernel
theorem dX2_knotsOfHelpers_19 : decode cX2_knotsOfHelpers 19 = .ok (.aload_n 0, 1) := by decide +kernel
theorem dX2_knotsOfHelpers_20 : decode cX2_knotsOfHelpers 20 = .ok (.getfield 17, 3) := by decide +kernel
theorem dX2_knotsOfHelpers_23 : decode cX2_knotsOfHelpers 23 = .ok (.iload_n 2, 1) := by decide +kernel
theorem dX2_knotsOfHelpers_24 : decode cX2_knotsOfHelpers 24 = .ok (.aaload, 1) := by decide +kernel
theorem dX2_knotsOfHelpers_25 : decode cX2_knotsOfHelpers 25 = .ok (.invokevirtual 79, 3) := by decide +kernel
theorem dX2_knotsOfHelpers_28 : decode cX2_knotsOfHelpers 28 = .ok (.iadd, 1) := by decide +kernel
theorem dX2_knotsOfHelpers_29 : decode cX2_knotsOfHelpers 29 = .ok (.istore_n 1, 1) := by decide +kernel
theorem dX2_knotsOfHelpers_30 : decode cX2_knotsOfHelpers 30 = .ok (.iinc 2 1, 3) := by decide +kernel
theorem dX2_knotsOfHelpers_33 : decode cX2_knotsOfHelpers 33 = .ok (.goto (-29), 3) := by decide +kernel
theorem dX2_knotsOfHelpers_36 : decode cX2_knotsOfHelpers 36 = .ok (.iload_n 1, 1) := by decide +kernel
theorem dX2_knotsOfHelpers_37 : decode cX2_knotsOfHelpers 37 = .ok (.ireturn, 1) := by decide +kernel
set_option maxRecDepth 20000 in
theorem ggX2_foremost_X2_isHelper : GoodIn wsX2_foremost wsX2_isHelper := goodIn_r _ [5, 6, 18, 19, 20, 21, 22, 23, 24] (by decide +kernel) (by decide +kernel)
set_option maxRecDepth 20000 in
theorem gX2_foremost_X2_isHelper : GoodIn wsX2_foremost (wsV RX2 48 RX2 yX2_isHelper wsX2_isHelper) := goodIn_app (goodIn_of _ (by decide +kernel)) ggX2_foremost_X2_isHelper
set_option maxRecDepth 20000 in
theorem ggX2_foremost_X2_isForemost : GoodIn wsX2_foremost wsX2_isForemost := goodIn_r _ [10, 11, 1, 2, 3, 4, 5, 6, 12, 13, 14, 15, 16, 17, 18, 19, 20, 21, 22, 23, 24, 25, 26, 27] (by decide +kernel) (by decide +kernel)
set_option maxRecDepth 20000 in
theorem gX2_foremost_X2_isForemost : GoodIn wsX2_foremost (wsV RX2 83 RX2 yX2_isForemost wsX2_isForemost) := goodIn_app (goodIn_of _ (by decide +kernel)) ggX2_foremost_X2_isForemost
theorem dX2_foremost_0 : decode cX2_foremost 0 = .ok (.iconst 0, 1) := by decide +kernel
theorem dX2_foremost_1 : decode cX2_foremost 1 = .ok (.istore_n 1, 1) := by decide +kernel
theorem dX2_foremost_2 : decode cX2_foremost 2 = .ok (.iload_n 1, 1) := by decide +kernel
theorem dX2_foremost_3 : decode cX2_foremost 3 = .ok (.bipush 8, 2) := by decide +kernel
theorem dX2_foremost_5 : decode cX2_foremost 5 = .ok (.if_icmp .ge 27, 3) := by decide +kernel
theorem dX2_foremost_8 : decode cX2_foremost 8 = .ok (.aload_n 0, 1) := by decide +kernel
theorem dX2_foremost_9 : decode cX2_foremost 9 = .ok (.iload_n 1, 1) := by decide +kernel
theorem dX2_foremost_10 : decode cX2_foremost 10 = .ok (.invokevirtual 48, 3) := by decide +kernel
theorem dX2_foremost_13 : decode cX2_foremost 13 = .ok (.ifCond .eq 13, 3) := by decide +kernel
theorem dX2_foremost_16 : decode cX2_foremost 16 = .ok (.aload_n 0, 1) := by decide +kernel
theorem dX2_foremost_17 : decode cX2_foremost 17 = .ok (.iload_n 1, 1) := by decide +kernel
theorem dX2_foremost_18 : decode cX2_foremost 18 = .ok (.invokevirtual 83, 3) := by decide +kernel
theorem dX2_foremost_21 : decode cX2_foremost 21 = .ok (.ifCond .eq 5, 3) := by decide +kernel
theorem dX2_foremost_24 : decode cX2_foremost 24 = .ok (.iload_n 1, 1) := by decide +kernel
theorem dX2_foremost_25 : decode cX2_foremost 25 = .ok (.ireturn, 1) := by decide +kernel
theorem dX2_foremost_26 : decode cX2_foremost 26 = .ok (.iinc 1 1, 3) := by decide +kernel
theorem dX2_foremost_29 : decode cX2_foremost 29 = .ok (.goto (-27), 3) := by decide +kernel
theorem dX2_foremost_32 : decode cX2_foremost 32 = .ok (.bipush (-6), 2) := by decide +kernel
theorem dX2_foremost_34 : decode cX2_foremost 34 = .ok (.ireturn, 1) := by decide +kernel
set_option maxRecDepth 20000 in
theorem ggX2_isForemost_X2_isHelper : GoodIn wsX2_isForemost wsX2_isHelper := goodIn_r _ [6, 7, 14, 15, 16, 17, 18, 19, 20] (by decide +kernel) (by decide +kernel)
set_option maxRecDepth 20000 in
theorem gX2_isForemost_X2_isHelper : GoodIn wsX2_isForemost (wsV RX2 48 RX2 yX2_isHelper wsX2_isHelper) := goodIn_app (goodIn_of _ (by decide +kernel)) ggX2_isForemost_X2_isHelper
set_option maxRecDepth 20000 in
theorem ggX2_isForemost_X1_orderTo : GoodIn wsX2_isForemost wsX1_orderTo := goodIn_r _ [12, 13, 21, 22, 23] (by decide +kernel) (by decide +kernel)
set_option maxRecDepth 20000 in
theorem gX2_isForemost_X1_orderTo : GoodIn wsX2_isForemost (wsV RX2 75 RX1 yX1_orderTo wsX1_orderTo) := goodIn_app (goodIn_of _ (by decide +kernel)) ggX2_isForemost_X1_orderTo
theorem dX2_isForemost_0 : decode cX2_isForemost 0 = .ok (.iconst 0, 1) := by decide +kernel
theorem dX2_isForemost_1 : decode cX2_isForemost 1 = .ok (.istore_n 2, 1) := by decide +kernel
theorem dX2_isForemost_2 : decode cX2_isForemost 2 = .ok (.iload_n 2, 1) := by decide +kernel
theorem dX2_isForemost_3 : decode cX2_isForemost 3 = .ok (.bipush 8, 2) := by decide +kernel
theorem dX2_isForemost_5 : decode cX2_isForemost 5 = .ok (.if_icmp .ge 45, 3) := by decide +kernel
theorem dX2_isForemost_8 : decode cX2_isForemost 8 = .ok (.aload_n 0, 1) := by decide +kernel
theorem dX2_isForemost_9 : decode cX2_isForemost 9 = .ok (.iload_n 2, 1) := by decide +kernel
theorem dX2_isForemost_10 : decode cX2_isForemost 10 = .ok (.invokevirtual 48, 3) := by decide +kernel
theorem dX2_isForemost_13 : decode cX2_isForemost 13 = .ok (.ifCond .eq 31, 3) := by decide +kernel
theorem dX2_isForemost_16 : decode cX2_isForemost 16 = .ok (.aload_n 0, 1) := by decide +kernel
theorem dX2_isForemost_17 : decode cX2_isForemost 17 = .ok (.getfield 17, 3) := by decide +kernel
theorem dX2_isForemost_20 : decode cX2_isForemost 20 = .ok (.iload_n 2, 1) := by decide +kernel
theorem dX2_isForemost_21 : decode cX2_isForemost 21 = .ok (.aaload, 1) := by decide +kernel
theorem dX2_isForemost_22 : decode cX2_isForemost 22 = .ok (.aload_n 0, 1) := by decide +kernel
theorem dX2_isForemost_23 : decode cX2_isForemost 23 = .ok (.getfield 17, 3) := by decide +kernel
theorem dX2_isForemost_26 : decode cX2_isForemost 26 = .ok (.iload_n 1, 1) := by decide +kernel
theorem dX2_isForemost_27 : decode cX2_isForemost 27 = .ok (.aaload, 1) := by decide +kernel
theorem dX2_isForemost_28 : decode cX2_isForemost 28 = .ok (.invokevirtual 75, 3) := by decide +kernel
theorem dX2_isForemost_31 : decode cX2_isForemost 31 = .ok (.istore_n 3, 1) := by decide +kernel
theorem dX2_isForemost_32 : decode cX2_isForemost 32 = .ok (.iload_n 3, 1) := by decide +kernel
theorem dX2_isForemost_33 : decode cX2_isForemost 33 = .ok (.iconst 2, 1) := by decide +kernel
theorem dX2_isForemost_34 : decode cX2_isForemost 34 = .ok (.if_icmp .eq 8, 3) := by decide +kernel
theorem dX2_isForemost_37 : decode cX2_isForemost 37 = .ok (.iload_n 3, 1) := by decide +kernel
theorem dX2_isForemost_38 : decode cX2_isForemost 38 = .ok (.iconst 3, 1) := by decide +kernel
theorem dX2_isForemost_39 : decode cX2_isForemost 39 = .ok (.if_icmp .ne 5, 3) := by decide +kernel
theorem dX2_isForemost_42 : decode cX2_isForemost 42 = .ok (.iconst 0, 1) := by decide +kernel
theorem dX2_isForemost_43 : decode cX2_isForemost 43 = .ok (.ireturn, 1) := by decide +kernel
theorem dX2_isForemost_44 : decode cX2_isForemost 44 = .ok (.iinc 2 1, 3) := by decide +kernel
theorem dX2_isForemost_47 : decode cX2_isForemost 47 = .ok (.goto (-45), 3) := by decide +kernel
theorem dX2_isForemost_50 : decode cX2_isForemost 50 = .ok (.iconst 1, 1) := by decide +kernel
theorem dX2_isForemost_51 : decode cX2_isForemost 51 = .ok (.ireturn, 1) := by decide +kernel
set_option maxRecDepth 20000 in
theorem ggX2_leastKnowing_X2_isHelper : GoodIn wsX2_leastKnowing wsX2_isHelper := goodIn_r _ [6, 7, 22, 23, 24, 25, 26, 27, 28] (by decide +kernel) (by decide +kernel)
set_option maxRecDepth 20000 in
theorem gX2_leastKnowing_X2_isHelper : GoodIn wsX2_leastKnowing (wsV RX2 48 RX2 yX2_isHelper wsX2_isHelper) := goodIn_app (goodIn_of _ (by decide +kernel)) ggX2_leastKnowing_X2_isHelper
set_option maxRecDepth 20000 in
theorem ggX2_leastKnowing_X1_knownCount : GoodIn wsX2_leastKnowing wsX1_knownCount := goodIn_r _ [12, 13, 14, 15, 16, 17, 18, 19, 20, 21, 29, 30, 31] (by decide +kernel) (by decide +kernel)
set_option maxRecDepth 20000 in
theorem gX2_leastKnowing_X1_knownCount : GoodIn wsX2_leastKnowing (wsV RX2 86 RX1 yX1_knownCount wsX1_knownCount) := goodIn_app (goodIn_of _ (by decide +kernel)) ggX2_leastKnowing_X1_knownCount
theorem dX2_leastKnowing_0 : decode cX2_leastKnowing 0 = .ok (.iconst 0, 1) := by decide +kernel
theorem dX2_leastKnowing_1 : decode cX2_leastKnowing 1 = .ok (.istore_n 1, 1) := by decide +kernel
theorem dX2_leastKnowing_2 : decode cX2_leastKnowing 2 = .ok (.bipush 121, 2) := by decide +kernel
theorem dX2_leastKnowing_4 : decode cX2_leastKnowing 4 = .ok (.istore_n 2, 1) := by decide +kernel
theorem dX2_leastKnowing_5 : decode cX2_leastKnowing 5 = .ok (.iconst 0, 1) := by decide +kernel
theorem dX2_leastKnowing_6 : decode cX2_leastKnowing 6 = .ok (.istore_n 3, 1) := by decide +kernel
theorem dX2_leastKnowing_7 : decode cX2_leastKnowing 7 = .ok (.iload_n 3, 1) := by decide +kernel
theorem dX2_leastKnowing_8 : decode cX2_leastKnowing 8 = .ok (.bipush 8, 2) := by decide +kernel
theorem dX2_leastKnowing_10 : decode cX2_leastKnowing 10 = .ok (.if_icmp .ge 42, 3) := by decide +kernel
theorem dX2_leastKnowing_13 : decode cX2_leastKnowing 13 = .ok (.aload_n 0, 1) := by decide +kernel
theorem dX2_leastKnowing_14 : decode cX2_leastKnowing 14 = .ok (.iload_n 3, 1) := by decide +kernel
theorem dX2_leastKnowing_15 : decode cX2_leastKnowing 15 = .ok (.invokevirtual 48, 3) := by decide +kernel
theorem dX2_leastKnowing_18 : decode cX2_leastKnowing 18 = .ok (.ifCond .eq 28, 3) := by decide +kernel
theorem dX2_leastKnowing_21 : decode cX2_leastKnowing 21 = .ok (.aload_n 0, 1) := by decide +kernel
theorem dX2_leastKnowing_22 : decode cX2_leastKnowing 22 = .ok (.getfield 17, 3) := by decide +kernel
theorem dX2_leastKnowing_25 : decode cX2_leastKnowing 25 = .ok (.iload_n 3, 1) := by decide +kernel
theorem dX2_leastKnowing_26 : decode cX2_leastKnowing 26 = .ok (.aaload, 1) := by decide +kernel
theorem dX2_leastKnowing_27 : decode cX2_leastKnowing 27 = .ok (.invokevirtual 86, 3) := by decide +kernel
theorem dX2_leastKnowing_30 : decode cX2_leastKnowing 30 = .ok (.iload_n 2, 1) := by decide +kernel
theorem dX2_leastKnowing_31 : decode cX2_leastKnowing 31 = .ok (.if_icmp .ge 15, 3) := by decide +kernel
theorem dX2_leastKnowing_34 : decode cX2_leastKnowing 34 = .ok (.iload_n 3, 1) := by decide +kernel
theorem dX2_leastKnowing_35 : decode cX2_leastKnowing 35 = .ok (.istore_n 1, 1) := by decide +kernel
theorem dX2_leastKnowing_36 : decode cX2_leastKnowing 36 = .ok (.aload_n 0, 1) := by decide +kernel
theorem dX2_leastKnowing_37 : decode cX2_leastKnowing 37 = .ok (.getfield 17, 3) := by decide +kernel
theorem dX2_leastKnowing_40 : decode cX2_leastKnowing 40 = .ok (.iload_n 3, 1) := by decide +kernel
theorem dX2_leastKnowing_41 : decode cX2_leastKnowing 41 = .ok (.aaload, 1) := by decide +kernel
theorem dX2_leastKnowing_42 : decode cX2_leastKnowing 42 = .ok (.invokevirtual 86, 3) := by decide +kernel
theorem dX2_leastKnowing_45 : decode cX2_leastKnowing 45 = .ok (.istore_n 2, 1) := by decide +kernel
theorem dX2_leastKnowing_46 : decode cX2_leastKnowing 46 = .ok (.iinc 3 1, 3) := by decide +kernel
theorem dX2_leastKnowing_49 : decode cX2_leastKnowing 49 = .ok (.goto (-42), 3) := by decide +kernel
theorem dX2_leastKnowing_52 : decode cX2_leastKnowing 52 = .ok (.iload_n 1, 1) := by decide +kernel
theorem dX2_leastKnowing_53 : decode cX2_leastKnowing 53 = .ok (.ireturn, 1) := by decide +kernel
set_option maxRecDepth 20000 in
theorem ggX3_init_X2_init : GoodIn wsX3_init wsX2_init := goodIn_r _ [28, 29, 2, 3, 30, 31, 32, 33, 34, 35, 36, 17, 18, 37, 38, 39, 40, 68, 69, 70, 71, 72, 73, 74, 90, 91, 92] (by decide +kernel) (by decide +kernel)
set_option maxRecDepth 20000 in
theorem gX3_init_X2_init : GoodIn wsX3_init (wsX2_init) := ggX3_init_X2_init
set_option maxRecDepth 20000 in
theorem ggX3_init_X0_init : GoodIn wsX3_init wsX0_init := goodIn_r _ [42, 43, 2, 3, 44, 45, 46, 17, 18, 47, 37, 38, 39, 30, 40, 83, 84, 85, 86, 87, 88, 89, 90, 91, 92] (by decide +kernel) (by decide +kernel)
set_option maxRecDepth 20000 in
theorem gX3_init_X0_init_n29 : GoodIn wsX3_init (wsX0_init) := ggX3_init_X0_init
set_option maxRecDepth 20000 in
theorem ggX3_init_X1_init : GoodIn wsX3_init wsX1_init := goodIn_r _ [38, 39, 2, 3, 30, 40, 90, 91, 92] (by decide +kernel) (by decide +kernel)
set_option maxRecDepth 20000 in
theorem gX3_init_X1_init_n36 : GoodIn wsX3_init (wsX1_init) := ggX3_init_X1_init
set_option maxRecDepth 20000 in
theorem ggX3_init_J4_init_da8c8 : GoodIn wsX3_init wsJ4_init_da8c8 := goodIn_r _ [50, 51, 52, 53, 54, 55, 2, 3, 56, 57, 58, 59, 60, 61, 62, 63, 64, 65, 66, 67, 93, 94, 95, 96] (by decide +kernel) (by decide +kernel)
set_option maxRecDepth 20000 in
theorem gX3_init_J4_init_da8c8 : GoodIn wsX3_init (wsJ4_init_da8c8) := ggX3_init_J4_init_da8c8
theorem dX3_init_0 : decode cX3_init 0 = .ok (.aload_n 0, 1) := by decide +kernel
theorem dX3_init_1 : decode cX3_init 1 = .ok (.invokespecial 1, 3) := by decide +kernel
theorem dX3_init_4 : decode cX3_init 4 = .ok (.aload_n 0, 1) := by decide +kernel
theorem dX3_init_5 : decode cX3_init 5 = .ok (.new 7, 3) := by decide +kernel
theorem dX3_init_8 : decode cX3_init 8 = .ok (.dup, 1) := by decide +kernel
theorem dX3_init_9 : decode cX3_init 9 = .ok (.invokespecial 9, 3) := by decide +kernel
theorem dX3_init_12 : decode cX3_init 12 = .ok (.putfield 10, 3) := by decide +kernel
theorem dX3_init_15 : decode cX3_init 15 = .ok (.aload_n 0, 1) := by decide +kernel
theorem dX3_init_16 : decode cX3_init 16 = .ok (.bipush 6, 2) := by decide +kernel
theorem dX3_init_18 : decode cX3_init 18 = .ok (.anewarray 7, 3) := by decide +kernel
theorem dX3_init_21 : decode cX3_init 21 = .ok (.putfield 16, 3) := by decide +kernel
theorem dX3_init_24 : decode cX3_init 24 = .ok (.aload_n 0, 1) := by decide +kernel
theorem dX3_init_25 : decode cX3_init 25 = .ok (.iconst 2, 1) := by decide +kernel
theorem dX3_init_26 : decode cX3_init 26 = .ok (.anewarray 7, 3) := by decide +kernel
theorem dX3_init_29 : decode cX3_init 29 = .ok (.putfield 20, 3) := by decide +kernel
theorem dX3_init_32 : decode cX3_init 32 = .ok (.aload_n 0, 1) := by decide +kernel
theorem dX3_init_33 : decode cX3_init 33 = .ok (.iconst 2, 1) := by decide +kernel
theorem dX3_init_34 : decode cX3_init 34 = .ok (.newarray .boolean, 2) := by decide +kernel
theorem dX3_init_36 : decode cX3_init 36 = .ok (.putfield 23, 3) := by decide +kernel
theorem dX3_init_39 : decode cX3_init 39 = .ok (.aload_n 0, 1) := by decide +kernel
theorem dX3_init_40 : decode cX3_init 40 = .ok (.new 27, 3) := by decide +kernel
theorem dX3_init_43 : decode cX3_init 43 = .ok (.dup, 1) := by decide +kernel
theorem dX3_init_44 : decode cX3_init 44 = .ok (.invokespecial 29, 3) := by decide +kernel
theorem dX3_init_47 : decode cX3_init 47 = .ok (.putfield 30, 3) := by decide +kernel
theorem dX3_init_50 : decode cX3_init 50 = .ok (.aload_n 0, 1) := by decide +kernel
theorem dX3_init_51 : decode cX3_init 51 = .ok (.new 34, 3) := by decide +kernel
theorem dX3_init_54 : decode cX3_init 54 = .ok (.dup, 1) := by decide +kernel
theorem dX3_init_55 : decode cX3_init 55 = .ok (.invokespecial 36, 3) := by decide +kernel
theorem dX3_init_58 : decode cX3_init 58 = .ok (.putfield 37, 3) := by decide +kernel
theorem dX3_init_61 : decode cX3_init 61 = .ok (.aload_n 0, 1) := by decide +kernel
theorem dX3_init_62 : decode cX3_init 62 = .ok (.new 41, 3) := by decide +kernel
theorem dX3_init_65 : decode cX3_init 65 = .ok (.dup, 1) := by decide +kernel
theorem dX3_init_66 : decode cX3_init 66 = .ok (.invokespecial 43, 3) := by decide +kernel
theorem dX3_init_69 : decode cX3_init 69 = .ok (.putfield 44, 3) := by decide +kernel
theorem dX3_init_72 : decode cX3_init 72 = .ok (.iconst 0, 1) := by decide +kernel
theorem dX3_init_73 : decode cX3_init 73 = .ok (.istore_n 1, 1) := by decide +kernel
theorem dX3_init_74 : decode cX3_init 74 = .ok (.iload_n 1, 1) := by decide +kernel
theorem dX3_init_75 : decode cX3_init 75 = .ok (.bipush 6, 2) := by decide +kernel
theorem dX3_init_77 : decode cX3_init 77 = .ok (.if_icmp .ge 22, 3) := by decide +kernel
theorem dX3_init_80 : decode cX3_init 80 = .ok (.aload_n 0, 1) := by decide +kernel
theorem dX3_init_81 : decode cX3_init 81 = .ok (.getfield 16, 3) := by decide +kernel
theorem dX3_init_84 : decode cX3_init 84 = .ok (.iload_n 1, 1) := by decide +kernel
theorem dX3_init_85 : decode cX3_init 85 = .ok (.new 7, 3) := by decide +kernel
theorem dX3_init_88 : decode cX3_init 88 = .ok (.dup, 1) := by decide +kernel
theorem dX3_init_89 : decode cX3_init 89 = .ok (.invokespecial 9, 3) := by decide +kernel
theorem dX3_init_92 : decode cX3_init 92 = .ok (.aastore, 1) := by decide +kernel
theorem dX3_init_93 : decode cX3_init 93 = .ok (.iinc 1 1, 3) := by decide +kernel
theorem dX3_init_96 : decode cX3_init 96 = .ok (.goto (-22), 3) := by decide +kernel
theorem dX3_init_99 : decode cX3_init 99 = .ok (.iconst 0, 1) := by decide +kernel
theorem dX3_init_100 : decode cX3_init 100 = .ok (.istore_n 1, 1) := by decide +kernel
theorem dX3_init_101 : decode cX3_init 101 = .ok (.iload_n 1, 1) := by decide +kernel
theorem dX3_init_102 : decode cX3_init 102 = .ok (.iconst 2, 1) := by decide +kernel
theorem dX3_init_103 : decode cX3_init 103 = .ok (.if_icmp .ge 22, 3) := by decide +kernel
theorem dX3_init_106 : decode cX3_init 106 = .ok (.aload_n 0, 1) := by decide +kernel
theorem dX3_init_107 : decode cX3_init 107 = .ok (.getfield 20, 3) := by decide +kernel
theorem dX3_init_110 : decode cX3_init 110 = .ok (.iload_n 1, 1) := by decide +kernel
theorem dX3_init_111 : decode cX3_init 111 = .ok (.new 7, 3) := by decide +kernel
theorem dX3_init_114 : decode cX3_init 114 = .ok (.dup, 1) := by decide +kernel
theorem dX3_init_115 : decode cX3_init 115 = .ok (.invokespecial 9, 3) := by decide +kernel
theorem dX3_init_118 : decode cX3_init 118 = .ok (.aastore, 1) := by decide +kernel
theorem dX3_init_119 : decode cX3_init 119 = .ok (.iinc 1 1, 3) := by decide +kernel
theorem dX3_init_122 : decode cX3_init 122 = .ok (.goto (-21), 3) := by decide +kernel
theorem dX3_init_125 : decode cX3_init 125 = .ok (.aload_n 0, 1) := by decide +kernel
theorem dX3_init_126 : decode cX3_init 126 = .ok (.getfield 10, 3) := by decide +kernel
theorem dX3_init_129 : decode cX3_init 129 = .ok (.getfield 48, 3) := by decide +kernel
theorem dX3_init_132 : decode cX3_init 132 = .ok (.iconst 0, 1) := by decide +kernel
theorem dX3_init_133 : decode cX3_init 133 = .ok (.ldc 52, 2) := by decide +kernel
theorem dX3_init_135 : decode cX3_init 135 = .ok (.iastore, 1) := by decide +kernel
theorem dX3_init_136 : decode cX3_init 136 = .ok (.return_, 1) := by decide +kernel
set_option maxRecDepth 20000 in
theorem ggX3_fork_X2_isHelper : GoodIn wsX3_fork wsX2_isHelper := goodIn_r _ [7, 8, 71, 72, 73, 74, 75, 76, 77] (by decide +kernel) (by decide +kernel)
set_option maxRecDepth 20000 in
theorem gX3_fork_X2_isHelper : GoodIn wsX3_fork (wsV RX3 53 RX2 yX2_isHelper wsX2_isHelper) := goodIn_app (goodIn_of _ (by decide +kernel)) ggX3_fork_X2_isHelper
set_option maxRecDepth 20000 in
theorem ggX3_fork_X2_lowestFreeHelper : GoodIn wsX3_fork wsX2_lowestFreeHelper := goodIn_r _ [12, 13, 4, 5, 6, 7, 8, 71, 72, 73, 74, 75, 76, 77] (by decide +kernel) (by decide +kernel)
set_option maxRecDepth 20000 in
theorem gX3_fork_X2_lowestFreeHelper : GoodIn wsX3_fork (wsV RX3 57 RX2 yX2_lowestFreeHelper wsX2_lowestFreeHelper) := goodIn_app (goodIn_of _ (by decide +kernel)) ggX3_fork_X2_lowestFreeHelper
set_option maxRecDepth 20000 in
theorem ggX3_fork_J6_bitCount_0f7a4 : GoodIn wsX3_fork wsJ6_bitCount_0f7a4 := goodIn_r _ [17, 18, 19, 20] (by decide +kernel) (by decide +kernel)
set_option maxRecDepth 20000 in
theorem gX3_fork_J6_bitCount_0f7a4 : GoodIn wsX3_fork (va_wsS RX3 61 yJ6_bitCount_0f7a4 wsJ6_bitCount_0f7a4) := goodIn_app (goodIn_of _ (by decide +kernel)) ggX3_fork_J6_bitCount_0f7a4
set_option maxRecDepth 20000 in
theorem ggX3_fork_X3_remember : GoodIn wsX3_fork wsX3_remember := goodIn_r _ [25, 26, 27, 1, 28, 29, 30, 24, 31, 32, 33, 34, 6, 35, 8, 36, 37, 38, 39, 40, 41, 42, 43, 44, 45, 46, 47, 48, 49, 50, 51, 52, 53, 54, 63, 64, 65, 66, 67, 68, 69, 70, 71, 72, 73, 74, 75, 76, 77, 78, 79, 80] (by decide +kernel) (by decide +kernel)
set_option maxRecDepth 20000 in
theorem gX3_fork_X3_remember : GoodIn wsX3_fork (wsV RX3 67 RX3 yX3_remember wsX3_remember) := goodIn_app (goodIn_of _ (by decide +kernel)) ggX3_fork_X3_remember
set_option maxRecDepth 20000 in
theorem ggX3_fork_X2_split : GoodIn wsX3_fork wsX2_split := goodIn_r _ [58, 8, 40, 59, 15, 16, 17, 18, 19, 20, 60, 61, 6, 62, 46, 47, 48, 49, 50, 51, 52, 37, 38, 39, 53, 54, 71, 72, 73, 74, 75, 76, 77, 78, 79, 80] (by decide +kernel) (by decide +kernel)
set_option maxRecDepth 20000 in
theorem gX3_fork_X2_split : GoodIn wsX3_fork (wsV RX3 70 RX2 yX2_split wsX2_split) := goodIn_app (goodIn_of _ (by decide +kernel)) ggX3_fork_X2_split
theorem dX3_fork_0 : decode cX3_fork 0 = .ok (.aload_n 0, 1) := by decide +kernel
theorem dX3_fork_1 : decode cX3_fork 1 = .ok (.getfield 10, 3) := by decide +kernel
theorem dX3_fork_4 : decode cX3_fork 4 = .ok (.iload_n 1, 1) := by decide +kernel
theorem dX3_fork_5 : decode cX3_fork 5 = .ok (.invokevirtual 53, 3) := by decide +kernel
theorem dX3_fork_8 : decode cX3_fork 8 = .ok (.ifCond .ne 5, 3) := by decide +kernel
theorem dX3_fork_11 : decode cX3_fork 11 = .ok (.iconst (-1), 1) := by decide +kernel
theorem dX3_fork_12 : decode cX3_fork 12 = .ok (.ireturn, 1) := by decide +kernel
theorem dX3_fork_13 : decode cX3_fork 13 = .ok (.aload_n 0, 1) := by decide +kernel
theorem dX3_fork_14 : decode cX3_fork 14 = .ok (.getfield 10, 3) := by decide +kernel
theorem dX3_fork_17 : decode cX3_fork 17 = .ok (.invokevirtual 57, 3) := by decide +kernel
theorem dX3_fork_20 : decode cX3_fork 20 = .ok (.istore_n 2, 1) := by decide +kernel
theorem dX3_fork_21 : decode cX3_fork 21 = .ok (.iload_n 2, 1) := by decide +kernel
theorem dX3_fork_22 : decode cX3_fork 22 = .ok (.bipush (-6), 2) := by decide +kernel
theorem dX3_fork_24 : decode cX3_fork 24 = .ok (.if_icmp .ne 6, 3) := by decide +kernel
theorem dX3_fork_27 : decode cX3_fork 27 = .ok (.bipush (-4), 2) := by decide +kernel
theorem dX3_fork_29 : decode cX3_fork 29 = .ok (.ireturn, 1) := by decide +kernel
theorem dX3_fork_30 : decode cX3_fork 30 = .ok (.aload_n 0, 1) := by decide +kernel
theorem dX3_fork_31 : decode cX3_fork 31 = .ok (.getfield 10, 3) := by decide +kernel
theorem dX3_fork_34 : decode cX3_fork 34 = .ok (.getfield 48, 3) := by decide +kernel
theorem dX3_fork_37 : decode cX3_fork 37 = .ok (.iload_n 1, 1) := by decide +kernel
theorem dX3_fork_38 : decode cX3_fork 38 = .ok (.iaload, 1) := by decide +kernel
theorem dX3_fork_39 : decode cX3_fork 39 = .ok (.invokestatic 61, 3) := by decide +kernel
theorem dX3_fork_42 : decode cX3_fork 42 = .ok (.iconst 1, 1) := by decide +kernel
theorem dX3_fork_43 : decode cX3_fork 43 = .ok (.if_icmp .ne 6, 3) := by decide +kernel
theorem dX3_fork_46 : decode cX3_fork 46 = .ok (.bipush (-5), 2) := by decide +kernel
theorem dX3_fork_48 : decode cX3_fork 48 = .ok (.ireturn, 1) := by decide +kernel
theorem dX3_fork_49 : decode cX3_fork 49 = .ok (.aload_n 0, 1) := by decide +kernel
theorem dX3_fork_50 : decode cX3_fork 50 = .ok (.invokevirtual 67, 3) := by decide +kernel
theorem dX3_fork_53 : decode cX3_fork 53 = .ok (.aload_n 0, 1) := by decide +kernel
theorem dX3_fork_54 : decode cX3_fork 54 = .ok (.getfield 10, 3) := by decide +kernel
theorem dX3_fork_57 : decode cX3_fork 57 = .ok (.iload_n 1, 1) := by decide +kernel
theorem dX3_fork_58 : decode cX3_fork 58 = .ok (.iload_n 2, 1) := by decide +kernel
theorem dX3_fork_59 : decode cX3_fork 59 = .ok (.invokevirtual 70, 3) := by decide +kernel
theorem dX3_fork_62 : decode cX3_fork 62 = .ok (.iload_n 2, 1) := by decide +kernel
theorem dX3_fork_63 : decode cX3_fork 63 = .ok (.ireturn, 1) := by decide +kernel
set_option maxRecDepth 20000 in
theorem ggX3_gather_X2_isHelper : GoodIn wsX3_gather wsX2_isHelper := goodIn_r _ [7, 8, 70, 71, 72, 73, 74, 75, 76] (by decide +kernel) (by decide +kernel)
set_option maxRecDepth 20000 in
theorem gX3_gather_X2_isHelper : GoodIn wsX3_gather (wsV RX3 53 RX2 yX2_isHelper wsX2_isHelper) := goodIn_app (goodIn_of _ (by decide +kernel)) ggX3_gather_X2_isHelper
set_option maxRecDepth 20000 in
theorem ggX3_gather_X3_remember : GoodIn wsX3_gather wsX3_remember := goodIn_r _ [13, 14, 15, 1, 16, 17, 18, 12, 19, 20, 21, 22, 6, 23, 8, 24, 25, 26, 27, 28, 29, 30, 31, 32, 33, 34, 35, 36, 37, 38, 39, 40, 41, 42, 62, 63, 64, 65, 66, 67, 68, 69, 70, 71, 72, 73, 74, 75, 76, 77, 78, 79] (by decide +kernel) (by decide +kernel)
set_option maxRecDepth 20000 in
theorem gX3_gather_X3_remember : GoodIn wsX3_gather (wsV RX3 67 RX3 yX3_remember wsX3_remember) := goodIn_app (goodIn_of _ (by decide +kernel)) ggX3_gather_X3_remember
set_option maxRecDepth 20000 in
theorem ggX3_gather_X2_merge : GoodIn wsX3_gather wsX2_merge := goodIn_r _ [46, 28, 8, 47, 48, 49, 37, 50, 39, 51, 52, 53, 54, 41, 42, 70, 71, 72, 73, 74, 75, 76, 77, 78, 79] (by decide +kernel) (by decide +kernel)
set_option maxRecDepth 20000 in
theorem gX3_gather_X2_merge : GoodIn wsX3_gather (wsV RX3 74 RX2 yX2_merge wsX2_merge) := goodIn_app (goodIn_of _ (by decide +kernel)) ggX3_gather_X2_merge
set_option maxRecDepth 20000 in
theorem ggX3_gather_J6_bitCount_0f7a4 : GoodIn wsX3_gather wsJ6_bitCount_0f7a4 := goodIn_r _ [58, 59, 60, 61] (by decide +kernel) (by decide +kernel)
set_option maxRecDepth 20000 in
theorem gX3_gather_J6_bitCount_0f7a4 : GoodIn wsX3_gather (va_wsS RX3 61 yJ6_bitCount_0f7a4 wsJ6_bitCount_0f7a4) := goodIn_app (goodIn_of _ (by decide +kernel)) ggX3_gather_J6_bitCount_0f7a4
theorem dX3_gather_0 : decode cX3_gather 0 = .ok (.aload_n 0, 1) := by decide +kernel
theorem dX3_gather_1 : decode cX3_gather 1 = .ok (.getfield 10, 3) := by decide +kernel
theorem dX3_gather_4 : decode cX3_gather 4 = .ok (.iload_n 1, 1) := by decide +kernel
theorem dX3_gather_5 : decode cX3_gather 5 = .ok (.invokevirtual 53, 3) := by decide +kernel
theorem dX3_gather_8 : decode cX3_gather 8 = .ok (.ifCond .eq 14, 3) := by decide +kernel
theorem dX3_gather_11 : decode cX3_gather 11 = .ok (.aload_n 0, 1) := by decide +kernel
theorem dX3_gather_12 : decode cX3_gather 12 = .ok (.getfield 10, 3) := by decide +kernel
theorem dX3_gather_15 : decode cX3_gather 15 = .ok (.iload_n 2, 1) := by decide +kernel
theorem dX3_gather_16 : decode cX3_gather 16 = .ok (.invokevirtual 53, 3) := by decide +kernel
theorem dX3_gather_19 : decode cX3_gather 19 = .ok (.ifCond .ne 5, 3) := by decide +kernel
theorem dX3_gather_22 : decode cX3_gather 22 = .ok (.iconst (-1), 1) := by decide +kernel
theorem dX3_gather_23 : decode cX3_gather 23 = .ok (.ireturn, 1) := by decide +kernel
theorem dX3_gather_24 : decode cX3_gather 24 = .ok (.iload_n 1, 1) := by decide +kernel
theorem dX3_gather_25 : decode cX3_gather 25 = .ok (.iload_n 2, 1) := by decide +kernel
theorem dX3_gather_26 : decode cX3_gather 26 = .ok (.if_icmp .ne 6, 3) := by decide +kernel
theorem dX3_gather_29 : decode cX3_gather 29 = .ok (.bipush (-2), 2) := by decide +kernel
theorem dX3_gather_31 : decode cX3_gather 31 = .ok (.ireturn, 1) := by decide +kernel
theorem dX3_gather_32 : decode cX3_gather 32 = .ok (.aload_n 0, 1) := by decide +kernel
theorem dX3_gather_33 : decode cX3_gather 33 = .ok (.invokevirtual 67, 3) := by decide +kernel
theorem dX3_gather_36 : decode cX3_gather 36 = .ok (.aload_n 0, 1) := by decide +kernel
theorem dX3_gather_37 : decode cX3_gather 37 = .ok (.getfield 10, 3) := by decide +kernel
theorem dX3_gather_40 : decode cX3_gather 40 = .ok (.iload_n 1, 1) := by decide +kernel
theorem dX3_gather_41 : decode cX3_gather 41 = .ok (.iload_n 2, 1) := by decide +kernel
theorem dX3_gather_42 : decode cX3_gather 42 = .ok (.invokevirtual 74, 3) := by decide +kernel
theorem dX3_gather_45 : decode cX3_gather 45 = .ok (.aload_n 0, 1) := by decide +kernel
theorem dX3_gather_46 : decode cX3_gather 46 = .ok (.getfield 10, 3) := by decide +kernel
theorem dX3_gather_49 : decode cX3_gather 49 = .ok (.getfield 48, 3) := by decide +kernel
theorem dX3_gather_52 : decode cX3_gather 52 = .ok (.iload_n 2, 1) := by decide +kernel
theorem dX3_gather_53 : decode cX3_gather 53 = .ok (.iaload, 1) := by decide +kernel
theorem dX3_gather_54 : decode cX3_gather 54 = .ok (.invokestatic 61, 3) := by decide +kernel
theorem dX3_gather_57 : decode cX3_gather 57 = .ok (.ireturn, 1) := by decide +kernel
set_option maxRecDepth 20000 in
theorem ggX3_event_X2_isHelper : GoodIn wsX3_event wsX2_isHelper := goodIn_r _ [7, 8, 78, 79, 80, 81, 82, 83, 84] (by decide +kernel) (by decide +kernel)
set_option maxRecDepth 20000 in
theorem gX3_event_X2_isHelper : GoodIn wsX3_event (wsV RX3 53 RX2 yX2_isHelper wsX2_isHelper) := goodIn_app (goodIn_of _ (by decide +kernel)) ggX3_event_X2_isHelper
set_option maxRecDepth 20000 in
theorem ggX3_event_X3_remember : GoodIn wsX3_event wsX3_remember := goodIn_r _ [13, 14, 15, 1, 16, 17, 18, 12, 19, 20, 21, 22, 6, 23, 8, 24, 25, 26, 27, 28, 29, 30, 31, 32, 33, 34, 35, 36, 37, 38, 39, 40, 41, 42, 70, 71, 72, 73, 74, 75, 76, 77, 78, 79, 80, 81, 82, 83, 84, 85, 86, 87] (by decide +kernel) (by decide +kernel)
set_option maxRecDepth 20000 in
theorem gX3_event_X3_remember : GoodIn wsX3_event (wsV RX3 67 RX3 yX3_remember wsX3_remember) := goodIn_app (goodIn_of _ (by decide +kernel)) ggX3_event_X3_remember
set_option maxRecDepth 20000 in
theorem ggX3_event_X2_addEvent : GoodIn wsX3_event wsX2_addEvent := goodIn_r _ [46, 33, 28, 8, 32, 47, 48, 49, 37, 50, 39, 51, 52, 53, 54, 55, 56, 57, 58, 59, 60, 61, 62, 63, 64, 65, 66, 67, 68, 69, 41, 42, 78, 79, 80, 81, 82, 83, 84, 85, 86, 87] (by decide +kernel) (by decide +kernel)
set_option maxRecDepth 20000 in
theorem gX3_event_X2_addEvent : GoodIn wsX3_event (wsV RX3 81 RX2 yX2_addEvent wsX2_addEvent) := goodIn_app (goodIn_of _ (by decide +kernel)) ggX3_event_X2_addEvent
theorem dX3_event_0 : decode cX3_event 0 = .ok (.aload_n 0, 1) := by decide +kernel
theorem dX3_event_1 : decode cX3_event 1 = .ok (.getfield 10, 3) := by decide +kernel
theorem dX3_event_4 : decode cX3_event 4 = .ok (.iload_n 1, 1) := by decide +kernel
theorem dX3_event_5 : decode cX3_event 5 = .ok (.invokevirtual 53, 3) := by decide +kernel
theorem dX3_event_8 : decode cX3_event 8 = .ok (.ifCond .ne 5, 3) := by decide +kernel
theorem dX3_event_11 : decode cX3_event 11 = .ok (.iconst (-1), 1) := by decide +kernel
theorem dX3_event_12 : decode cX3_event 12 = .ok (.ireturn, 1) := by decide +kernel
theorem dX3_event_13 : decode cX3_event 13 = .ok (.aload_n 0, 1) := by decide +kernel
theorem dX3_event_14 : decode cX3_event 14 = .ok (.getfield 10, 3) := by decide +kernel
theorem dX3_event_17 : decode cX3_event 17 = .ok (.getfield 77, 3) := by decide +kernel
theorem dX3_event_20 : decode cX3_event 20 = .ok (.bipush 120, 2) := by decide +kernel
theorem dX3_event_22 : decode cX3_event 22 = .ok (.if_icmp .lt 6, 3) := by decide +kernel
theorem dX3_event_25 : decode cX3_event 25 = .ok (.bipush (-4), 2) := by decide +kernel
theorem dX3_event_27 : decode cX3_event 27 = .ok (.ireturn, 1) := by decide +kernel
theorem dX3_event_28 : decode cX3_event 28 = .ok (.aload_n 0, 1) := by decide +kernel
theorem dX3_event_29 : decode cX3_event 29 = .ok (.invokevirtual 67, 3) := by decide +kernel
theorem dX3_event_32 : decode cX3_event 32 = .ok (.aload_n 0, 1) := by decide +kernel
theorem dX3_event_33 : decode cX3_event 33 = .ok (.getfield 10, 3) := by decide +kernel
theorem dX3_event_36 : decode cX3_event 36 = .ok (.iload_n 1, 1) := by decide +kernel
theorem dX3_event_37 : decode cX3_event 37 = .ok (.invokevirtual 81, 3) := by decide +kernel
theorem dX3_event_40 : decode cX3_event 40 = .ok (.ireturn, 1) := by decide +kernel
set_option maxRecDepth 20000 in
theorem ggX3_send_X2_isHelper : GoodIn wsX3_send wsX2_isHelper := goodIn_r _ [7, 8, 55, 56, 57, 58, 59, 60, 61] (by decide +kernel) (by decide +kernel)
set_option maxRecDepth 20000 in
theorem gX3_send_X2_isHelper : GoodIn wsX3_send (wsV RX3 53 RX2 yX2_isHelper wsX2_isHelper) := goodIn_app (goodIn_of _ (by decide +kernel)) ggX3_send_X2_isHelper
set_option maxRecDepth 20000 in
theorem ggX3_send_X3_remember : GoodIn wsX3_send wsX3_remember := goodIn_r _ [13, 14, 15, 1, 16, 17, 18, 12, 19, 20, 21, 22, 6, 23, 8, 24, 25, 26, 27, 28, 29, 30, 31, 32, 33, 34, 35, 36, 37, 38, 39, 40, 41, 42, 47, 48, 49, 50, 51, 52, 53, 54, 55, 56, 57, 58, 59, 60, 61, 62, 63, 64] (by decide +kernel) (by decide +kernel)
set_option maxRecDepth 20000 in
theorem gX3_send_X3_remember : GoodIn wsX3_send (wsV RX3 67 RX3 yX3_remember wsX3_remember) := goodIn_app (goodIn_of _ (by decide +kernel)) ggX3_send_X3_remember
set_option maxRecDepth 20000 in
theorem ggX3_send_X2_addMessage : GoodIn wsX3_send wsX2_addMessage := goodIn_r _ [46, 31, 30, 28, 29, 34, 35, 36, 37, 38, 39, 40, 25, 26, 27, 41, 42, 55, 56, 57, 58, 59, 60, 61, 62, 63, 64] (by decide +kernel) (by decide +kernel)
set_option maxRecDepth 20000 in
theorem gX3_send_X2_addMessage : GoodIn wsX3_send (wsV RX3 87 RX2 yX2_addMessage wsX2_addMessage) := goodIn_app (goodIn_of _ (by decide +kernel)) ggX3_send_X2_addMessage
theorem dX3_send_0 : decode cX3_send 0 = .ok (.aload_n 0, 1) := by decide +kernel
theorem dX3_send_1 : decode cX3_send 1 = .ok (.getfield 10, 3) := by decide +kernel
theorem dX3_send_4 : decode cX3_send 4 = .ok (.iload_n 1, 1) := by decide +kernel
theorem dX3_send_5 : decode cX3_send 5 = .ok (.invokevirtual 53, 3) := by decide +kernel
theorem dX3_send_8 : decode cX3_send 8 = .ok (.ifCond .ne 5, 3) := by decide +kernel
theorem dX3_send_11 : decode cX3_send 11 = .ok (.iconst (-1), 1) := by decide +kernel
theorem dX3_send_12 : decode cX3_send 12 = .ok (.ireturn, 1) := by decide +kernel
theorem dX3_send_13 : decode cX3_send 13 = .ok (.aload_n 0, 1) := by decide +kernel
theorem dX3_send_14 : decode cX3_send 14 = .ok (.getfield 10, 3) := by decide +kernel
theorem dX3_send_17 : decode cX3_send 17 = .ok (.getfield 84, 3) := by decide +kernel
theorem dX3_send_20 : decode cX3_send 20 = .ok (.bipush 8, 2) := by decide +kernel
theorem dX3_send_22 : decode cX3_send 22 = .ok (.if_icmp .lt 6, 3) := by decide +kernel
theorem dX3_send_25 : decode cX3_send 25 = .ok (.bipush (-4), 2) := by decide +kernel
theorem dX3_send_27 : decode cX3_send 27 = .ok (.ireturn, 1) := by decide +kernel
theorem dX3_send_28 : decode cX3_send 28 = .ok (.aload_n 0, 1) := by decide +kernel
theorem dX3_send_29 : decode cX3_send 29 = .ok (.invokevirtual 67, 3) := by decide +kernel
theorem dX3_send_32 : decode cX3_send 32 = .ok (.aload_n 0, 1) := by decide +kernel
theorem dX3_send_33 : decode cX3_send 33 = .ok (.getfield 10, 3) := by decide +kernel
theorem dX3_send_36 : decode cX3_send 36 = .ok (.iload_n 1, 1) := by decide +kernel
theorem dX3_send_37 : decode cX3_send 37 = .ok (.invokevirtual 87, 3) := by decide +kernel
theorem dX3_send_40 : decode cX3_send 40 = .ok (.ireturn, 1) := by decide +kernel
set_option maxRecDepth 20000 in
theorem ggX3_receive_X2_isHelper : GoodIn wsX3_receive wsX2_isHelper := goodIn_r _ [9, 10, 88, 89, 90, 91, 92, 93, 94] (by decide +kernel) (by decide +kernel)
set_option maxRecDepth 20000 in
theorem gX3_receive_X2_isHelper : GoodIn wsX3_receive (wsV RX3 53 RX2 yX2_isHelper wsX2_isHelper) := goodIn_app (goodIn_of _ (by decide +kernel)) ggX3_receive_X2_isHelper
set_option maxRecDepth 20000 in
theorem ggX3_receive_X2_isMessage : GoodIn wsX3_receive wsX2_isMessage := goodIn_r _ [14, 15, 88, 89, 90, 91, 92, 93, 94] (by decide +kernel) (by decide +kernel)
set_option maxRecDepth 20000 in
theorem gX3_receive_X2_isMessage : GoodIn wsX3_receive (wsV RX3 90 RX2 yX2_isMessage wsX2_isMessage) := goodIn_app (goodIn_of _ (by decide +kernel)) ggX3_receive_X2_isMessage
set_option maxRecDepth 20000 in
theorem ggX3_receive_X3_remember : GoodIn wsX3_receive wsX3_remember := goodIn_r _ [20, 21, 22, 1, 23, 24, 25, 19, 26, 27, 28, 29, 8, 30, 10, 31, 32, 33, 34, 35, 36, 37, 15, 38, 39, 40, 41, 42, 43, 44, 45, 46, 47, 48, 80, 81, 82, 83, 84, 85, 86, 87, 88, 89, 90, 91, 92, 93, 94, 95, 96, 97] (by decide +kernel) (by decide +kernel)
set_option maxRecDepth 20000 in
theorem gX3_receive_X3_remember : GoodIn wsX3_receive (wsV RX3 67 RX3 yX3_remember wsX3_remember) := goodIn_app (goodIn_of _ (by decide +kernel)) ggX3_receive_X3_remember
set_option maxRecDepth 20000 in
theorem ggX3_receive_X1_takeOver : GoodIn wsX3_receive wsX1_takeOver := goodIn_r _ [52, 45, 53, 54, 55, 56, 47, 48, 95, 96, 97] (by decide +kernel) (by decide +kernel)
set_option maxRecDepth 20000 in
theorem gX3_receive_X1_takeOver : GoodIn wsX3_receive (wsV RX3 100 RX1 yX1_takeOver wsX1_takeOver) := goodIn_app (goodIn_of _ (by decide +kernel)) ggX3_receive_X1_takeOver
set_option maxRecDepth 20000 in
theorem ggX3_receive_X2_addEvent : GoodIn wsX3_receive wsX2_addEvent := goodIn_r _ [60, 39, 35, 10, 38, 61, 62, 63, 43, 64, 45, 65, 66, 67, 68, 53, 54, 55, 56, 69, 70, 71, 72, 73, 74, 75, 76, 77, 78, 79, 47, 48, 88, 89, 90, 91, 92, 93, 94, 95, 96, 97] (by decide +kernel) (by decide +kernel)
set_option maxRecDepth 20000 in
theorem gX3_receive_X2_addEvent : GoodIn wsX3_receive (wsV RX3 81 RX2 yX2_addEvent wsX2_addEvent) := goodIn_app (goodIn_of _ (by decide +kernel)) ggX3_receive_X2_addEvent
theorem dX3_receive_0 : decode cX3_receive 0 = .ok (.aload_n 0, 1) := by decide +kernel
theorem dX3_receive_1 : decode cX3_receive 1 = .ok (.getfield 10, 3) := by decide +kernel
theorem dX3_receive_4 : decode cX3_receive 4 = .ok (.iload_n 1, 1) := by decide +kernel
theorem dX3_receive_5 : decode cX3_receive 5 = .ok (.invokevirtual 53, 3) := by decide +kernel
theorem dX3_receive_8 : decode cX3_receive 8 = .ok (.ifCond .eq 14, 3) := by decide +kernel
theorem dX3_receive_11 : decode cX3_receive 11 = .ok (.aload_n 0, 1) := by decide +kernel
theorem dX3_receive_12 : decode cX3_receive 12 = .ok (.getfield 10, 3) := by decide +kernel
theorem dX3_receive_15 : decode cX3_receive 15 = .ok (.iload_n 2, 1) := by decide +kernel
theorem dX3_receive_16 : decode cX3_receive 16 = .ok (.invokevirtual 90, 3) := by decide +kernel
theorem dX3_receive_19 : decode cX3_receive 19 = .ok (.ifCond .ne 5, 3) := by decide +kernel
theorem dX3_receive_22 : decode cX3_receive 22 = .ok (.iconst (-1), 1) := by decide +kernel
theorem dX3_receive_23 : decode cX3_receive 23 = .ok (.ireturn, 1) := by decide +kernel
theorem dX3_receive_24 : decode cX3_receive 24 = .ok (.aload_n 0, 1) := by decide +kernel
theorem dX3_receive_25 : decode cX3_receive 25 = .ok (.getfield 10, 3) := by decide +kernel
theorem dX3_receive_28 : decode cX3_receive 28 = .ok (.getfield 77, 3) := by decide +kernel
theorem dX3_receive_31 : decode cX3_receive 31 = .ok (.bipush 120, 2) := by decide +kernel
theorem dX3_receive_33 : decode cX3_receive 33 = .ok (.if_icmp .lt 6, 3) := by decide +kernel
theorem dX3_receive_36 : decode cX3_receive 36 = .ok (.bipush (-4), 2) := by decide +kernel
theorem dX3_receive_38 : decode cX3_receive 38 = .ok (.ireturn, 1) := by decide +kernel
theorem dX3_receive_39 : decode cX3_receive 39 = .ok (.aload_n 0, 1) := by decide +kernel
theorem dX3_receive_40 : decode cX3_receive 40 = .ok (.invokevirtual 67, 3) := by decide +kernel
theorem dX3_receive_43 : decode cX3_receive 43 = .ok (.aload_n 0, 1) := by decide +kernel
theorem dX3_receive_44 : decode cX3_receive 44 = .ok (.getfield 10, 3) := by decide +kernel
theorem dX3_receive_47 : decode cX3_receive 47 = .ok (.getfield 93, 3) := by decide +kernel
theorem dX3_receive_50 : decode cX3_receive 50 = .ok (.iload_n 1, 1) := by decide +kernel
theorem dX3_receive_51 : decode cX3_receive 51 = .ok (.aaload, 1) := by decide +kernel
theorem dX3_receive_52 : decode cX3_receive 52 = .ok (.aload_n 0, 1) := by decide +kernel
theorem dX3_receive_53 : decode cX3_receive 53 = .ok (.getfield 10, 3) := by decide +kernel
theorem dX3_receive_56 : decode cX3_receive 56 = .ok (.getfield 97, 3) := by decide +kernel
theorem dX3_receive_59 : decode cX3_receive 59 = .ok (.iload_n 2, 1) := by decide +kernel
theorem dX3_receive_60 : decode cX3_receive 60 = .ok (.aaload, 1) := by decide +kernel
theorem dX3_receive_61 : decode cX3_receive 61 = .ok (.invokevirtual 100, 3) := by decide +kernel
theorem dX3_receive_64 : decode cX3_receive 64 = .ok (.aload_n 0, 1) := by decide +kernel
theorem dX3_receive_65 : decode cX3_receive 65 = .ok (.getfield 10, 3) := by decide +kernel
theorem dX3_receive_68 : decode cX3_receive 68 = .ok (.iload_n 1, 1) := by decide +kernel
theorem dX3_receive_69 : decode cX3_receive 69 = .ok (.invokevirtual 81, 3) := by decide +kernel
theorem dX3_receive_72 : decode cX3_receive 72 = .ok (.ireturn, 1) := by decide +kernel
set_option maxRecDepth 20000 in
theorem ggX3_drop_X2_isMessage : GoodIn wsX3_drop wsX2_isMessage := goodIn_r _ [7, 8, 55, 56, 57, 58, 59, 60, 61] (by decide +kernel) (by decide +kernel)
set_option maxRecDepth 20000 in
theorem gX3_drop_X2_isMessage : GoodIn wsX3_drop (wsV RX3 90 RX2 yX2_isMessage wsX2_isMessage) := goodIn_app (goodIn_of _ (by decide +kernel)) ggX3_drop_X2_isMessage
set_option maxRecDepth 20000 in
theorem ggX3_drop_X3_remember : GoodIn wsX3_drop wsX3_remember := goodIn_r _ [13, 14, 15, 1, 16, 17, 18, 12, 19, 20, 21, 22, 6, 23, 24, 25, 26, 27, 28, 29, 30, 31, 8, 32, 33, 34, 35, 36, 37, 38, 39, 40, 41, 42, 47, 48, 49, 50, 51, 52, 53, 54, 55, 56, 57, 58, 59, 60, 61, 62, 63, 64] (by decide +kernel) (by decide +kernel)
set_option maxRecDepth 20000 in
theorem gX3_drop_X3_remember : GoodIn wsX3_drop (wsV RX3 67 RX3 yX3_remember wsX3_remember) := goodIn_app (goodIn_of _ (by decide +kernel)) ggX3_drop_X3_remember
set_option maxRecDepth 20000 in
theorem ggX3_drop_X2_removeMessage : GoodIn wsX3_drop wsX2_removeMessage := goodIn_r _ [46, 8, 31, 30, 34, 35, 36, 37, 38, 39, 40, 26, 27, 28, 41, 42, 55, 56, 57, 58, 59, 60, 61, 62, 63, 64] (by decide +kernel) (by decide +kernel)
set_option maxRecDepth 20000 in
theorem gX3_drop_X2_removeMessage : GoodIn wsX3_drop (wsV RX3 104 RX2 yX2_removeMessage wsX2_removeMessage) := goodIn_app (goodIn_of _ (by decide +kernel)) ggX3_drop_X2_removeMessage
theorem dX3_drop_0 : decode cX3_drop 0 = .ok (.aload_n 0, 1) := by decide +kernel
theorem dX3_drop_1 : decode cX3_drop 1 = .ok (.getfield 10, 3) := by decide +kernel
theorem dX3_drop_4 : decode cX3_drop 4 = .ok (.iload_n 1, 1) := by decide +kernel
theorem dX3_drop_5 : decode cX3_drop 5 = .ok (.invokevirtual 90, 3) := by decide +kernel
theorem dX3_drop_8 : decode cX3_drop 8 = .ok (.ifCond .ne 5, 3) := by decide +kernel
theorem dX3_drop_11 : decode cX3_drop 11 = .ok (.iconst (-1), 1) := by decide +kernel
theorem dX3_drop_12 : decode cX3_drop 12 = .ok (.ireturn, 1) := by decide +kernel
theorem dX3_drop_13 : decode cX3_drop 13 = .ok (.aload_n 0, 1) := by decide +kernel
theorem dX3_drop_14 : decode cX3_drop 14 = .ok (.invokevirtual 67, 3) := by decide +kernel
theorem dX3_drop_17 : decode cX3_drop 17 = .ok (.aload_n 0, 1) := by decide +kernel
theorem dX3_drop_18 : decode cX3_drop 18 = .ok (.getfield 10, 3) := by decide +kernel
theorem dX3_drop_21 : decode cX3_drop 21 = .ok (.iload_n 1, 1) := by decide +kernel
theorem dX3_drop_22 : decode cX3_drop 22 = .ok (.invokevirtual 104, 3) := by decide +kernel
theorem dX3_drop_25 : decode cX3_drop 25 = .ok (.aload_n 0, 1) := by decide +kernel
theorem dX3_drop_26 : decode cX3_drop 26 = .ok (.getfield 10, 3) := by decide +kernel
theorem dX3_drop_29 : decode cX3_drop 29 = .ok (.getfield 84, 3) := by decide +kernel
theorem dX3_drop_32 : decode cX3_drop 32 = .ok (.ireturn, 1) := by decide +kernel
set_option maxRecDepth 20000 in
theorem ggX3_of_X2_isHelper : GoodIn wsX3_of wsX2_isHelper := goodIn_r _ [9, 10, 264, 265, 266, 267, 268, 269, 270] (by decide +kernel) (by decide +kernel)
set_option maxRecDepth 20000 in
theorem gX3_of_X2_isHelper : GoodIn wsX3_of (wsV RX3 53 RX2 yX2_isHelper wsX2_isHelper) := goodIn_app (goodIn_of _ (by decide +kernel)) ggX3_of_X2_isHelper
set_option maxRecDepth 20000 in
theorem ggX3_of_J6_bitCount_0f7a4 : GoodIn wsX3_of wsJ6_bitCount_0f7a4 := goodIn_r _ [14, 15, 16, 17] (by decide +kernel) (by decide +kernel)
set_option maxRecDepth 20000 in
theorem gX3_of_J6_bitCount_0f7a4 : GoodIn wsX3_of (va_wsS RX3 61 yJ6_bitCount_0f7a4 wsJ6_bitCount_0f7a4) := goodIn_app (goodIn_of _ (by decide +kernel)) ggX3_of_J6_bitCount_0f7a4
set_option maxRecDepth 20000 in
theorem ggX3_of_X1_greatestIn : GoodIn wsX3_of wsX1_greatestIn := goodIn_r _ [22, 23, 24, 25, 26, 27, 28, 29, 21, 30, 271, 272, 273] (by decide +kernel) (by decide +kernel)
set_option maxRecDepth 20000 in
theorem gX3_of_X1_greatestIn : GoodIn wsX3_of (wsV RX3 108 RX1 yX1_greatestIn wsX1_greatestIn) := goodIn_app (goodIn_of _ (by decide +kernel)) ggX3_of_X1_greatestIn
set_option maxRecDepth 20000 in
theorem ggX3_of_X1_sum : GoodIn wsX3_of wsX1_sum := goodIn_r _ [34, 23, 271, 272, 273] (by decide +kernel) (by decide +kernel)
set_option maxRecDepth 20000 in
theorem gX3_of_X1_sum : GoodIn wsX3_of (wsV RX3 111 RX1 yX1_sum wsX1_sum) := goodIn_app (goodIn_of _ (by decide +kernel)) ggX3_of_X1_sum
set_option maxRecDepth 20000 in
theorem ggX3_of_X1_knownCount : GoodIn wsX3_of wsX1_knownCount := goodIn_r _ [38, 39, 40, 41, 42, 43, 44, 45, 46, 47, 271, 272, 273] (by decide +kernel) (by decide +kernel)
set_option maxRecDepth 20000 in
theorem gX3_of_X1_knownCount : GoodIn wsX3_of (wsV RX3 114 RX1 yX1_knownCount wsX1_knownCount) := goodIn_app (goodIn_of _ (by decide +kernel)) ggX3_of_X1_knownCount
set_option maxRecDepth 20000 in
theorem ggX3_of_X1_latestKnown : GoodIn wsX3_of wsX1_latestKnown := goodIn_r _ [51, 52, 53, 54, 21, 55, 39, 40, 271, 272, 273] (by decide +kernel) (by decide +kernel)
set_option maxRecDepth 20000 in
theorem gX3_of_X1_latestKnown : GoodIn wsX3_of (wsV RX3 117 RX1 yX1_latestKnown wsX1_latestKnown) := goodIn_app (goodIn_of _ (by decide +kernel)) ggX3_of_X1_latestKnown
set_option maxRecDepth 20000 in
theorem ggX3_of_X1_knots : GoodIn wsX3_of wsX1_knots := goodIn_r _ [59, 23, 60, 61, 21, 62, 63, 64, 65, 271, 272, 273] (by decide +kernel) (by decide +kernel)
set_option maxRecDepth 20000 in
theorem gX3_of_X1_knots : GoodIn wsX3_of (wsV RX3 120 RX1 yX1_knots wsX1_knots) := goodIn_app (goodIn_of _ (by decide +kernel)) ggX3_of_X1_knots
set_option maxRecDepth 20000 in
theorem ggX3_of_X3_textOf : GoodIn wsX3_of wsX3_textOf := goodIn_r _ [70, 71, 72, 73, 74, 75, 76, 77, 78, 79, 80, 81, 82, 83, 84, 85, 86, 87, 88, 89, 90, 91, 92, 93, 94, 95, 96, 97, 98, 99, 100, 101, 102, 25, 26, 27, 103, 104, 105, 106, 107, 108, 109, 110, 111, 112, 113, 114, 115, 116, 117, 118, 119, 120, 121, 122, 123, 124, 125, 126, 127, 128, 129, 130, 131, 132, 133, 134, 135, 136, 137, 138, 139, 140, 141, 142, 143, 144, 145, 146, 147, 148, 21, 149, 23, 150, 151, 152, 63, 64, 65, 153, 154, 155, 156, 157, 158, 159, 160, 161, 162, 13, 163, 164, 165, 166, 167, 168, 169, 170, 171, 172, 173, 174, 175, 176, 177, 178, 179, 180, 181, 182, 183, 184, 185, 186, 187, 188, 189, 190, 191, 192, 193, 194, 195, 196, 197, 198, 199, 200, 201, 202, 203, 204, 205, 206, 207, 208, 209, 210, 211, 212, 213, 214, 215, 216, 217, 218, 219, 220, 221, 222, 223, 224, 225, 226, 227, 228, 229, 230, 231, 232, 233, 234, 235, 236, 237, 238, 239, 240, 241, 242, 243, 244, 245, 246, 247, 256, 257, 258, 259, 260, 261, 262, 263, 274, 275, 276, 277, 271, 272, 273] (by decide +kernel) (by decide +kernel)
set_option maxRecDepth 20000 in
theorem gX3_of_X3_textOf : GoodIn wsX3_of (wsV RX3 123 RX3 yX3_textOf wsX3_textOf) := goodIn_app (goodIn_of _ (by decide +kernel)) ggX3_of_X3_textOf
set_option maxRecDepth 20000 in
theorem ggX3_of_J4_length_8abf5 : GoodIn wsX3_of wsJ4_length_8abf5 := goodIn_r _ [251, 252, 253, 79, 254, 81, 255, 83, 274, 275, 276, 277] (by decide +kernel) (by decide +kernel)
set_option maxRecDepth 20000 in
theorem gX3_of_J4_length_8abf5 : GoodIn wsX3_of (wsV RX3 127 RJ4 yJ4_length_8abf5 wsJ4_length_8abf5) := goodIn_app (goodIn_of _ (by decide +kernel)) ggX3_of_J4_length_8abf5
theorem dX3_of_0 : decode cX3_of 0 = .ok (.aload_n 0, 1) := by decide +kernel
theorem dX3_of_1 : decode cX3_of 1 = .ok (.getfield 10, 3) := by decide +kernel
theorem dX3_of_4 : decode cX3_of 4 = .ok (.iload_n 1, 1) := by decide +kernel
theorem dX3_of_5 : decode cX3_of 5 = .ok (.invokevirtual 53, 3) := by decide +kernel
theorem dX3_of_8 : decode cX3_of 8 = .ok (.ifCond .ne 5, 3) := by decide +kernel
theorem dX3_of_11 : decode cX3_of 11 = .ok (.iconst (-1), 1) := by decide +kernel
theorem dX3_of_12 : decode cX3_of 12 = .ok (.ireturn, 1) := by decide +kernel
theorem dX3_of_13 : decode cX3_of 13 = .ok (.aload_n 0, 1) := by decide +kernel
theorem dX3_of_14 : decode cX3_of 14 = .ok (.getfield 10, 3) := by decide +kernel
theorem dX3_of_17 : decode cX3_of 17 = .ok (.getfield 93, 3) := by decide +kernel
theorem dX3_of_20 : decode cX3_of 20 = .ok (.iload_n 1, 1) := by decide +kernel
theorem dX3_of_21 : decode cX3_of 21 = .ok (.aaload, 1) := by decide +kernel
theorem dX3_of_22 : decode cX3_of 22 = .ok (.astore_n 3, 1) := by decide +kernel
theorem dX3_of_23 : decode cX3_of 23 = .ok (.iload_n 2, 1) := by decide +kernel
theorem dX3_of_24 : decode cX3_of 24 = .ok (.tableswitch 107 0 7 #[48, 58, 71, 78, 83, 88, 93, 98], 48) := by decide +kernel
theorem dX3_of_72 : decode cX3_of 72 = .ok (.aload_n 0, 1) := by decide +kernel
theorem dX3_of_73 : decode cX3_of 73 = .ok (.getfield 10, 3) := by decide +kernel
theorem dX3_of_76 : decode cX3_of 76 = .ok (.getfield 48, 3) := by decide +kernel
theorem dX3_of_79 : decode cX3_of 79 = .ok (.iload_n 1, 1) := by decide +kernel
theorem dX3_of_80 : decode cX3_of 80 = .ok (.iaload, 1) := by decide +kernel
theorem dX3_of_81 : decode cX3_of 81 = .ok (.ireturn, 1) := by decide +kernel
theorem dX3_of_82 : decode cX3_of 82 = .ok (.aload_n 0, 1) := by decide +kernel
theorem dX3_of_83 : decode cX3_of 83 = .ok (.getfield 10, 3) := by decide +kernel
theorem dX3_of_86 : decode cX3_of 86 = .ok (.getfield 48, 3) := by decide +kernel
theorem dX3_of_89 : decode cX3_of 89 = .ok (.iload_n 1, 1) := by decide +kernel
theorem dX3_of_90 : decode cX3_of 90 = .ok (.iaload, 1) := by decide +kernel
theorem dX3_of_91 : decode cX3_of 91 = .ok (.invokestatic 61, 3) := by decide +kernel
theorem dX3_of_94 : decode cX3_of 94 = .ok (.ireturn, 1) := by decide +kernel
theorem dX3_of_95 : decode cX3_of 95 = .ok (.aload_n 3, 1) := by decide +kernel
theorem dX3_of_96 : decode cX3_of 96 = .ok (.ldc 52, 2) := by decide +kernel
theorem dX3_of_98 : decode cX3_of 98 = .ok (.invokevirtual 108, 3) := by decide +kernel
theorem dX3_of_101 : decode cX3_of 101 = .ok (.ireturn, 1) := by decide +kernel
theorem dX3_of_102 : decode cX3_of 102 = .ok (.aload_n 3, 1) := by decide +kernel
theorem dX3_of_103 : decode cX3_of 103 = .ok (.invokevirtual 111, 3) := by decide +kernel
theorem dX3_of_106 : decode cX3_of 106 = .ok (.ireturn, 1) := by decide +kernel
theorem dX3_of_107 : decode cX3_of 107 = .ok (.aload_n 3, 1) := by decide +kernel
theorem dX3_of_108 : decode cX3_of 108 = .ok (.invokevirtual 114, 3) := by decide +kernel
theorem dX3_of_111 : decode cX3_of 111 = .ok (.ireturn, 1) := by decide +kernel
theorem dX3_of_112 : decode cX3_of 112 = .ok (.aload_n 3, 1) := by decide +kernel
theorem dX3_of_113 : decode cX3_of 113 = .ok (.invokevirtual 117, 3) := by decide +kernel
theorem dX3_of_116 : decode cX3_of 116 = .ok (.ireturn, 1) := by decide +kernel
theorem dX3_of_117 : decode cX3_of 117 = .ok (.aload_n 3, 1) := by decide +kernel
theorem dX3_of_118 : decode cX3_of 118 = .ok (.invokevirtual 120, 3) := by decide +kernel
theorem dX3_of_121 : decode cX3_of 121 = .ok (.ireturn, 1) := by decide +kernel
theorem dX3_of_122 : decode cX3_of 122 = .ok (.aload_n 0, 1) := by decide +kernel
theorem dX3_of_123 : decode cX3_of 123 = .ok (.aload_n 3, 1) := by decide +kernel
theorem dX3_of_124 : decode cX3_of 124 = .ok (.invokevirtual 123, 3) := by decide +kernel
theorem dX3_of_127 : decode cX3_of 127 = .ok (.invokevirtual 127, 3) := by decide +kernel
theorem dX3_of_130 : decode cX3_of 130 = .ok (.ireturn, 1) := by decide +kernel
theorem dX3_of_131 : decode cX3_of 131 = .ok (.bipush (-2), 2) := by decide +kernel
theorem dX3_of_133 : decode cX3_of 133 = .ok (.ireturn, 1) := by decide +kernel
set_option maxRecDepth 20000 in
theorem ggX3_ofMessage_X2_isMessage : GoodIn wsX3_ofMessage wsX2_isMessage := goodIn_r _ [8, 9, 47, 48, 49, 50, 51, 52, 53] (by decide +kernel) (by decide +kernel)
set_option maxRecDepth 20000 in
theorem gX3_ofMessage_X2_isMessage : GoodIn wsX3_ofMessage (wsV RX3 90 RX2 yX2_isMessage wsX2_isMessage) := goodIn_app (goodIn_of _ (by decide +kernel)) ggX3_ofMessage_X2_isMessage
set_option maxRecDepth 20000 in
theorem ggX3_ofMessage_X1_sum : GoodIn wsX3_ofMessage wsX1_sum := goodIn_r _ [14, 15, 54, 55, 56] (by decide +kernel) (by decide +kernel)
set_option maxRecDepth 20000 in
theorem gX3_ofMessage_X1_sum : GoodIn wsX3_ofMessage (wsV RX3 111 RX1 yX1_sum wsX1_sum) := goodIn_app (goodIn_of _ (by decide +kernel)) ggX3_ofMessage_X1_sum
set_option maxRecDepth 20000 in
theorem ggX3_ofMessage_X1_knownCount : GoodIn wsX3_ofMessage wsX1_knownCount := goodIn_r _ [19, 20, 21, 22, 23, 24, 25, 26, 27, 28, 54, 55, 56] (by decide +kernel) (by decide +kernel)
set_option maxRecDepth 20000 in
theorem gX3_ofMessage_X1_knownCount : GoodIn wsX3_ofMessage (wsV RX3 114 RX1 yX1_knownCount wsX1_knownCount) := goodIn_app (goodIn_of _ (by decide +kernel)) ggX3_ofMessage_X1_knownCount
set_option maxRecDepth 20000 in
theorem ggX3_ofMessage_X1_knots : GoodIn wsX3_ofMessage wsX1_knots := goodIn_r _ [32, 15, 33, 34, 13, 35, 36, 37, 38, 54, 55, 56] (by decide +kernel) (by decide +kernel)
set_option maxRecDepth 20000 in
theorem gX3_ofMessage_X1_knots : GoodIn wsX3_ofMessage (wsV RX3 120 RX1 yX1_knots wsX1_knots) := goodIn_app (goodIn_of _ (by decide +kernel)) ggX3_ofMessage_X1_knots
theorem dX3_ofMessage_0 : decode cX3_ofMessage 0 = .ok (.aload_n 0, 1) := by decide +kernel
theorem dX3_ofMessage_1 : decode cX3_ofMessage 1 = .ok (.getfield 10, 3) := by decide +kernel
theorem dX3_ofMessage_4 : decode cX3_ofMessage 4 = .ok (.iload_n 1, 1) := by decide +kernel
theorem dX3_ofMessage_5 : decode cX3_ofMessage 5 = .ok (.invokevirtual 90, 3) := by decide +kernel
theorem dX3_ofMessage_8 : decode cX3_ofMessage 8 = .ok (.ifCond .ne 5, 3) := by decide +kernel
theorem dX3_ofMessage_11 : decode cX3_ofMessage 11 = .ok (.iconst (-1), 1) := by decide +kernel
theorem dX3_ofMessage_12 : decode cX3_ofMessage 12 = .ok (.ireturn, 1) := by decide +kernel
theorem dX3_ofMessage_13 : decode cX3_ofMessage 13 = .ok (.aload_n 0, 1) := by decide +kernel
theorem dX3_ofMessage_14 : decode cX3_ofMessage 14 = .ok (.getfield 10, 3) := by decide +kernel
theorem dX3_ofMessage_17 : decode cX3_ofMessage 17 = .ok (.getfield 97, 3) := by decide +kernel
theorem dX3_ofMessage_20 : decode cX3_ofMessage 20 = .ok (.iload_n 1, 1) := by decide +kernel
theorem dX3_ofMessage_21 : decode cX3_ofMessage 21 = .ok (.aaload, 1) := by decide +kernel
theorem dX3_ofMessage_22 : decode cX3_ofMessage 22 = .ok (.astore_n 3, 1) := by decide +kernel
theorem dX3_ofMessage_23 : decode cX3_ofMessage 23 = .ok (.iload_n 2, 1) := by decide +kernel
theorem dX3_ofMessage_24 : decode cX3_ofMessage 24 = .ok (.tableswitch 57 0 3 #[32, 42, 47, 52], 32) := by decide +kernel
theorem dX3_ofMessage_56 : decode cX3_ofMessage 56 = .ok (.aload_n 0, 1) := by decide +kernel
theorem dX3_ofMessage_57 : decode cX3_ofMessage 57 = .ok (.getfield 10, 3) := by decide +kernel
theorem dX3_ofMessage_60 : decode cX3_ofMessage 60 = .ok (.getfield 130, 3) := by decide +kernel
theorem dX3_ofMessage_63 : decode cX3_ofMessage 63 = .ok (.iload_n 1, 1) := by decide +kernel
theorem dX3_ofMessage_64 : decode cX3_ofMessage 64 = .ok (.iaload, 1) := by decide +kernel
theorem dX3_ofMessage_65 : decode cX3_ofMessage 65 = .ok (.ireturn, 1) := by decide +kernel
theorem dX3_ofMessage_66 : decode cX3_ofMessage 66 = .ok (.aload_n 3, 1) := by decide +kernel
theorem dX3_ofMessage_67 : decode cX3_ofMessage 67 = .ok (.invokevirtual 111, 3) := by decide +kernel
theorem dX3_ofMessage_70 : decode cX3_ofMessage 70 = .ok (.ireturn, 1) := by decide +kernel
theorem dX3_ofMessage_71 : decode cX3_ofMessage 71 = .ok (.aload_n 3, 1) := by decide +kernel
theorem dX3_ofMessage_72 : decode cX3_ofMessage 72 = .ok (.invokevirtual 114, 3) := by decide +kernel
theorem dX3_ofMessage_75 : decode cX3_ofMessage 75 = .ok (.ireturn, 1) := by decide +kernel
theorem dX3_ofMessage_76 : decode cX3_ofMessage 76 = .ok (.aload_n 3, 1) := by decide +kernel
theorem dX3_ofMessage_77 : decode cX3_ofMessage 77 = .ok (.invokevirtual 120, 3) := by decide +kernel
theorem dX3_ofMessage_80 : decode cX3_ofMessage 80 = .ok (.ireturn, 1) := by decide +kernel
theorem dX3_ofMessage_81 : decode cX3_ofMessage 81 = .ok (.bipush (-2), 2) := by decide +kernel
theorem dX3_ofMessage_83 : decode cX3_ofMessage 83 = .ok (.ireturn, 1) := by decide +kernel
set_option maxRecDepth 20000 in
theorem ggX3_height_X3_isKind : GoodIn wsX3_height wsX3_isKind := goodIn_r _ [6] (by decide +kernel) (by decide +kernel)
set_option maxRecDepth 20000 in
theorem gX3_height_X3_isKind : GoodIn wsX3_height (va_wsS RX3 133 yX3_isKind wsX3_isKind) := goodIn_app (goodIn_of _ (by decide +kernel)) ggX3_height_X3_isKind
set_option maxRecDepth 20000 in
theorem ggX3_height_X2_stampOf : GoodIn wsX3_height wsX2_stampOf := goodIn_r _ [11, 12, 13, 14, 15, 16, 10, 17, 18, 19, 20, 21, 22, 23, 35, 36, 37, 38, 39, 40, 41] (by decide +kernel) (by decide +kernel)
set_option maxRecDepth 20000 in
theorem gX3_height_X2_stampOf : GoodIn wsX3_height (wsV RX3 136 RX2 yX2_stampOf wsX2_stampOf) := goodIn_app (goodIn_of _ (by decide +kernel)) ggX3_height_X2_stampOf
theorem dX3_height_0 : decode cX3_height 0 = .ok (.iload_n 1, 1) := by decide +kernel
theorem dX3_height_1 : decode cX3_height 1 = .ok (.invokestatic 133, 3) := by decide +kernel
theorem dX3_height_4 : decode cX3_height 4 = .ok (.ifCond .ne 6, 3) := by decide +kernel
theorem dX3_height_7 : decode cX3_height 7 = .ok (.bipush (-2), 2) := by decide +kernel
theorem dX3_height_9 : decode cX3_height 9 = .ok (.ireturn, 1) := by decide +kernel
theorem dX3_height_10 : decode cX3_height 10 = .ok (.aload_n 0, 1) := by decide +kernel
theorem dX3_height_11 : decode cX3_height 11 = .ok (.getfield 10, 3) := by decide +kernel
theorem dX3_height_14 : decode cX3_height 14 = .ok (.iload_n 1, 1) := by decide +kernel
theorem dX3_height_15 : decode cX3_height 15 = .ok (.iload_n 2, 1) := by decide +kernel
theorem dX3_height_16 : decode cX3_height 16 = .ok (.invokevirtual 136, 3) := by decide +kernel
theorem dX3_height_19 : decode cX3_height 19 = .ok (.astore 4, 2) := by decide +kernel
theorem dX3_height_21 : decode cX3_height 21 = .ok (.aload 4, 2) := by decide +kernel
theorem dX3_height_23 : decode cX3_height 23 = .ok (.ifnull 13, 3) := by decide +kernel
theorem dX3_height_26 : decode cX3_height 26 = .ok (.iload_n 3, 1) := by decide +kernel
theorem dX3_height_27 : decode cX3_height 27 = .ok (.ifCond .lt 9, 3) := by decide +kernel
theorem dX3_height_30 : decode cX3_height 30 = .ok (.iload_n 3, 1) := by decide +kernel
theorem dX3_height_31 : decode cX3_height 31 = .ok (.bipush 16, 2) := by decide +kernel
theorem dX3_height_33 : decode cX3_height 33 = .ok (.if_icmp .lt 5, 3) := by decide +kernel
theorem dX3_height_36 : decode cX3_height 36 = .ok (.iconst (-1), 1) := by decide +kernel
theorem dX3_height_37 : decode cX3_height 37 = .ok (.ireturn, 1) := by decide +kernel
theorem dX3_height_38 : decode cX3_height 38 = .ok (.aload 4, 2) := by decide +kernel
theorem dX3_height_40 : decode cX3_height 40 = .ok (.getfield 140, 3) := by decide +kernel
theorem dX3_height_43 : decode cX3_height 43 = .ok (.iload_n 3, 1) := by decide +kernel
theorem dX3_height_44 : decode cX3_height 44 = .ok (.iaload, 1) := by decide +kernel
theorem dX3_height_45 : decode cX3_height 45 = .ok (.ireturn, 1) := by decide +kernel
set_option maxRecDepth 20000 in
theorem ggX3_knows_X3_isKind : GoodIn wsX3_knows wsX3_isKind := goodIn_r _ [5] (by decide +kernel) (by decide +kernel)
set_option maxRecDepth 20000 in
theorem gX3_knows_X3_isKind : GoodIn wsX3_knows (va_wsS RX3 133 yX3_isKind wsX3_isKind) := goodIn_app (goodIn_of _ (by decide +kernel)) ggX3_knows_X3_isKind
set_option maxRecDepth 20000 in
theorem ggX3_knows_X2_stampOf : GoodIn wsX3_knows wsX2_stampOf := goodIn_r _ [10, 11, 12, 13, 14, 15, 9, 16, 17, 18, 19, 20, 21, 22, 43, 44, 45, 46, 47, 48, 49] (by decide +kernel) (by decide +kernel)
set_option maxRecDepth 20000 in
theorem gX3_knows_X2_stampOf : GoodIn wsX3_knows (wsV RX3 136 RX2 yX2_stampOf wsX2_stampOf) := goodIn_app (goodIn_of _ (by decide +kernel)) ggX3_knows_X2_stampOf
set_option maxRecDepth 20000 in
theorem ggX3_knows_X2_isEvent : GoodIn wsX3_knows wsX2_isEvent := goodIn_r _ [26, 27, 43, 44, 45, 46, 47, 48, 49] (by decide +kernel) (by decide +kernel)
set_option maxRecDepth 20000 in
theorem gX3_knows_X2_isEvent : GoodIn wsX3_knows (wsV RX3 143 RX2 yX2_isEvent wsX2_isEvent) := goodIn_app (goodIn_of _ (by decide +kernel)) ggX3_knows_X2_isEvent
set_option maxRecDepth 20000 in
theorem ggX3_knows_X1_isKnown : GoodIn wsX3_knows wsX1_isKnown := goodIn_r _ [32, 33, 34, 50, 51, 52] (by decide +kernel) (by decide +kernel)
set_option maxRecDepth 20000 in
theorem gX3_knows_X1_isKnown : GoodIn wsX3_knows (wsV RX3 146 RX1 yX1_isKnown wsX1_isKnown) := goodIn_app (goodIn_of _ (by decide +kernel)) ggX3_knows_X1_isKnown
theorem dX3_knows_0 : decode cX3_knows 0 = .ok (.iload_n 1, 1) := by decide +kernel
theorem dX3_knows_1 : decode cX3_knows 1 = .ok (.invokestatic 133, 3) := by decide +kernel
theorem dX3_knows_4 : decode cX3_knows 4 = .ok (.ifCond .ne 6, 3) := by decide +kernel
theorem dX3_knows_7 : decode cX3_knows 7 = .ok (.bipush (-2), 2) := by decide +kernel
theorem dX3_knows_9 : decode cX3_knows 9 = .ok (.ireturn, 1) := by decide +kernel
theorem dX3_knows_10 : decode cX3_knows 10 = .ok (.aload_n 0, 1) := by decide +kernel
theorem dX3_knows_11 : decode cX3_knows 11 = .ok (.getfield 10, 3) := by decide +kernel
theorem dX3_knows_14 : decode cX3_knows 14 = .ok (.iload_n 1, 1) := by decide +kernel
theorem dX3_knows_15 : decode cX3_knows 15 = .ok (.iload_n 2, 1) := by decide +kernel
theorem dX3_knows_16 : decode cX3_knows 16 = .ok (.invokevirtual 136, 3) := by decide +kernel
theorem dX3_knows_19 : decode cX3_knows 19 = .ok (.astore 4, 2) := by decide +kernel
theorem dX3_knows_21 : decode cX3_knows 21 = .ok (.aload 4, 2) := by decide +kernel
theorem dX3_knows_23 : decode cX3_knows 23 = .ok (.ifnull 14, 3) := by decide +kernel
theorem dX3_knows_26 : decode cX3_knows 26 = .ok (.aload_n 0, 1) := by decide +kernel
theorem dX3_knows_27 : decode cX3_knows 27 = .ok (.getfield 10, 3) := by decide +kernel
theorem dX3_knows_30 : decode cX3_knows 30 = .ok (.iload_n 3, 1) := by decide +kernel
theorem dX3_knows_31 : decode cX3_knows 31 = .ok (.invokevirtual 143, 3) := by decide +kernel
theorem dX3_knows_34 : decode cX3_knows 34 = .ok (.ifCond .ne 5, 3) := by decide +kernel
theorem dX3_knows_37 : decode cX3_knows 37 = .ok (.iconst (-1), 1) := by decide +kernel
theorem dX3_knows_38 : decode cX3_knows 38 = .ok (.ireturn, 1) := by decide +kernel
theorem dX3_knows_39 : decode cX3_knows 39 = .ok (.aload 4, 2) := by decide +kernel
theorem dX3_knows_41 : decode cX3_knows 41 = .ok (.iload_n 3, 1) := by decide +kernel
theorem dX3_knows_42 : decode cX3_knows 42 = .ok (.invokevirtual 146, 3) := by decide +kernel
theorem dX3_knows_45 : decode cX3_knows 45 = .ok (.ifCond .eq 7, 3) := by decide +kernel
theorem dX3_knows_48 : decode cX3_knows 48 = .ok (.iconst 1, 1) := by decide +kernel
theorem dX3_knows_49 : decode cX3_knows 49 = .ok (.goto 4, 3) := by decide +kernel
theorem dX3_knows_52 : decode cX3_knows 52 = .ok (.iconst 0, 1) := by decide +kernel
theorem dX3_knows_53 : decode cX3_knows 53 = .ok (.ireturn, 1) := by decide +kernel
set_option maxRecDepth 20000 in
theorem ggX3_count_X2_helperSet : GoodIn wsX3_count wsX2_helperSet := goodIn_r _ [11, 12, 13, 14, 10, 15, 16, 58, 59, 60, 61, 62, 63, 64] (by decide +kernel) (by decide +kernel)
set_option maxRecDepth 20000 in
theorem gX3_count_X2_helperSet : GoodIn wsX3_count (wsV RX3 149 RX2 yX2_helperSet wsX2_helperSet) := goodIn_app (goodIn_of _ (by decide +kernel)) ggX3_count_X2_helperSet
set_option maxRecDepth 20000 in
theorem ggX3_count_X2_clashingPairs : GoodIn wsX3_count wsX2_clashingPairs := goodIn_r _ [20, 21, 12, 13, 14, 10, 15, 16, 22, 23, 24, 25, 26, 27, 58, 59, 60, 61, 62, 63, 64, 72, 73, 74] (by decide +kernel) (by decide +kernel)
set_option maxRecDepth 20000 in
theorem gX3_count_X2_clashingPairs : GoodIn wsX3_count (wsV RX3 152 RX2 yX2_clashingPairs wsX2_clashingPairs) := goodIn_app (goodIn_of _ (by decide +kernel)) ggX3_count_X2_clashingPairs
set_option maxRecDepth 20000 in
theorem ggX3_count_X2_knotsOfHelpers : GoodIn wsX3_count wsX2_knotsOfHelpers := goodIn_r _ [31, 21, 12, 13, 14, 10, 15, 16, 32, 33, 34, 25, 35, 27, 36, 37, 38, 39, 40, 41, 58, 59, 60, 61, 62, 63, 64, 72, 73, 74] (by decide +kernel) (by decide +kernel)
set_option maxRecDepth 20000 in
theorem gX3_count_X2_knotsOfHelpers : GoodIn wsX3_count (wsV RX3 155 RX2 yX2_knotsOfHelpers wsX2_knotsOfHelpers) := goodIn_app (goodIn_of _ (by decide +kernel)) ggX3_count_X2_knotsOfHelpers
set_option maxRecDepth 20000 in
theorem ggX3_count_X2_foremost : GoodIn wsX3_count wsX2_foremost := goodIn_r _ [45, 12, 13, 14, 10, 15, 16, 46, 47, 48, 49, 21, 22, 23, 24, 25, 26, 27, 58, 59, 60, 61, 62, 63, 64, 72, 73, 74] (by decide +kernel) (by decide +kernel)
set_option maxRecDepth 20000 in
theorem gX3_count_X2_foremost : GoodIn wsX3_count (wsV RX3 158 RX2 yX2_foremost wsX2_foremost) := goodIn_app (goodIn_of _ (by decide +kernel)) ggX3_count_X2_foremost
theorem dX3_count_0 : decode cX3_count 0 = .ok (.iload_n 1, 1) := by decide +kernel
theorem dX3_count_1 : decode cX3_count 1 = .ok (.tableswitch 108 0 7 #[47, 55, 63, 71, 79, 87, 95, 103], 47) := by decide +kernel
theorem dX3_count_48 : decode cX3_count 48 = .ok (.aload_n 0, 1) := by decide +kernel
theorem dX3_count_49 : decode cX3_count 49 = .ok (.getfield 10, 3) := by decide +kernel
theorem dX3_count_52 : decode cX3_count 52 = .ok (.invokevirtual 149, 3) := by decide +kernel
theorem dX3_count_55 : decode cX3_count 55 = .ok (.ireturn, 1) := by decide +kernel
theorem dX3_count_56 : decode cX3_count 56 = .ok (.aload_n 0, 1) := by decide +kernel
theorem dX3_count_57 : decode cX3_count 57 = .ok (.getfield 10, 3) := by decide +kernel
theorem dX3_count_60 : decode cX3_count 60 = .ok (.getfield 84, 3) := by decide +kernel
theorem dX3_count_63 : decode cX3_count 63 = .ok (.ireturn, 1) := by decide +kernel
theorem dX3_count_64 : decode cX3_count 64 = .ok (.aload_n 0, 1) := by decide +kernel
theorem dX3_count_65 : decode cX3_count 65 = .ok (.getfield 10, 3) := by decide +kernel
theorem dX3_count_68 : decode cX3_count 68 = .ok (.getfield 77, 3) := by decide +kernel
theorem dX3_count_71 : decode cX3_count 71 = .ok (.ireturn, 1) := by decide +kernel
theorem dX3_count_72 : decode cX3_count 72 = .ok (.aload_n 0, 1) := by decide +kernel
theorem dX3_count_73 : decode cX3_count 73 = .ok (.getfield 10, 3) := by decide +kernel
theorem dX3_count_76 : decode cX3_count 76 = .ok (.invokevirtual 152, 3) := by decide +kernel
theorem dX3_count_79 : decode cX3_count 79 = .ok (.ireturn, 1) := by decide +kernel
theorem dX3_count_80 : decode cX3_count 80 = .ok (.aload_n 0, 1) := by decide +kernel
theorem dX3_count_81 : decode cX3_count 81 = .ok (.getfield 10, 3) := by decide +kernel
theorem dX3_count_84 : decode cX3_count 84 = .ok (.invokevirtual 155, 3) := by decide +kernel
theorem dX3_count_87 : decode cX3_count 87 = .ok (.ireturn, 1) := by decide +kernel
theorem dX3_count_88 : decode cX3_count 88 = .ok (.aload_n 0, 1) := by decide +kernel
theorem dX3_count_89 : decode cX3_count 89 = .ok (.getfield 10, 3) := by decide +kernel
theorem dX3_count_92 : decode cX3_count 92 = .ok (.invokevirtual 158, 3) := by decide +kernel
theorem dX3_count_95 : decode cX3_count 95 = .ok (.ireturn, 1) := by decide +kernel
theorem dX3_count_96 : decode cX3_count 96 = .ok (.aload_n 0, 1) := by decide +kernel
theorem dX3_count_97 : decode cX3_count 97 = .ok (.getfield 30, 3) := by decide +kernel
theorem dX3_count_100 : decode cX3_count 100 = .ok (.getfield 161, 3) := by decide +kernel
theorem dX3_count_103 : decode cX3_count 103 = .ok (.ireturn, 1) := by decide +kernel
theorem dX3_count_104 : decode cX3_count 104 = .ok (.aload_n 0, 1) := by decide +kernel
theorem dX3_count_105 : decode cX3_count 105 = .ok (.getfield 163, 3) := by decide +kernel
theorem dX3_count_108 : decode cX3_count 108 = .ok (.ireturn, 1) := by decide +kernel
theorem dX3_count_109 : decode cX3_count 109 = .ok (.bipush (-2), 2) := by decide +kernel
theorem dX3_count_111 : decode cX3_count 111 = .ok (.ireturn, 1) := by decide +kernel
set_option maxRecDepth 20000 in
theorem ggX3_whose_X2_isEvent : GoodIn wsX3_whose wsX2_isEvent := goodIn_r _ [7, 8, 17, 18, 19, 20, 21, 22, 23] (by decide +kernel) (by decide +kernel)
set_option maxRecDepth 20000 in
theorem gX3_whose_X2_isEvent : GoodIn wsX3_whose (wsV RX3 143 RX2 yX2_isEvent wsX2_isEvent) := goodIn_app (goodIn_of _ (by decide +kernel)) ggX3_whose_X2_isEvent
theorem dX3_whose_0 : decode cX3_whose 0 = .ok (.aload_n 0, 1) := by decide +kernel
theorem dX3_whose_1 : decode cX3_whose 1 = .ok (.getfield 10, 3) := by decide +kernel
theorem dX3_whose_4 : decode cX3_whose 4 = .ok (.iload_n 1, 1) := by decide +kernel
theorem dX3_whose_5 : decode cX3_whose 5 = .ok (.invokevirtual 143, 3) := by decide +kernel
theorem dX3_whose_8 : decode cX3_whose 8 = .ok (.ifCond .eq 15, 3) := by decide +kernel
theorem dX3_whose_11 : decode cX3_whose 11 = .ok (.aload_n 0, 1) := by decide +kernel
theorem dX3_whose_12 : decode cX3_whose 12 = .ok (.getfield 10, 3) := by decide +kernel
theorem dX3_whose_15 : decode cX3_whose 15 = .ok (.getfield 166, 3) := by decide +kernel
theorem dX3_whose_18 : decode cX3_whose 18 = .ok (.iload_n 1, 1) := by decide +kernel
theorem dX3_whose_19 : decode cX3_whose 19 = .ok (.iaload, 1) := by decide +kernel
theorem dX3_whose_20 : decode cX3_whose 20 = .ok (.goto 4, 3) := by decide +kernel
theorem dX3_whose_23 : decode cX3_whose 23 = .ok (.iconst (-1), 1) := by decide +kernel
theorem dX3_whose_24 : decode cX3_whose 24 = .ok (.ireturn, 1) := by decide +kernel
set_option maxRecDepth 20000 in
theorem ggX3_order_X3_isKind : GoodIn wsX3_order wsX3_isKind := goodIn_r _ [5] (by decide +kernel) (by decide +kernel)
set_option maxRecDepth 20000 in
theorem gX3_order_X3_isKind : GoodIn wsX3_order (va_wsS RX3 133 yX3_isKind wsX3_isKind) := goodIn_app (goodIn_of _ (by decide +kernel)) ggX3_order_X3_isKind
set_option maxRecDepth 20000 in
theorem ggX3_order_X2_stampOf : GoodIn wsX3_order wsX2_stampOf := goodIn_r _ [10, 11, 12, 13, 14, 15, 9, 16, 17, 18, 19, 20, 21, 22, 37, 38, 39, 40, 41, 42, 43] (by decide +kernel) (by decide +kernel)
set_option maxRecDepth 20000 in
theorem gX3_order_X2_stampOf : GoodIn wsX3_order (wsV RX3 136 RX2 yX2_stampOf wsX2_stampOf) := goodIn_app (goodIn_of _ (by decide +kernel)) ggX3_order_X2_stampOf
set_option maxRecDepth 20000 in
theorem ggX3_order_X1_orderTo : GoodIn wsX3_order wsX1_orderTo := goodIn_r _ [27, 28, 44, 45, 46] (by decide +kernel) (by decide +kernel)
set_option maxRecDepth 20000 in
theorem gX3_order_X1_orderTo : GoodIn wsX3_order (wsV RX3 169 RX1 yX1_orderTo wsX1_orderTo) := goodIn_app (goodIn_of _ (by decide +kernel)) ggX3_order_X1_orderTo
theorem dX3_order_0 : decode cX3_order 0 = .ok (.iload_n 1, 1) := by decide +kernel
theorem dX3_order_1 : decode cX3_order 1 = .ok (.invokestatic 133, 3) := by decide +kernel
theorem dX3_order_4 : decode cX3_order 4 = .ok (.ifCond .eq 10, 3) := by decide +kernel
theorem dX3_order_7 : decode cX3_order 7 = .ok (.iload_n 3, 1) := by decide +kernel
theorem dX3_order_8 : decode cX3_order 8 = .ok (.invokestatic 133, 3) := by decide +kernel
theorem dX3_order_11 : decode cX3_order 11 = .ok (.ifCond .ne 6, 3) := by decide +kernel
theorem dX3_order_14 : decode cX3_order 14 = .ok (.bipush (-2), 2) := by decide +kernel
theorem dX3_order_16 : decode cX3_order 16 = .ok (.ireturn, 1) := by decide +kernel
theorem dX3_order_17 : decode cX3_order 17 = .ok (.aload_n 0, 1) := by decide +kernel
theorem dX3_order_18 : decode cX3_order 18 = .ok (.getfield 10, 3) := by decide +kernel
theorem dX3_order_21 : decode cX3_order 21 = .ok (.iload_n 1, 1) := by decide +kernel
theorem dX3_order_22 : decode cX3_order 22 = .ok (.iload_n 2, 1) := by decide +kernel
theorem dX3_order_23 : decode cX3_order 23 = .ok (.invokevirtual 136, 3) := by decide +kernel
theorem dX3_order_26 : decode cX3_order 26 = .ok (.astore 5, 2) := by decide +kernel
theorem dX3_order_28 : decode cX3_order 28 = .ok (.aload_n 0, 1) := by decide +kernel
theorem dX3_order_29 : decode cX3_order 29 = .ok (.getfield 10, 3) := by decide +kernel
theorem dX3_order_32 : decode cX3_order 32 = .ok (.iload_n 3, 1) := by decide +kernel
theorem dX3_order_33 : decode cX3_order 33 = .ok (.iload 4, 2) := by decide +kernel
theorem dX3_order_35 : decode cX3_order 35 = .ok (.invokevirtual 136, 3) := by decide +kernel
theorem dX3_order_38 : decode cX3_order 38 = .ok (.astore 6, 2) := by decide +kernel
theorem dX3_order_40 : decode cX3_order 40 = .ok (.aload 5, 2) := by decide +kernel
theorem dX3_order_42 : decode cX3_order 42 = .ok (.ifnull 8, 3) := by decide +kernel
theorem dX3_order_45 : decode cX3_order 45 = .ok (.aload 6, 2) := by decide +kernel
theorem dX3_order_47 : decode cX3_order 47 = .ok (.ifnonnull 5, 3) := by decide +kernel
theorem dX3_order_50 : decode cX3_order 50 = .ok (.iconst (-1), 1) := by decide +kernel
theorem dX3_order_51 : decode cX3_order 51 = .ok (.ireturn, 1) := by decide +kernel
theorem dX3_order_52 : decode cX3_order 52 = .ok (.aload 5, 2) := by decide +kernel
theorem dX3_order_54 : decode cX3_order 54 = .ok (.aload 6, 2) := by decide +kernel
theorem dX3_order_56 : decode cX3_order 56 = .ok (.invokevirtual 169, 3) := by decide +kernel
theorem dX3_order_59 : decode cX3_order 59 = .ok (.ireturn, 1) := by decide +kernel
set_option maxRecDepth 20000 in
theorem ggX3_more_X3_isKind : GoodIn wsX3_more wsX3_isKind := goodIn_r _ [5] (by decide +kernel) (by decide +kernel)
set_option maxRecDepth 20000 in
theorem gX3_more_X3_isKind : GoodIn wsX3_more (va_wsS RX3 133 yX3_isKind wsX3_isKind) := goodIn_app (goodIn_of _ (by decide +kernel)) ggX3_more_X3_isKind
set_option maxRecDepth 20000 in
theorem ggX3_more_X2_stampOf : GoodIn wsX3_more wsX2_stampOf := goodIn_r _ [10, 11, 12, 13, 14, 15, 9, 16, 17, 18, 19, 20, 21, 22, 46, 47, 48, 49, 50, 51, 52] (by decide +kernel) (by decide +kernel)
set_option maxRecDepth 20000 in
theorem gX3_more_X2_stampOf : GoodIn wsX3_more (wsV RX3 136 RX2 yX2_stampOf wsX2_stampOf) := goodIn_app (goodIn_of _ (by decide +kernel)) ggX3_more_X2_stampOf
set_option maxRecDepth 20000 in
theorem ggX3_more_X1_knownBeyond : GoodIn wsX3_more wsX1_knownBeyond := goodIn_r _ [27, 28, 29, 30, 31, 32, 33, 34, 35, 36, 37, 53, 54, 55] (by decide +kernel) (by decide +kernel)
set_option maxRecDepth 20000 in
theorem gX3_more_X1_knownBeyond : GoodIn wsX3_more (wsV RX3 173 RX1 yX1_knownBeyond wsX1_knownBeyond) := goodIn_app (goodIn_of _ (by decide +kernel)) ggX3_more_X1_knownBeyond
theorem dX3_more_0 : decode cX3_more 0 = .ok (.iload_n 1, 1) := by decide +kernel
theorem dX3_more_1 : decode cX3_more 1 = .ok (.invokestatic 133, 3) := by decide +kernel
theorem dX3_more_4 : decode cX3_more 4 = .ok (.ifCond .eq 10, 3) := by decide +kernel
theorem dX3_more_7 : decode cX3_more 7 = .ok (.iload_n 3, 1) := by decide +kernel
theorem dX3_more_8 : decode cX3_more 8 = .ok (.invokestatic 133, 3) := by decide +kernel
theorem dX3_more_11 : decode cX3_more 11 = .ok (.ifCond .ne 6, 3) := by decide +kernel
theorem dX3_more_14 : decode cX3_more 14 = .ok (.bipush (-2), 2) := by decide +kernel
theorem dX3_more_16 : decode cX3_more 16 = .ok (.ireturn, 1) := by decide +kernel
theorem dX3_more_17 : decode cX3_more 17 = .ok (.aload_n 0, 1) := by decide +kernel
theorem dX3_more_18 : decode cX3_more 18 = .ok (.getfield 10, 3) := by decide +kernel
theorem dX3_more_21 : decode cX3_more 21 = .ok (.iload_n 1, 1) := by decide +kernel
theorem dX3_more_22 : decode cX3_more 22 = .ok (.iload_n 2, 1) := by decide +kernel
theorem dX3_more_23 : decode cX3_more 23 = .ok (.invokevirtual 136, 3) := by decide +kernel
theorem dX3_more_26 : decode cX3_more 26 = .ok (.astore 5, 2) := by decide +kernel
theorem dX3_more_28 : decode cX3_more 28 = .ok (.aload_n 0, 1) := by decide +kernel
theorem dX3_more_29 : decode cX3_more 29 = .ok (.getfield 10, 3) := by decide +kernel
theorem dX3_more_32 : decode cX3_more 32 = .ok (.iload_n 3, 1) := by decide +kernel
theorem dX3_more_33 : decode cX3_more 33 = .ok (.iload 4, 2) := by decide +kernel
theorem dX3_more_35 : decode cX3_more 35 = .ok (.invokevirtual 136, 3) := by decide +kernel
theorem dX3_more_38 : decode cX3_more 38 = .ok (.astore 6, 2) := by decide +kernel
theorem dX3_more_40 : decode cX3_more 40 = .ok (.aload 5, 2) := by decide +kernel
theorem dX3_more_42 : decode cX3_more 42 = .ok (.ifnull 8, 3) := by decide +kernel
theorem dX3_more_45 : decode cX3_more 45 = .ok (.aload 6, 2) := by decide +kernel
theorem dX3_more_47 : decode cX3_more 47 = .ok (.ifnonnull 5, 3) := by decide +kernel
theorem dX3_more_50 : decode cX3_more 50 = .ok (.iconst (-1), 1) := by decide +kernel
theorem dX3_more_51 : decode cX3_more 51 = .ok (.ireturn, 1) := by decide +kernel
theorem dX3_more_52 : decode cX3_more 52 = .ok (.aload 5, 2) := by decide +kernel
theorem dX3_more_54 : decode cX3_more 54 = .ok (.aload 6, 2) := by decide +kernel
theorem dX3_more_56 : decode cX3_more 56 = .ok (.invokevirtual 173, 3) := by decide +kernel
theorem dX3_more_59 : decode cX3_more 59 = .ok (.ireturn, 1) := by decide +kernel
set_option maxRecDepth 20000 in
theorem ggX3_orderToPad_X2_isHelper : GoodIn wsX3_orderToPad wsX2_isHelper := goodIn_r _ [9, 10, 66, 67, 68, 69, 70, 71, 72] (by decide +kernel) (by decide +kernel)
set_option maxRecDepth 20000 in
theorem gX3_orderToPad_X2_isHelper : GoodIn wsX3_orderToPad (wsV RX3 53 RX2 yX2_isHelper wsX2_isHelper) := goodIn_app (goodIn_of _ (by decide +kernel)) ggX3_orderToPad_X2_isHelper
set_option maxRecDepth 20000 in
theorem ggX3_orderToPad_X0_read : GoodIn wsX3_orderToPad wsX0_read := goodIn_r _ [15, 16, 17, 18, 19, 20, 21, 22, 23, 14, 24, 25, 26, 27, 28, 29, 30, 31, 32, 33, 34, 35, 36, 37, 38, 39, 40, 41, 42, 43, 44, 45, 46, 47, 48, 49, 50, 51, 73, 74, 75, 76, 77, 78, 79, 80, 81, 82] (by decide +kernel) (by decide +kernel)
set_option maxRecDepth 20000 in
theorem gX3_orderToPad_X0_read : GoodIn wsX3_orderToPad (wsV RX3 176 RX0 yX0_read wsX0_read) := goodIn_app (goodIn_of _ (by decide +kernel)) ggX3_orderToPad_X0_read
set_option maxRecDepth 20000 in
theorem ggX3_orderToPad_X1_orderTo : GoodIn wsX3_orderToPad wsX1_orderTo := goodIn_r _ [56, 57, 80, 81, 82] (by decide +kernel) (by decide +kernel)
set_option maxRecDepth 20000 in
theorem gX3_orderToPad_X1_orderTo : GoodIn wsX3_orderToPad (wsV RX3 169 RX1 yX1_orderTo wsX1_orderTo) := goodIn_app (goodIn_of _ (by decide +kernel)) ggX3_orderToPad_X1_orderTo
theorem dX3_orderToPad_0 : decode cX3_orderToPad 0 = .ok (.aload_n 0, 1) := by decide +kernel
theorem dX3_orderToPad_1 : decode cX3_orderToPad 1 = .ok (.getfield 10, 3) := by decide +kernel
theorem dX3_orderToPad_4 : decode cX3_orderToPad 4 = .ok (.iload_n 1, 1) := by decide +kernel
theorem dX3_orderToPad_5 : decode cX3_orderToPad 5 = .ok (.invokevirtual 53, 3) := by decide +kernel
theorem dX3_orderToPad_8 : decode cX3_orderToPad 8 = .ok (.ifCond .ne 5, 3) := by decide +kernel
theorem dX3_orderToPad_11 : decode cX3_orderToPad 11 = .ok (.iconst (-1), 1) := by decide +kernel
theorem dX3_orderToPad_12 : decode cX3_orderToPad 12 = .ok (.ireturn, 1) := by decide +kernel
theorem dX3_orderToPad_13 : decode cX3_orderToPad 13 = .ok (.aload_n 0, 1) := by decide +kernel
theorem dX3_orderToPad_14 : decode cX3_orderToPad 14 = .ok (.getfield 30, 3) := by decide +kernel
theorem dX3_orderToPad_17 : decode cX3_orderToPad 17 = .ok (.invokevirtual 176, 3) := by decide +kernel
theorem dX3_orderToPad_20 : decode cX3_orderToPad 20 = .ok (.bipush (-6), 2) := by decide +kernel
theorem dX3_orderToPad_22 : decode cX3_orderToPad 22 = .ok (.if_icmp .eq 6, 3) := by decide +kernel
theorem dX3_orderToPad_25 : decode cX3_orderToPad 25 = .ok (.bipush (-3), 2) := by decide +kernel
theorem dX3_orderToPad_27 : decode cX3_orderToPad 27 = .ok (.ireturn, 1) := by decide +kernel
theorem dX3_orderToPad_28 : decode cX3_orderToPad 28 = .ok (.aload_n 0, 1) := by decide +kernel
theorem dX3_orderToPad_29 : decode cX3_orderToPad 29 = .ok (.getfield 10, 3) := by decide +kernel
theorem dX3_orderToPad_32 : decode cX3_orderToPad 32 = .ok (.getfield 93, 3) := by decide +kernel
theorem dX3_orderToPad_35 : decode cX3_orderToPad 35 = .ok (.iload_n 1, 1) := by decide +kernel
theorem dX3_orderToPad_36 : decode cX3_orderToPad 36 = .ok (.aaload, 1) := by decide +kernel
theorem dX3_orderToPad_37 : decode cX3_orderToPad 37 = .ok (.aload_n 0, 1) := by decide +kernel
theorem dX3_orderToPad_38 : decode cX3_orderToPad 38 = .ok (.getfield 30, 3) := by decide +kernel
theorem dX3_orderToPad_41 : decode cX3_orderToPad 41 = .ok (.getfield 179, 3) := by decide +kernel
theorem dX3_orderToPad_44 : decode cX3_orderToPad 44 = .ok (.invokevirtual 169, 3) := by decide +kernel
theorem dX3_orderToPad_47 : decode cX3_orderToPad 47 = .ok (.ireturn, 1) := by decide +kernel
set_option maxRecDepth 20000 in
theorem ggX3_printed_X2_isHelper : GoodIn wsX3_printed wsX2_isHelper := goodIn_r _ [7, 8, 229, 230, 231, 232, 233, 234, 235] (by decide +kernel) (by decide +kernel)
set_option maxRecDepth 20000 in
theorem gX3_printed_X2_isHelper : GoodIn wsX3_printed (wsV RX3 53 RX2 yX2_isHelper wsX2_isHelper) := goodIn_app (goodIn_of _ (by decide +kernel)) ggX3_printed_X2_isHelper
set_option maxRecDepth 20000 in
theorem ggX3_printed_X3_textOf : GoodIn wsX3_printed wsX3_textOf := goodIn_r _ [13, 14, 15, 16, 17, 18, 19, 20, 21, 22, 23, 24, 25, 26, 27, 28, 29, 30, 31, 32, 33, 34, 35, 36, 37, 38, 39, 40, 41, 42, 43, 44, 45, 46, 47, 48, 49, 50, 51, 52, 53, 54, 55, 56, 57, 58, 59, 60, 61, 62, 63, 64, 65, 66, 67, 68, 69, 70, 71, 72, 73, 74, 75, 76, 77, 78, 79, 80, 81, 82, 83, 84, 85, 86, 87, 88, 89, 90, 91, 92, 93, 94, 95, 96, 97, 98, 99, 100, 101, 102, 103, 104, 105, 106, 107, 108, 109, 110, 111, 112, 113, 114, 115, 116, 117, 118, 119, 120, 121, 122, 123, 124, 125, 126, 127, 128, 129, 130, 131, 132, 133, 134, 135, 136, 137, 138, 139, 140, 141, 142, 143, 144, 145, 146, 147, 148, 149, 150, 151, 152, 153, 154, 155, 156, 157, 158, 159, 160, 161, 162, 163, 164, 165, 166, 167, 168, 169, 170, 171, 172, 173, 174, 175, 176, 177, 178, 179, 180, 181, 182, 183, 184, 185, 186, 187, 188, 189, 190, 191, 192, 193, 194, 195, 196, 197, 198, 199, 221, 222, 223, 224, 225, 226, 227, 228, 236, 237, 238, 239, 240, 241, 242] (by decide +kernel) (by decide +kernel)
set_option maxRecDepth 20000 in
theorem gX3_printed_X3_textOf : GoodIn wsX3_printed (wsV RX3 123 RX3 yX3_textOf wsX3_textOf) := goodIn_app (goodIn_of _ (by decide +kernel)) ggX3_printed_X3_textOf
set_option maxRecDepth 20000 in
theorem ggX3_printed_J4_length_8abf5 : GoodIn wsX3_printed wsJ4_length_8abf5 := goodIn_r _ [203, 204, 205, 22, 206, 24, 207, 26, 236, 237, 238, 239] (by decide +kernel) (by decide +kernel)
set_option maxRecDepth 20000 in
theorem gX3_printed_J4_length_8abf5 : GoodIn wsX3_printed (wsV RX3 127 RJ4 yJ4_length_8abf5 wsJ4_length_8abf5) := goodIn_app (goodIn_of _ (by decide +kernel)) ggX3_printed_J4_length_8abf5
set_option maxRecDepth 20000 in
theorem ggX3_printed_J4_charAt_5068e : GoodIn wsX3_printed wsJ4_charAt_5068e := goodIn_r _ [211, 212, 213, 22, 214, 24, 215, 34, 27, 26, 216, 65, 47, 66, 217, 195, 133, 196, 135, 197, 198, 138, 199, 218, 219, 89, 220, 124, 148, 149, 128, 129, 130, 236, 237, 238, 239] (by decide +kernel) (by decide +kernel)
set_option maxRecDepth 20000 in
theorem gX3_printed_J4_charAt_5068e : GoodIn wsX3_printed (wsV RX3 182 RJ4 yJ4_charAt_5068e wsJ4_charAt_5068e) := goodIn_app (goodIn_of _ (by decide +kernel)) ggX3_printed_J4_charAt_5068e
theorem dX3_printed_0 : decode cX3_printed 0 = .ok (.aload_n 0, 1) := by decide +kernel
theorem dX3_printed_1 : decode cX3_printed 1 = .ok (.getfield 10, 3) := by decide +kernel
theorem dX3_printed_4 : decode cX3_printed 4 = .ok (.iload_n 1, 1) := by decide +kernel
theorem dX3_printed_5 : decode cX3_printed 5 = .ok (.invokevirtual 53, 3) := by decide +kernel
theorem dX3_printed_8 : decode cX3_printed 8 = .ok (.ifCond .ne 5, 3) := by decide +kernel
theorem dX3_printed_11 : decode cX3_printed 11 = .ok (.iconst (-1), 1) := by decide +kernel
theorem dX3_printed_12 : decode cX3_printed 12 = .ok (.ireturn, 1) := by decide +kernel
theorem dX3_printed_13 : decode cX3_printed 13 = .ok (.aload_n 0, 1) := by decide +kernel
theorem dX3_printed_14 : decode cX3_printed 14 = .ok (.aload_n 0, 1) := by decide +kernel
theorem dX3_printed_15 : decode cX3_printed 15 = .ok (.getfield 10, 3) := by decide +kernel
theorem dX3_printed_18 : decode cX3_printed 18 = .ok (.getfield 93, 3) := by decide +kernel
theorem dX3_printed_21 : decode cX3_printed 21 = .ok (.iload_n 1, 1) := by decide +kernel
theorem dX3_printed_22 : decode cX3_printed 22 = .ok (.aaload, 1) := by decide +kernel
theorem dX3_printed_23 : decode cX3_printed 23 = .ok (.invokevirtual 123, 3) := by decide +kernel
theorem dX3_printed_26 : decode cX3_printed 26 = .ok (.astore_n 3, 1) := by decide +kernel
theorem dX3_printed_27 : decode cX3_printed 27 = .ok (.iload_n 2, 1) := by decide +kernel
theorem dX3_printed_28 : decode cX3_printed 28 = .ok (.ifCond .lt 11, 3) := by decide +kernel
theorem dX3_printed_31 : decode cX3_printed 31 = .ok (.iload_n 2, 1) := by decide +kernel
theorem dX3_printed_32 : decode cX3_printed 32 = .ok (.aload_n 3, 1) := by decide +kernel
theorem dX3_printed_33 : decode cX3_printed 33 = .ok (.invokevirtual 127, 3) := by decide +kernel
theorem dX3_printed_36 : decode cX3_printed 36 = .ok (.if_icmp .lt 5, 3) := by decide +kernel
theorem dX3_printed_39 : decode cX3_printed 39 = .ok (.iconst (-1), 1) := by decide +kernel
theorem dX3_printed_40 : decode cX3_printed 40 = .ok (.ireturn, 1) := by decide +kernel
theorem dX3_printed_41 : decode cX3_printed 41 = .ok (.aload_n 3, 1) := by decide +kernel
theorem dX3_printed_42 : decode cX3_printed 42 = .ok (.iload_n 2, 1) := by decide +kernel
theorem dX3_printed_43 : decode cX3_printed 43 = .ok (.invokevirtual 182, 3) := by decide +kernel
theorem dX3_printed_46 : decode cX3_printed 46 = .ok (.ireturn, 1) := by decide +kernel
set_option maxRecDepth 20000 in
theorem ggX3_ifReceive_X2_isHelper : GoodIn wsX3_ifReceive wsX2_isHelper := goodIn_r _ [10, 11, 86, 87, 88, 89, 90, 91, 92] (by decide +kernel) (by decide +kernel)
set_option maxRecDepth 20000 in
theorem gX3_ifReceive_X2_isHelper : GoodIn wsX3_ifReceive (wsV RX3 53 RX2 yX2_isHelper wsX2_isHelper) := goodIn_app (goodIn_of _ (by decide +kernel)) ggX3_ifReceive_X2_isHelper
set_option maxRecDepth 20000 in
theorem ggX3_ifReceive_X2_isMessage : GoodIn wsX3_ifReceive wsX2_isMessage := goodIn_r _ [15, 16, 86, 87, 88, 89, 90, 91, 92] (by decide +kernel) (by decide +kernel)
set_option maxRecDepth 20000 in
theorem gX3_ifReceive_X2_isMessage : GoodIn wsX3_ifReceive (wsV RX3 90 RX2 yX2_isMessage wsX2_isMessage) := goodIn_app (goodIn_of _ (by decide +kernel)) ggX3_ifReceive_X2_isMessage
set_option maxRecDepth 20000 in
theorem ggX3_ifReceive_X1_become : GoodIn wsX3_ifReceive wsX1_become := goodIn_r _ [21, 22, 23, 24, 25, 26, 27, 28, 93, 94, 95] (by decide +kernel) (by decide +kernel)
set_option maxRecDepth 20000 in
theorem gX3_ifReceive_X1_become : GoodIn wsX3_ifReceive (wsV RX3 186 RX1 yX1_become wsX1_become) := goodIn_app (goodIn_of _ (by decide +kernel)) ggX3_ifReceive_X1_become
set_option maxRecDepth 20000 in
theorem ggX3_ifReceive_X1_takeOver : GoodIn wsX3_ifReceive wsX1_takeOver := goodIn_r _ [32, 22, 33, 34, 35, 36, 27, 28, 93, 94, 95] (by decide +kernel) (by decide +kernel)
set_option maxRecDepth 20000 in
theorem gX3_ifReceive_X1_takeOver : GoodIn wsX3_ifReceive (wsV RX3 100 RX1 yX1_takeOver wsX1_takeOver) := goodIn_app (goodIn_of _ (by decide +kernel)) ggX3_ifReceive_X1_takeOver
set_option maxRecDepth 20000 in
theorem ggX3_ifReceive_X1_raise : GoodIn wsX3_ifReceive wsX1_raise := goodIn_r _ [40, 22, 41, 42, 43, 20, 44, 33, 34, 35, 36, 45, 46, 47, 48, 49, 50, 51, 93, 94, 95] (by decide +kernel) (by decide +kernel)
set_option maxRecDepth 20000 in
theorem gX3_ifReceive_X1_raise : GoodIn wsX3_ifReceive (wsV RX3 189 RX1 yX1_raise wsX1_raise) := goodIn_app (goodIn_of _ (by decide +kernel)) ggX3_ifReceive_X1_raise
set_option maxRecDepth 20000 in
theorem ggX3_ifReceive_X1_knownBeyond : GoodIn wsX3_ifReceive wsX1_knownBeyond := goodIn_r _ [55, 27, 56, 28, 57, 58, 59, 60, 61, 62, 63, 93, 94, 95] (by decide +kernel) (by decide +kernel)
set_option maxRecDepth 20000 in
theorem gX3_ifReceive_X1_knownBeyond : GoodIn wsX3_ifReceive (wsV RX3 173 RX1 yX1_knownBeyond wsX1_knownBeyond) := goodIn_app (goodIn_of _ (by decide +kernel)) ggX3_ifReceive_X1_knownBeyond
set_option maxRecDepth 20000 in
theorem ggX3_ifReceive_X1_orderTo : GoodIn wsX3_ifReceive wsX1_orderTo := goodIn_r _ [67, 22, 93, 94, 95] (by decide +kernel) (by decide +kernel)
set_option maxRecDepth 20000 in
theorem gX3_ifReceive_X1_orderTo : GoodIn wsX3_ifReceive (wsV RX3 169 RX1 yX1_orderTo wsX1_orderTo) := goodIn_app (goodIn_of _ (by decide +kernel)) ggX3_ifReceive_X1_orderTo
set_option maxRecDepth 20000 in
theorem ggX3_ifReceive_X1_knots : GoodIn wsX3_ifReceive wsX1_knots := goodIn_r _ [71, 22, 72, 73, 20, 74, 75, 76, 77, 93, 94, 95] (by decide +kernel) (by decide +kernel)
set_option maxRecDepth 20000 in
theorem gX3_ifReceive_X1_knots : GoodIn wsX3_ifReceive (wsV RX3 120 RX1 yX1_knots wsX1_knots) := goodIn_app (goodIn_of _ (by decide +kernel)) ggX3_ifReceive_X1_knots
theorem dX3_ifReceive_0 : decode cX3_ifReceive 0 = .ok (.aload_n 0, 1) := by decide +kernel
theorem dX3_ifReceive_1 : decode cX3_ifReceive 1 = .ok (.getfield 10, 3) := by decide +kernel
theorem dX3_ifReceive_4 : decode cX3_ifReceive 4 = .ok (.iload_n 1, 1) := by decide +kernel
theorem dX3_ifReceive_5 : decode cX3_ifReceive 5 = .ok (.invokevirtual 53, 3) := by decide +kernel
theorem dX3_ifReceive_8 : decode cX3_ifReceive 8 = .ok (.ifCond .eq 14, 3) := by decide +kernel
theorem dX3_ifReceive_11 : decode cX3_ifReceive 11 = .ok (.aload_n 0, 1) := by decide +kernel
theorem dX3_ifReceive_12 : decode cX3_ifReceive 12 = .ok (.getfield 10, 3) := by decide +kernel
theorem dX3_ifReceive_15 : decode cX3_ifReceive 15 = .ok (.iload_n 2, 1) := by decide +kernel
theorem dX3_ifReceive_16 : decode cX3_ifReceive 16 = .ok (.invokevirtual 90, 3) := by decide +kernel
theorem dX3_ifReceive_19 : decode cX3_ifReceive 19 = .ok (.ifCond .ne 5, 3) := by decide +kernel
theorem dX3_ifReceive_22 : decode cX3_ifReceive 22 = .ok (.iconst (-1), 1) := by decide +kernel
theorem dX3_ifReceive_23 : decode cX3_ifReceive 23 = .ok (.ireturn, 1) := by decide +kernel
theorem dX3_ifReceive_24 : decode cX3_ifReceive 24 = .ok (.aload_n 0, 1) := by decide +kernel
theorem dX3_ifReceive_25 : decode cX3_ifReceive 25 = .ok (.getfield 10, 3) := by decide +kernel
theorem dX3_ifReceive_28 : decode cX3_ifReceive 28 = .ok (.getfield 93, 3) := by decide +kernel
theorem dX3_ifReceive_31 : decode cX3_ifReceive 31 = .ok (.iload_n 1, 1) := by decide +kernel
theorem dX3_ifReceive_32 : decode cX3_ifReceive 32 = .ok (.aaload, 1) := by decide +kernel
theorem dX3_ifReceive_33 : decode cX3_ifReceive 33 = .ok (.astore 4, 2) := by decide +kernel
theorem dX3_ifReceive_35 : decode cX3_ifReceive 35 = .ok (.aload_n 0, 1) := by decide +kernel
theorem dX3_ifReceive_36 : decode cX3_ifReceive 36 = .ok (.getfield 10, 3) := by decide +kernel
theorem dX3_ifReceive_39 : decode cX3_ifReceive 39 = .ok (.getfield 97, 3) := by decide +kernel
theorem dX3_ifReceive_42 : decode cX3_ifReceive 42 = .ok (.iload_n 2, 1) := by decide +kernel
theorem dX3_ifReceive_43 : decode cX3_ifReceive 43 = .ok (.aaload, 1) := by decide +kernel
theorem dX3_ifReceive_44 : decode cX3_ifReceive 44 = .ok (.astore 5, 2) := by decide +kernel
theorem dX3_ifReceive_46 : decode cX3_ifReceive 46 = .ok (.aload_n 0, 1) := by decide +kernel
theorem dX3_ifReceive_47 : decode cX3_ifReceive 47 = .ok (.getfield 37, 3) := by decide +kernel
theorem dX3_ifReceive_50 : decode cX3_ifReceive 50 = .ok (.aload 4, 2) := by decide +kernel
theorem dX3_ifReceive_52 : decode cX3_ifReceive 52 = .ok (.invokevirtual 186, 3) := by decide +kernel
theorem dX3_ifReceive_55 : decode cX3_ifReceive 55 = .ok (.aload_n 0, 1) := by decide +kernel
theorem dX3_ifReceive_56 : decode cX3_ifReceive 56 = .ok (.getfield 37, 3) := by decide +kernel
theorem dX3_ifReceive_59 : decode cX3_ifReceive 59 = .ok (.aload 5, 2) := by decide +kernel
theorem dX3_ifReceive_61 : decode cX3_ifReceive 61 = .ok (.invokevirtual 100, 3) := by decide +kernel
theorem dX3_ifReceive_64 : decode cX3_ifReceive 64 = .ok (.aload_n 0, 1) := by decide +kernel
theorem dX3_ifReceive_65 : decode cX3_ifReceive 65 = .ok (.getfield 37, 3) := by decide +kernel
theorem dX3_ifReceive_68 : decode cX3_ifReceive 68 = .ok (.aload_n 0, 1) := by decide +kernel
theorem dX3_ifReceive_69 : decode cX3_ifReceive 69 = .ok (.getfield 10, 3) := by decide +kernel
theorem dX3_ifReceive_72 : decode cX3_ifReceive 72 = .ok (.getfield 48, 3) := by decide +kernel
theorem dX3_ifReceive_75 : decode cX3_ifReceive 75 = .ok (.iload_n 1, 1) := by decide +kernel
theorem dX3_ifReceive_76 : decode cX3_ifReceive 76 = .ok (.iaload, 1) := by decide +kernel
theorem dX3_ifReceive_77 : decode cX3_ifReceive 77 = .ok (.invokevirtual 189, 3) := by decide +kernel
theorem dX3_ifReceive_80 : decode cX3_ifReceive 80 = .ok (.iload_n 3, 1) := by decide +kernel
theorem dX3_ifReceive_81 : decode cX3_ifReceive 81 = .ok (.tableswitch 55 0 2 #[27, 37, 47], 27) := by decide +kernel
theorem dX3_ifReceive_108 : decode cX3_ifReceive 108 = .ok (.aload 5, 2) := by decide +kernel
theorem dX3_ifReceive_110 : decode cX3_ifReceive 110 = .ok (.aload 4, 2) := by decide +kernel
theorem dX3_ifReceive_112 : decode cX3_ifReceive 112 = .ok (.invokevirtual 173, 3) := by decide +kernel
theorem dX3_ifReceive_115 : decode cX3_ifReceive 115 = .ok (.iconst 1, 1) := by decide +kernel
theorem dX3_ifReceive_116 : decode cX3_ifReceive 116 = .ok (.iadd, 1) := by decide +kernel
theorem dX3_ifReceive_117 : decode cX3_ifReceive 117 = .ok (.ireturn, 1) := by decide +kernel
theorem dX3_ifReceive_118 : decode cX3_ifReceive 118 = .ok (.aload_n 0, 1) := by decide +kernel
theorem dX3_ifReceive_119 : decode cX3_ifReceive 119 = .ok (.getfield 37, 3) := by decide +kernel
theorem dX3_ifReceive_122 : decode cX3_ifReceive 122 = .ok (.aload 5, 2) := by decide +kernel
theorem dX3_ifReceive_124 : decode cX3_ifReceive 124 = .ok (.invokevirtual 169, 3) := by decide +kernel
theorem dX3_ifReceive_127 : decode cX3_ifReceive 127 = .ok (.ireturn, 1) := by decide +kernel
theorem dX3_ifReceive_128 : decode cX3_ifReceive 128 = .ok (.aload_n 0, 1) := by decide +kernel
theorem dX3_ifReceive_129 : decode cX3_ifReceive 129 = .ok (.getfield 37, 3) := by decide +kernel
theorem dX3_ifReceive_132 : decode cX3_ifReceive 132 = .ok (.invokevirtual 120, 3) := by decide +kernel
theorem dX3_ifReceive_135 : decode cX3_ifReceive 135 = .ok (.ireturn, 1) := by decide +kernel
theorem dX3_ifReceive_136 : decode cX3_ifReceive 136 = .ok (.bipush (-2), 2) := by decide +kernel
theorem dX3_ifReceive_138 : decode cX3_ifReceive 138 = .ok (.ireturn, 1) := by decide +kernel
set_option maxRecDepth 20000 in
theorem ggX3_laggard_X2_leastKnowing : GoodIn wsX3_laggard wsX2_leastKnowing := goodIn_r _ [8, 9, 10, 11, 12, 7, 13, 14, 15, 16, 17, 18, 19, 20, 21, 22, 23, 24, 25, 26, 27, 28, 38, 39, 40, 41, 42, 43, 44, 45, 46, 47] (by decide +kernel) (by decide +kernel)
set_option maxRecDepth 20000 in
theorem gX3_laggard_X2_leastKnowing : GoodIn wsX3_laggard (wsV RX3 192 RX2 yX2_leastKnowing wsX2_leastKnowing) := goodIn_app (goodIn_of _ (by decide +kernel)) ggX3_laggard_X2_leastKnowing
set_option maxRecDepth 20000 in
theorem ggX3_laggard_X1_knownCount : GoodIn wsX3_laggard wsX1_knownCount := goodIn_r _ [19, 20, 21, 22, 23, 24, 25, 26, 27, 28, 45, 46, 47] (by decide +kernel) (by decide +kernel)
set_option maxRecDepth 20000 in
theorem gX3_laggard_X1_knownCount : GoodIn wsX3_laggard (wsV RX3 114 RX1 yX1_knownCount wsX1_knownCount) := goodIn_app (goodIn_of _ (by decide +kernel)) ggX3_laggard_X1_knownCount
theorem dX3_laggard_0 : decode cX3_laggard 0 = .ok (.iload_n 1, 1) := by decide +kernel
theorem dX3_laggard_1 : decode cX3_laggard 1 = .ok (.ifCond .eq 11, 3) := by decide +kernel
theorem dX3_laggard_4 : decode cX3_laggard 4 = .ok (.iload_n 1, 1) := by decide +kernel
theorem dX3_laggard_5 : decode cX3_laggard 5 = .ok (.iconst 1, 1) := by decide +kernel
theorem dX3_laggard_6 : decode cX3_laggard 6 = .ok (.if_icmp .eq 6, 3) := by decide +kernel
theorem dX3_laggard_9 : decode cX3_laggard 9 = .ok (.bipush (-2), 2) := by decide +kernel
theorem dX3_laggard_11 : decode cX3_laggard 11 = .ok (.ireturn, 1) := by decide +kernel
theorem dX3_laggard_12 : decode cX3_laggard 12 = .ok (.aload_n 0, 1) := by decide +kernel
theorem dX3_laggard_13 : decode cX3_laggard 13 = .ok (.getfield 10, 3) := by decide +kernel
theorem dX3_laggard_16 : decode cX3_laggard 16 = .ok (.invokevirtual 192, 3) := by decide +kernel
theorem dX3_laggard_19 : decode cX3_laggard 19 = .ok (.istore_n 2, 1) := by decide +kernel
theorem dX3_laggard_20 : decode cX3_laggard 20 = .ok (.iload_n 1, 1) := by decide +kernel
theorem dX3_laggard_21 : decode cX3_laggard 21 = .ok (.ifCond .ne 7, 3) := by decide +kernel
theorem dX3_laggard_24 : decode cX3_laggard 24 = .ok (.iload_n 2, 1) := by decide +kernel
theorem dX3_laggard_25 : decode cX3_laggard 25 = .ok (.goto 23, 3) := by decide +kernel
theorem dX3_laggard_28 : decode cX3_laggard 28 = .ok (.aload_n 0, 1) := by decide +kernel
theorem dX3_laggard_29 : decode cX3_laggard 29 = .ok (.getfield 10, 3) := by decide +kernel
theorem dX3_laggard_32 : decode cX3_laggard 32 = .ok (.getfield 77, 3) := by decide +kernel
theorem dX3_laggard_35 : decode cX3_laggard 35 = .ok (.aload_n 0, 1) := by decide +kernel
theorem dX3_laggard_36 : decode cX3_laggard 36 = .ok (.getfield 10, 3) := by decide +kernel
theorem dX3_laggard_39 : decode cX3_laggard 39 = .ok (.getfield 93, 3) := by decide +kernel
theorem dX3_laggard_42 : decode cX3_laggard 42 = .ok (.iload_n 2, 1) := by decide +kernel
theorem dX3_laggard_43 : decode cX3_laggard 43 = .ok (.aaload, 1) := by decide +kernel
theorem dX3_laggard_44 : decode cX3_laggard 44 = .ok (.invokevirtual 114, 3) := by decide +kernel
theorem dX3_laggard_47 : decode cX3_laggard 47 = .ok (.isub, 1) := by decide +kernel
theorem dX3_laggard_48 : decode cX3_laggard 48 = .ok (.ireturn, 1) := by decide +kernel
set_option maxRecDepth 20000 in
theorem ggX3_put_X3_charactersIn : GoodIn wsX3_put wsX3_charactersIn := goodIn_r _ [6, 7] (by decide +kernel) (by decide +kernel)
set_option maxRecDepth 20000 in
theorem gX3_put_X3_charactersIn : GoodIn wsX3_put (va_wsS RX3 195 yX3_charactersIn wsX3_charactersIn) := goodIn_app (goodIn_of _ (by decide +kernel)) ggX3_put_X3_charactersIn
set_option maxRecDepth 20000 in
theorem ggX3_put_X0_append : GoodIn wsX3_put wsX0_append := goodIn_r _ [12, 13, 14, 15, 24, 25, 26, 27, 28, 29, 30] (by decide +kernel) (by decide +kernel)
set_option maxRecDepth 20000 in
theorem gX3_put_X0_append : GoodIn wsX3_put (wsV RX3 199 RX0 yX0_append wsX0_append) := goodIn_app (goodIn_of _ (by decide +kernel)) ggX3_put_X0_append
theorem dX3_put_0 : decode cX3_put 0 = .ok (.lload_n 1, 1) := by decide +kernel
theorem dX3_put_1 : decode cX3_put 1 = .ok (.invokestatic 195, 3) := by decide +kernel
theorem dX3_put_4 : decode cX3_put 4 = .ok (.istore_n 3, 1) := by decide +kernel
theorem dX3_put_5 : decode cX3_put 5 = .ok (.iload_n 3, 1) := by decide +kernel
theorem dX3_put_6 : decode cX3_put 6 = .ok (.ifCond .ne 6, 3) := by decide +kernel
theorem dX3_put_9 : decode cX3_put 9 = .ok (.bipush (-2), 2) := by decide +kernel
theorem dX3_put_11 : decode cX3_put 11 = .ok (.ireturn, 1) := by decide +kernel
theorem dX3_put_12 : decode cX3_put 12 = .ok (.iload_n 3, 1) := by decide +kernel
theorem dX3_put_13 : decode cX3_put 13 = .ok (.bipush 64, 2) := by decide +kernel
theorem dX3_put_15 : decode cX3_put 15 = .ok (.aload_n 0, 1) := by decide +kernel
theorem dX3_put_16 : decode cX3_put 16 = .ok (.getfield 30, 3) := by decide +kernel
theorem dX3_put_19 : decode cX3_put 19 = .ok (.getfield 161, 3) := by decide +kernel
theorem dX3_put_22 : decode cX3_put 22 = .ok (.isub, 1) := by decide +kernel
theorem dX3_put_23 : decode cX3_put 23 = .ok (.if_icmp .le 6, 3) := by decide +kernel
theorem dX3_put_26 : decode cX3_put 26 = .ok (.bipush (-4), 2) := by decide +kernel
theorem dX3_put_28 : decode cX3_put 28 = .ok (.ireturn, 1) := by decide +kernel
theorem dX3_put_29 : decode cX3_put 29 = .ok (.aload_n 0, 1) := by decide +kernel
theorem dX3_put_30 : decode cX3_put 30 = .ok (.getfield 30, 3) := by decide +kernel
theorem dX3_put_33 : decode cX3_put 33 = .ok (.lload_n 1, 1) := by decide +kernel
theorem dX3_put_34 : decode cX3_put 34 = .ok (.iload_n 3, 1) := by decide +kernel
theorem dX3_put_35 : decode cX3_put 35 = .ok (.invokevirtual 199, 3) := by decide +kernel
theorem dX3_put_38 : decode cX3_put 38 = .ok (.aload_n 0, 1) := by decide +kernel
theorem dX3_put_39 : decode cX3_put 39 = .ok (.getfield 30, 3) := by decide +kernel
theorem dX3_put_42 : decode cX3_put 42 = .ok (.getfield 161, 3) := by decide +kernel
theorem dX3_put_45 : decode cX3_put 45 = .ok (.ireturn, 1) := by decide +kernel
theorem dX3_wipe_0 : decode cX3_wipe 0 = .ok (.aload_n 0, 1) := by decide +kernel
theorem dX3_wipe_1 : decode cX3_wipe 1 = .ok (.getfield 30, 3) := by decide +kernel
theorem dX3_wipe_4 : decode cX3_wipe 4 = .ok (.getfield 161, 3) := by decide +kernel
theorem dX3_wipe_7 : decode cX3_wipe 7 = .ok (.istore_n 1, 1) := by decide +kernel
theorem dX3_wipe_8 : decode cX3_wipe 8 = .ok (.aload_n 0, 1) := by decide +kernel
theorem dX3_wipe_9 : decode cX3_wipe 9 = .ok (.getfield 30, 3) := by decide +kernel
theorem dX3_wipe_12 : decode cX3_wipe 12 = .ok (.iconst 0, 1) := by decide +kernel
theorem dX3_wipe_13 : decode cX3_wipe 13 = .ok (.putfield 161, 3) := by decide +kernel
theorem dX3_wipe_16 : decode cX3_wipe 16 = .ok (.iload_n 1, 1) := by decide +kernel
theorem dX3_wipe_17 : decode cX3_wipe 17 = .ok (.ireturn, 1) := by decide +kernel
set_option maxRecDepth 20000 in
theorem ggX3_fault_X0_read : GoodIn wsX3_fault wsX0_read := goodIn_r _ [6, 7, 8, 9, 10, 11, 12, 13, 14, 5, 15, 16, 17, 18, 19, 20, 21, 22, 23, 24, 25, 26, 27, 28, 29, 30, 31, 32, 33, 34, 35, 36, 37, 38, 39, 40, 41, 42, 51, 52, 53, 54, 55, 56, 57, 58, 59, 60] (by decide +kernel) (by decide +kernel)
set_option maxRecDepth 20000 in
theorem gX3_fault_X0_read : GoodIn wsX3_fault (wsV RX3 176 RX0 yX0_read wsX0_read) := goodIn_app (goodIn_of _ (by decide +kernel)) ggX3_fault_X0_read
theorem dX3_fault_0 : decode cX3_fault 0 = .ok (.aload_n 0, 1) := by decide +kernel
theorem dX3_fault_1 : decode cX3_fault 1 = .ok (.getfield 30, 3) := by decide +kernel
theorem dX3_fault_4 : decode cX3_fault 4 = .ok (.invokevirtual 176, 3) := by decide +kernel
theorem dX3_fault_7 : decode cX3_fault 7 = .ok (.ireturn, 1) := by decide +kernel
set_option maxRecDepth 20000 in
theorem ggX3_undo_X2_become : GoodIn wsX3_undo wsX2_become := goodIn_r _ [8, 9, 10, 11, 12, 13, 14, 15, 16, 17, 18, 19, 20, 21, 22, 23, 24, 25, 26, 27, 28, 37, 38, 39, 40, 41, 42, 43, 44, 45, 46] (by decide +kernel) (by decide +kernel)
set_option maxRecDepth 20000 in
theorem gX3_undo_X2_become : GoodIn wsX3_undo (wsV RX3 203 RX2 yX2_become wsX2_become) := goodIn_app (goodIn_of _ (by decide +kernel)) ggX3_undo_X2_become
theorem dX3_undo_0 : decode cX3_undo 0 = .ok (.aload_n 0, 1) := by decide +kernel
theorem dX3_undo_1 : decode cX3_undo 1 = .ok (.getfield 163, 3) := by decide +kernel
theorem dX3_undo_4 : decode cX3_undo 4 = .ok (.ifCond .gt 6, 3) := by decide +kernel
theorem dX3_undo_7 : decode cX3_undo 7 = .ok (.bipush (-5), 2) := by decide +kernel
theorem dX3_undo_9 : decode cX3_undo 9 = .ok (.ireturn, 1) := by decide +kernel
theorem dX3_undo_10 : decode cX3_undo 10 = .ok (.aload_n 0, 1) := by decide +kernel
theorem dX3_undo_11 : decode cX3_undo 11 = .ok (.dup, 1) := by decide +kernel
theorem dX3_undo_12 : decode cX3_undo 12 = .ok (.getfield 163, 3) := by decide +kernel
theorem dX3_undo_15 : decode cX3_undo 15 = .ok (.iconst 1, 1) := by decide +kernel
theorem dX3_undo_16 : decode cX3_undo 16 = .ok (.isub, 1) := by decide +kernel
theorem dX3_undo_17 : decode cX3_undo 17 = .ok (.putfield 163, 3) := by decide +kernel
theorem dX3_undo_20 : decode cX3_undo 20 = .ok (.aload_n 0, 1) := by decide +kernel
theorem dX3_undo_21 : decode cX3_undo 21 = .ok (.getfield 10, 3) := by decide +kernel
theorem dX3_undo_24 : decode cX3_undo 24 = .ok (.aload_n 0, 1) := by decide +kernel
theorem dX3_undo_25 : decode cX3_undo 25 = .ok (.getfield 16, 3) := by decide +kernel
theorem dX3_undo_28 : decode cX3_undo 28 = .ok (.aload_n 0, 1) := by decide +kernel
theorem dX3_undo_29 : decode cX3_undo 29 = .ok (.getfield 163, 3) := by decide +kernel
theorem dX3_undo_32 : decode cX3_undo 32 = .ok (.aaload, 1) := by decide +kernel
theorem dX3_undo_33 : decode cX3_undo 33 = .ok (.invokevirtual 203, 3) := by decide +kernel
theorem dX3_undo_36 : decode cX3_undo 36 = .ok (.aload_n 0, 1) := by decide +kernel
theorem dX3_undo_37 : decode cX3_undo 37 = .ok (.getfield 163, 3) := by decide +kernel
theorem dX3_undo_40 : decode cX3_undo 40 = .ok (.ireturn, 1) := by decide +kernel
set_option maxRecDepth 20000 in
theorem ggX3_save_X3_isSlot : GoodIn wsX3_save wsX3_isSlot := goodIn_r _ [8] (by decide +kernel) (by decide +kernel)
set_option maxRecDepth 20000 in
theorem gX3_save_X3_isSlot : GoodIn wsX3_save (va_wsS RX3 206 yX3_isSlot wsX3_isSlot) := goodIn_app (goodIn_of _ (by decide +kernel)) ggX3_save_X3_isSlot
set_option maxRecDepth 20000 in
theorem ggX3_save_X2_become : GoodIn wsX3_save wsX2_become := goodIn_r _ [13, 14, 15, 16, 17, 18, 19, 20, 21, 22, 23, 24, 25, 26, 27, 28, 29, 30, 31, 32, 33, 42, 43, 44, 45, 46, 47, 48, 49, 50, 51] (by decide +kernel) (by decide +kernel)
set_option maxRecDepth 20000 in
theorem gX3_save_X2_become : GoodIn wsX3_save (wsV RX3 203 RX2 yX2_become wsX2_become) := goodIn_app (goodIn_of _ (by decide +kernel)) ggX3_save_X2_become
theorem dX3_save_0 : decode cX3_save 0 = .ok (.iload_n 1, 1) := by decide +kernel
theorem dX3_save_1 : decode cX3_save 1 = .ok (.invokestatic 206, 3) := by decide +kernel
theorem dX3_save_4 : decode cX3_save 4 = .ok (.ifCond .ne 6, 3) := by decide +kernel
theorem dX3_save_7 : decode cX3_save 7 = .ok (.bipush (-2), 2) := by decide +kernel
theorem dX3_save_9 : decode cX3_save 9 = .ok (.ireturn, 1) := by decide +kernel
theorem dX3_save_10 : decode cX3_save 10 = .ok (.aload_n 0, 1) := by decide +kernel
theorem dX3_save_11 : decode cX3_save 11 = .ok (.getfield 20, 3) := by decide +kernel
theorem dX3_save_14 : decode cX3_save 14 = .ok (.iload_n 1, 1) := by decide +kernel
theorem dX3_save_15 : decode cX3_save 15 = .ok (.aaload, 1) := by decide +kernel
theorem dX3_save_16 : decode cX3_save 16 = .ok (.aload_n 0, 1) := by decide +kernel
theorem dX3_save_17 : decode cX3_save 17 = .ok (.getfield 10, 3) := by decide +kernel
theorem dX3_save_20 : decode cX3_save 20 = .ok (.invokevirtual 203, 3) := by decide +kernel
theorem dX3_save_23 : decode cX3_save 23 = .ok (.aload_n 0, 1) := by decide +kernel
theorem dX3_save_24 : decode cX3_save 24 = .ok (.getfield 23, 3) := by decide +kernel
theorem dX3_save_27 : decode cX3_save 27 = .ok (.iload_n 1, 1) := by decide +kernel
theorem dX3_save_28 : decode cX3_save 28 = .ok (.iconst 1, 1) := by decide +kernel
theorem dX3_save_29 : decode cX3_save 29 = .ok (.bastore, 1) := by decide +kernel
theorem dX3_save_30 : decode cX3_save 30 = .ok (.aload_n 0, 1) := by decide +kernel
theorem dX3_save_31 : decode cX3_save 31 = .ok (.getfield 10, 3) := by decide +kernel
theorem dX3_save_34 : decode cX3_save 34 = .ok (.getfield 77, 3) := by decide +kernel
theorem dX3_save_37 : decode cX3_save 37 = .ok (.ireturn, 1) := by decide +kernel
set_option maxRecDepth 20000 in
theorem ggX3_restore_X3_isSlot : GoodIn wsX3_restore wsX3_isSlot := goodIn_r _ [8] (by decide +kernel) (by decide +kernel)
set_option maxRecDepth 20000 in
theorem gX3_restore_X3_isSlot : GoodIn wsX3_restore (va_wsS RX3 206 yX3_isSlot wsX3_isSlot) := goodIn_app (goodIn_of _ (by decide +kernel)) ggX3_restore_X3_isSlot
set_option maxRecDepth 20000 in
theorem ggX3_restore_X3_remember : GoodIn wsX3_restore wsX3_remember := goodIn_r _ [12, 13, 14, 2, 15, 16, 17, 7, 18, 19, 20, 21, 22, 23, 24, 25, 26, 27, 28, 29, 30, 31, 32, 33, 34, 35, 36, 37, 38, 39, 40, 41, 42, 43, 44, 45, 46, 47, 48, 49, 50, 51, 52, 53, 54, 55, 56, 57, 58, 59, 60, 61] (by decide +kernel) (by decide +kernel)
set_option maxRecDepth 20000 in
theorem gX3_restore_X3_remember : GoodIn wsX3_restore (wsV RX3 67 RX3 yX3_remember wsX3_remember) := goodIn_app (goodIn_of _ (by decide +kernel)) ggX3_restore_X3_remember
set_option maxRecDepth 20000 in
theorem ggX3_restore_X2_become : GoodIn wsX3_restore wsX2_become := goodIn_r _ [23, 24, 25, 26, 27, 28, 29, 30, 31, 32, 33, 34, 35, 36, 37, 38, 39, 40, 41, 42, 43, 52, 53, 54, 55, 56, 57, 58, 59, 60, 61] (by decide +kernel) (by decide +kernel)
set_option maxRecDepth 20000 in
theorem gX3_restore_X2_become : GoodIn wsX3_restore (wsV RX3 203 RX2 yX2_become wsX2_become) := goodIn_app (goodIn_of _ (by decide +kernel)) ggX3_restore_X2_become
theorem dX3_restore_0 : decode cX3_restore 0 = .ok (.iload_n 1, 1) := by decide +kernel
theorem dX3_restore_1 : decode cX3_restore 1 = .ok (.invokestatic 206, 3) := by decide +kernel
theorem dX3_restore_4 : decode cX3_restore 4 = .ok (.ifCond .ne 6, 3) := by decide +kernel
theorem dX3_restore_7 : decode cX3_restore 7 = .ok (.bipush (-2), 2) := by decide +kernel
theorem dX3_restore_9 : decode cX3_restore 9 = .ok (.ireturn, 1) := by decide +kernel
theorem dX3_restore_10 : decode cX3_restore 10 = .ok (.aload_n 0, 1) := by decide +kernel
theorem dX3_restore_11 : decode cX3_restore 11 = .ok (.getfield 23, 3) := by decide +kernel
theorem dX3_restore_14 : decode cX3_restore 14 = .ok (.iload_n 1, 1) := by decide +kernel
theorem dX3_restore_15 : decode cX3_restore 15 = .ok (.baload, 1) := by decide +kernel
theorem dX3_restore_16 : decode cX3_restore 16 = .ok (.ifCond .ne 6, 3) := by decide +kernel
theorem dX3_restore_19 : decode cX3_restore 19 = .ok (.bipush (-5), 2) := by decide +kernel
theorem dX3_restore_21 : decode cX3_restore 21 = .ok (.ireturn, 1) := by decide +kernel
theorem dX3_restore_22 : decode cX3_restore 22 = .ok (.aload_n 0, 1) := by decide +kernel
theorem dX3_restore_23 : decode cX3_restore 23 = .ok (.invokevirtual 67, 3) := by decide +kernel
theorem dX3_restore_26 : decode cX3_restore 26 = .ok (.aload_n 0, 1) := by decide +kernel
theorem dX3_restore_27 : decode cX3_restore 27 = .ok (.getfield 10, 3) := by decide +kernel
theorem dX3_restore_30 : decode cX3_restore 30 = .ok (.aload_n 0, 1) := by decide +kernel
theorem dX3_restore_31 : decode cX3_restore 31 = .ok (.getfield 20, 3) := by decide +kernel
theorem dX3_restore_34 : decode cX3_restore 34 = .ok (.iload_n 1, 1) := by decide +kernel
theorem dX3_restore_35 : decode cX3_restore 35 = .ok (.aaload, 1) := by decide +kernel
theorem dX3_restore_36 : decode cX3_restore 36 = .ok (.invokevirtual 203, 3) := by decide +kernel
theorem dX3_restore_39 : decode cX3_restore 39 = .ok (.aload_n 0, 1) := by decide +kernel
theorem dX3_restore_40 : decode cX3_restore 40 = .ok (.getfield 10, 3) := by decide +kernel
theorem dX3_restore_43 : decode cX3_restore 43 = .ok (.getfield 77, 3) := by decide +kernel
theorem dX3_restore_46 : decode cX3_restore 46 = .ok (.ireturn, 1) := by decide +kernel
theorem dX3_isKind_0 : decode cX3_isKind 0 = .ok (.iload_n 0, 1) := by decide +kernel
theorem dX3_isKind_1 : decode cX3_isKind 1 = .ok (.ifCond .eq 8, 3) := by decide +kernel
theorem dX3_isKind_4 : decode cX3_isKind 4 = .ok (.iload_n 0, 1) := by decide +kernel
theorem dX3_isKind_5 : decode cX3_isKind 5 = .ok (.iconst 1, 1) := by decide +kernel
theorem dX3_isKind_6 : decode cX3_isKind 6 = .ok (.if_icmp .ne 7, 3) := by decide +kernel
theorem dX3_isKind_9 : decode cX3_isKind 9 = .ok (.iconst 1, 1) := by decide +kernel
theorem dX3_isKind_10 : decode cX3_isKind 10 = .ok (.goto 4, 3) := by decide +kernel
theorem dX3_isKind_13 : decode cX3_isKind 13 = .ok (.iconst 0, 1) := by decide +kernel
theorem dX3_isKind_14 : decode cX3_isKind 14 = .ok (.ireturn, 1) := by decide +kernel
theorem dX3_isSlot_0 : decode cX3_isSlot 0 = .ok (.iload_n 0, 1) := by decide +kernel
theorem dX3_isSlot_1 : decode cX3_isSlot 1 = .ok (.ifCond .lt 12, 3) := by decide +kernel
theorem dX3_isSlot_4 : decode cX3_isSlot 4 = .ok (.iload_n 0, 1) := by decide +kernel
theorem dX3_isSlot_5 : decode cX3_isSlot 5 = .ok (.iconst 2, 1) := by decide +kernel
theorem dX3_isSlot_6 : decode cX3_isSlot 6 = .ok (.if_icmp .ge 7, 3) := by decide +kernel
theorem dX3_isSlot_9 : decode cX3_isSlot 9 = .ok (.iconst 1, 1) := by decide +kernel
theorem dX3_isSlot_10 : decode cX3_isSlot 10 = .ok (.goto 4, 3) := by decide +kernel
theorem dX3_isSlot_13 : decode cX3_isSlot 13 = .ok (.iconst 0, 1) := by decide +kernel
theorem dX3_isSlot_14 : decode cX3_isSlot 14 = .ok (.ireturn, 1) := by decide +kernel
set_option maxRecDepth 20000 in
theorem ggX3_remember_X3_forgetOldest : GoodIn wsX3_remember wsX3_forgetOldest := goodIn_r _ [8, 2, 1, 34, 35, 36, 37, 38, 39, 40, 41] (by decide +kernel) (by decide +kernel)
set_option maxRecDepth 20000 in
theorem gX3_remember_X3_forgetOldest : GoodIn wsX3_remember (wsV RX3 209 RX3 yX3_forgetOldest wsX3_forgetOldest) := goodIn_app (goodIn_of _ (by decide +kernel)) ggX3_remember_X3_forgetOldest
set_option maxRecDepth 20000 in
theorem ggX3_remember_X2_become : GoodIn wsX3_remember wsX2_become := goodIn_r _ [13, 14, 15, 16, 17, 18, 19, 20, 21, 22, 23, 24, 25, 26, 27, 28, 29, 30, 31, 32, 33, 42, 43, 44, 45, 46, 47, 48, 49, 50, 51] (by decide +kernel) (by decide +kernel)
set_option maxRecDepth 20000 in
theorem gX3_remember_X2_become : GoodIn wsX3_remember (wsV RX3 203 RX2 yX2_become wsX2_become) := goodIn_app (goodIn_of _ (by decide +kernel)) ggX3_remember_X2_become
theorem dX3_remember_0 : decode cX3_remember 0 = .ok (.aload_n 0, 1) := by decide +kernel
theorem dX3_remember_1 : decode cX3_remember 1 = .ok (.getfield 163, 3) := by decide +kernel
theorem dX3_remember_4 : decode cX3_remember 4 = .ok (.bipush 6, 2) := by decide +kernel
theorem dX3_remember_6 : decode cX3_remember 6 = .ok (.if_icmp .lt 7, 3) := by decide +kernel
theorem dX3_remember_9 : decode cX3_remember 9 = .ok (.aload_n 0, 1) := by decide +kernel
theorem dX3_remember_10 : decode cX3_remember 10 = .ok (.invokevirtual 209, 3) := by decide +kernel
theorem dX3_remember_13 : decode cX3_remember 13 = .ok (.aload_n 0, 1) := by decide +kernel
theorem dX3_remember_14 : decode cX3_remember 14 = .ok (.getfield 16, 3) := by decide +kernel
theorem dX3_remember_17 : decode cX3_remember 17 = .ok (.aload_n 0, 1) := by decide +kernel
theorem dX3_remember_18 : decode cX3_remember 18 = .ok (.getfield 163, 3) := by decide +kernel
theorem dX3_remember_21 : decode cX3_remember 21 = .ok (.aaload, 1) := by decide +kernel
theorem dX3_remember_22 : decode cX3_remember 22 = .ok (.aload_n 0, 1) := by decide +kernel
theorem dX3_remember_23 : decode cX3_remember 23 = .ok (.getfield 10, 3) := by decide +kernel
theorem dX3_remember_26 : decode cX3_remember 26 = .ok (.invokevirtual 203, 3) := by decide +kernel
theorem dX3_remember_29 : decode cX3_remember 29 = .ok (.aload_n 0, 1) := by decide +kernel
theorem dX3_remember_30 : decode cX3_remember 30 = .ok (.dup, 1) := by decide +kernel
theorem dX3_remember_31 : decode cX3_remember 31 = .ok (.getfield 163, 3) := by decide +kernel
theorem dX3_remember_34 : decode cX3_remember 34 = .ok (.iconst 1, 1) := by decide +kernel
theorem dX3_remember_35 : decode cX3_remember 35 = .ok (.iadd, 1) := by decide +kernel
theorem dX3_remember_36 : decode cX3_remember 36 = .ok (.putfield 163, 3) := by decide +kernel
theorem dX3_remember_39 : decode cX3_remember 39 = .ok (.return_, 1) := by decide +kernel
theorem dX3_forgetOldest_0 : decode cX3_forgetOldest 0 = .ok (.aload_n 0, 1) := by decide +kernel
theorem dX3_forgetOldest_1 : decode cX3_forgetOldest 1 = .ok (.getfield 16, 3) := by decide +kernel
theorem dX3_forgetOldest_4 : decode cX3_forgetOldest 4 = .ok (.iconst 0, 1) := by decide +kernel
theorem dX3_forgetOldest_5 : decode cX3_forgetOldest 5 = .ok (.aaload, 1) := by decide +kernel
theorem dX3_forgetOldest_6 : decode cX3_forgetOldest 6 = .ok (.astore_n 1, 1) := by decide +kernel
theorem dX3_forgetOldest_7 : decode cX3_forgetOldest 7 = .ok (.iconst 1, 1) := by decide +kernel
theorem dX3_forgetOldest_8 : decode cX3_forgetOldest 8 = .ok (.istore_n 2, 1) := by decide +kernel
theorem dX3_forgetOldest_9 : decode cX3_forgetOldest 9 = .ok (.iload_n 2, 1) := by decide +kernel
theorem dX3_forgetOldest_10 : decode cX3_forgetOldest 10 = .ok (.bipush 6, 2) := by decide +kernel
theorem dX3_forgetOldest_12 : decode cX3_forgetOldest 12 = .ok (.if_icmp .ge 23, 3) := by decide +kernel
theorem dX3_forgetOldest_15 : decode cX3_forgetOldest 15 = .ok (.aload_n 0, 1) := by decide +kernel
theorem dX3_forgetOldest_16 : decode cX3_forgetOldest 16 = .ok (.getfield 16, 3) := by decide +kernel
theorem dX3_forgetOldest_19 : decode cX3_forgetOldest 19 = .ok (.iload_n 2, 1) := by decide +kernel
theorem dX3_forgetOldest_20 : decode cX3_forgetOldest 20 = .ok (.iconst 1, 1) := by decide +kernel
theorem dX3_forgetOldest_21 : decode cX3_forgetOldest 21 = .ok (.isub, 1) := by decide +kernel
theorem dX3_forgetOldest_22 : decode cX3_forgetOldest 22 = .ok (.aload_n 0, 1) := by decide +kernel
theorem dX3_forgetOldest_23 : decode cX3_forgetOldest 23 = .ok (.getfield 16, 3) := by decide +kernel
theorem dX3_forgetOldest_26 : decode cX3_forgetOldest 26 = .ok (.iload_n 2, 1) := by decide +kernel
theorem dX3_forgetOldest_27 : decode cX3_forgetOldest 27 = .ok (.aaload, 1) := by decide +kernel
theorem dX3_forgetOldest_28 : decode cX3_forgetOldest 28 = .ok (.aastore, 1) := by decide +kernel
theorem dX3_forgetOldest_29 : decode cX3_forgetOldest 29 = .ok (.iinc 2 1, 3) := by decide +kernel
theorem dX3_forgetOldest_32 : decode cX3_forgetOldest 32 = .ok (.goto (-23), 3) := by decide +kernel
theorem dX3_forgetOldest_35 : decode cX3_forgetOldest 35 = .ok (.aload_n 0, 1) := by decide +kernel
theorem dX3_forgetOldest_36 : decode cX3_forgetOldest 36 = .ok (.getfield 16, 3) := by decide +kernel
theorem dX3_forgetOldest_39 : decode cX3_forgetOldest 39 = .ok (.iconst 5, 1) := by decide +kernel
theorem dX3_forgetOldest_40 : decode cX3_forgetOldest 40 = .ok (.aload_n 1, 1) := by decide +kernel
theorem dX3_forgetOldest_41 : decode cX3_forgetOldest 41 = .ok (.aastore, 1) := by decide +kernel
theorem dX3_forgetOldest_42 : decode cX3_forgetOldest 42 = .ok (.aload_n 0, 1) := by decide +kernel
theorem dX3_forgetOldest_43 : decode cX3_forgetOldest 43 = .ok (.iconst 5, 1) := by decide +kernel
theorem dX3_forgetOldest_44 : decode cX3_forgetOldest 44 = .ok (.putfield 163, 3) := by decide +kernel
theorem dX3_forgetOldest_47 : decode cX3_forgetOldest 47 = .ok (.return_, 1) := by decide +kernel
set_option maxRecDepth 20000 in
theorem ggX3_textOf_J4_setLength_d00df : GoodIn wsX3_textOf wsJ4_setLength_d00df := goodIn_r _ [6, 7, 8, 9, 10, 11, 12, 13, 14, 15, 16, 17, 18, 19, 20, 21, 22, 23, 24, 25, 26, 27, 28, 29, 30, 31, 32, 33, 34, 35, 36, 37, 38, 39, 40, 41, 42, 43, 44, 45, 46, 47, 48, 49, 50, 51, 52, 53, 54, 55, 56, 57, 58, 59, 60, 61, 62, 63, 64, 65, 66, 67, 68, 69, 70, 71, 72, 73, 74, 75, 76, 77, 78, 195, 196, 197, 198] (by decide +kernel) (by decide +kernel)
set_option maxRecDepth 20000 in
theorem gX3_textOf_J4_setLength_d00df : GoodIn wsX3_textOf (wsV RX3 212 RJ4 yJ4_setLength_d00df wsJ4_setLength_d00df) := goodIn_app (goodIn_of _ (by decide +kernel)) ggX3_textOf_J4_setLength_d00df
set_option maxRecDepth 20000 in
theorem ggX3_textOf_X1_print : GoodIn wsX3_textOf wsX1_print := goodIn_r _ [83, 84, 85, 86, 82, 87, 88, 89, 90, 91, 92, 93, 5, 94, 95, 96, 9, 97, 11, 98, 13, 14, 99, 100, 101, 102, 16, 17, 18, 19, 20, 21, 22, 23, 24, 25, 26, 27, 28, 29, 30, 31, 32, 33, 34, 35, 36, 37, 38, 39, 40, 41, 42, 43, 44, 45, 46, 47, 48, 49, 50, 51, 52, 53, 54, 55, 56, 57, 58, 59, 60, 61, 62, 63, 103, 104, 105, 106, 107, 108, 109, 76, 110, 111, 112, 113, 114, 115, 116, 117, 118, 119, 120, 121, 122, 123, 124, 125, 126, 127, 128, 129, 130, 131, 132, 133, 134, 135, 136, 137, 138, 139, 140, 141, 142, 143, 144, 145, 146, 66, 147, 148, 149, 150, 151, 152, 153, 154, 155, 156, 157, 158, 159, 160, 161, 162, 163, 164, 165, 166, 167, 168, 169, 170, 171, 172, 173, 174, 175, 176, 177, 178, 179, 180, 181, 182, 183, 184, 185, 186, 199, 200, 201, 195, 196, 197, 198] (by decide +kernel) (by decide +kernel)
set_option maxRecDepth 20000 in
theorem gX3_textOf_X1_print : GoodIn wsX3_textOf (wsV RX3 215 RX1 yX1_print wsX1_print) := goodIn_app (goodIn_of _ (by decide +kernel)) ggX3_textOf_X1_print
theorem dX3_textOf_0 : decode cX3_textOf 0 = .ok (.aload_n 0, 1) := by decide +kernel
theorem dX3_textOf_1 : decode cX3_textOf 1 = .ok (.getfield 44, 3) := by decide +kernel
theorem dX3_textOf_4 : decode cX3_textOf 4 = .ok (.iconst 0, 1) := by decide +kernel
theorem dX3_textOf_5 : decode cX3_textOf 5 = .ok (.invokevirtual 212, 3) := by decide +kernel
theorem dX3_textOf_8 : decode cX3_textOf 8 = .ok (.aload_n 1, 1) := by decide +kernel
theorem dX3_textOf_9 : decode cX3_textOf 9 = .ok (.aload_n 0, 1) := by decide +kernel
theorem dX3_textOf_10 : decode cX3_textOf 10 = .ok (.getfield 44, 3) := by decide +kernel
theorem dX3_textOf_13 : decode cX3_textOf 13 = .ok (.invokevirtual 215, 3) := by decide +kernel
theorem dX3_textOf_16 : decode cX3_textOf 16 = .ok (.aload_n 0, 1) := by decide +kernel
theorem dX3_textOf_17 : decode cX3_textOf 17 = .ok (.getfield 44, 3) := by decide +kernel
theorem dX3_textOf_20 : decode cX3_textOf 20 = .ok (.areturn, 1) := by decide +kernel
theorem dX3_charactersIn_0 : decode cX3_charactersIn 0 = .ok (.lload_n 0, 1) := by decide +kernel
theorem dX3_charactersIn_1 : decode cX3_charactersIn 1 = .ok (.lstore_n 2, 1) := by decide +kernel
theorem dX3_charactersIn_2 : decode cX3_charactersIn 2 = .ok (.iconst 0, 1) := by decide +kernel
theorem dX3_charactersIn_3 : decode cX3_charactersIn 3 = .ok (.istore 4, 2) := by decide +kernel
theorem dX3_charactersIn_5 : decode cX3_charactersIn 5 = .ok (.lload_n 2, 1) := by decide +kernel
theorem dX3_charactersIn_6 : decode cX3_charactersIn 6 = .ok (.lconst 0, 1) := by decide +kernel
theorem dX3_charactersIn_7 : decode cX3_charactersIn 7 = .ok (.lcmp, 1) := by decide +kernel
theorem dX3_charactersIn_8 : decode cX3_charactersIn 8 = .ok (.ifCond .eq 45, 3) := by decide +kernel
theorem dX3_charactersIn_11 : decode cX3_charactersIn 11 = .ok (.iload 4, 2) := by decide +kernel
theorem dX3_charactersIn_13 : decode cX3_charactersIn 13 = .ok (.bipush 8, 2) := by decide +kernel
theorem dX3_charactersIn_15 : decode cX3_charactersIn 15 = .ok (.if_icmp .ge 38, 3) := by decide +kernel
theorem dX3_charactersIn_18 : decode cX3_charactersIn 18 = .ok (.lload_n 2, 1) := by decide +kernel
theorem dX3_charactersIn_19 : decode cX3_charactersIn 19 = .ok (.ldc2_w 219, 3) := by decide +kernel
theorem dX3_charactersIn_22 : decode cX3_charactersIn 22 = .ok (.land, 1) := by decide +kernel
theorem dX3_charactersIn_23 : decode cX3_charactersIn 23 = .ok (.l2i, 1) := by decide +kernel
theorem dX3_charactersIn_24 : decode cX3_charactersIn 24 = .ok (.istore 5, 2) := by decide +kernel
theorem dX3_charactersIn_26 : decode cX3_charactersIn 26 = .ok (.iload 5, 2) := by decide +kernel
theorem dX3_charactersIn_28 : decode cX3_charactersIn 28 = .ok (.bipush 33, 2) := by decide +kernel
theorem dX3_charactersIn_30 : decode cX3_charactersIn 30 = .ok (.if_icmp .lt 10, 3) := by decide +kernel
theorem dX3_charactersIn_33 : decode cX3_charactersIn 33 = .ok (.iload 5, 2) := by decide +kernel
theorem dX3_charactersIn_35 : decode cX3_charactersIn 35 = .ok (.bipush 126, 2) := by decide +kernel
theorem dX3_charactersIn_37 : decode cX3_charactersIn 37 = .ok (.if_icmp .le 5, 3) := by decide +kernel
theorem dX3_charactersIn_40 : decode cX3_charactersIn 40 = .ok (.iconst 0, 1) := by decide +kernel
theorem dX3_charactersIn_41 : decode cX3_charactersIn 41 = .ok (.ireturn, 1) := by decide +kernel
theorem dX3_charactersIn_42 : decode cX3_charactersIn 42 = .ok (.lload_n 2, 1) := by decide +kernel
theorem dX3_charactersIn_43 : decode cX3_charactersIn 43 = .ok (.bipush 8, 2) := by decide +kernel
theorem dX3_charactersIn_45 : decode cX3_charactersIn 45 = .ok (.lushr, 1) := by decide +kernel
theorem dX3_charactersIn_46 : decode cX3_charactersIn 46 = .ok (.lstore_n 2, 1) := by decide +kernel
theorem dX3_charactersIn_47 : decode cX3_charactersIn 47 = .ok (.iinc 4 1, 3) := by decide +kernel
theorem dX3_charactersIn_50 : decode cX3_charactersIn 50 = .ok (.goto (-45), 3) := by decide +kernel
theorem dX3_charactersIn_53 : decode cX3_charactersIn 53 = .ok (.iload 4, 2) := by decide +kernel
theorem dX3_charactersIn_55 : decode cX3_charactersIn 55 = .ok (.ireturn, 1) := by decide +kernel
theorem dX4_init_0 : decode cX4_init 0 = .ok (.aload_n 0, 1) := by decide +kernel
theorem dX4_init_1 : decode cX4_init 1 = .ok (.invokespecial 1, 3) := by decide +kernel
theorem dX4_init_4 : decode cX4_init 4 = .ok (.aload_n 0, 1) := by decide +kernel
theorem dX4_init_5 : decode cX4_init 5 = .ok (.sipush 459, 3) := by decide +kernel
theorem dX4_init_8 : decode cX4_init 8 = .ok (.newarray .int, 2) := by decide +kernel
theorem dX4_init_10 : decode cX4_init 10 = .ok (.putfield 7, 3) := by decide +kernel
theorem dX4_init_13 : decode cX4_init 13 = .ok (.aload_n 0, 1) := by decide +kernel
theorem dX4_init_14 : decode cX4_init 14 = .ok (.sipush 2754, 3) := by decide +kernel
theorem dX4_init_17 : decode cX4_init 17 = .ok (.newarray .int, 2) := by decide +kernel
theorem dX4_init_19 : decode cX4_init 19 = .ok (.putfield 13, 3) := by decide +kernel
theorem dX4_init_22 : decode cX4_init 22 = .ok (.aload_n 0, 1) := by decide +kernel
theorem dX4_init_23 : decode cX4_init 23 = .ok (.sipush 918, 3) := by decide +kernel
theorem dX4_init_26 : decode cX4_init 26 = .ok (.newarray .int, 2) := by decide +kernel
theorem dX4_init_28 : decode cX4_init 28 = .ok (.putfield 16, 3) := by decide +kernel
theorem dX4_init_31 : decode cX4_init 31 = .ok (.aload_n 0, 1) := by decide +kernel
theorem dX4_init_32 : decode cX4_init 32 = .ok (.iconst 2, 1) := by decide +kernel
theorem dX4_init_33 : decode cX4_init 33 = .ok (.newarray .int, 2) := by decide +kernel
theorem dX4_init_35 : decode cX4_init 35 = .ok (.putfield 19, 3) := by decide +kernel
theorem dX4_init_38 : decode cX4_init 38 = .ok (.aload_n 0, 1) := by decide +kernel
theorem dX4_init_39 : decode cX4_init 39 = .ok (.bipush 64, 2) := by decide +kernel
theorem dX4_init_41 : decode cX4_init 41 = .ok (.newarray .int, 2) := by decide +kernel
theorem dX4_init_43 : decode cX4_init 43 = .ok (.putfield 22, 3) := by decide +kernel
theorem dX4_init_46 : decode cX4_init 46 = .ok (.aload_n 0, 1) := by decide +kernel
theorem dX4_init_47 : decode cX4_init 47 = .ok (.bipush 21, 2) := by decide +kernel
theorem dX4_init_49 : decode cX4_init 49 = .ok (.newarray .int, 2) := by decide +kernel
theorem dX4_init_51 : decode cX4_init 51 = .ok (.putfield 25, 3) := by decide +kernel
theorem dX4_init_54 : decode cX4_init 54 = .ok (.aload_n 0, 1) := by decide +kernel
theorem dX4_init_55 : decode cX4_init 55 = .ok (.bipush 21, 2) := by decide +kernel
theorem dX4_init_57 : decode cX4_init 57 = .ok (.newarray .int, 2) := by decide +kernel
theorem dX4_init_59 : decode cX4_init 59 = .ok (.putfield 28, 3) := by decide +kernel
theorem dX4_init_62 : decode cX4_init 62 = .ok (.aload_n 0, 1) := by decide +kernel
theorem dX4_init_63 : decode cX4_init 63 = .ok (.bipush 8, 2) := by decide +kernel
theorem dX4_init_65 : decode cX4_init 65 = .ok (.newarray .int, 2) := by decide +kernel
theorem dX4_init_67 : decode cX4_init 67 = .ok (.putfield 31, 3) := by decide +kernel
theorem dX4_init_70 : decode cX4_init 70 = .ok (.aload_n 0, 1) := by decide +kernel
theorem dX4_init_71 : decode cX4_init 71 = .ok (.bipush 8, 2) := by decide +kernel
theorem dX4_init_73 : decode cX4_init 73 = .ok (.newarray .int, 2) := by decide +kernel
theorem dX4_init_75 : decode cX4_init 75 = .ok (.putfield 34, 3) := by decide +kernel
theorem dX4_init_78 : decode cX4_init 78 = .ok (.aload_n 0, 1) := by decide +kernel
theorem dX4_init_79 : decode cX4_init 79 = .ok (.sipush 128, 3) := by decide +kernel
theorem dX4_init_82 : decode cX4_init 82 = .ok (.newarray .int, 2) := by decide +kernel
theorem dX4_init_84 : decode cX4_init 84 = .ok (.putfield 37, 3) := by decide +kernel
theorem dX4_init_87 : decode cX4_init 87 = .ok (.aload_n 0, 1) := by decide +kernel
theorem dX4_init_88 : decode cX4_init 88 = .ok (.getfield 7, 3) := by decide +kernel
theorem dX4_init_91 : decode cX4_init 91 = .ok (.iconst 0, 1) := by decide +kernel
theorem dX4_init_92 : decode cX4_init 92 = .ok (.iconst 1, 1) := by decide +kernel
theorem dX4_init_93 : decode cX4_init 93 = .ok (.iastore, 1) := by decide +kernel
theorem dX4_init_94 : decode cX4_init 94 = .ok (.aload_n 0, 1) := by decide +kernel
theorem dX4_init_95 : decode cX4_init 95 = .ok (.getfield 7, 3) := by decide +kernel
theorem dX4_init_98 : decode cX4_init 98 = .ok (.bipush 123, 2) := by decide +kernel
theorem dX4_init_100 : decode cX4_init 100 = .ok (.ldc 40, 2) := by decide +kernel
theorem dX4_init_102 : decode cX4_init 102 = .ok (.iastore, 1) := by decide +kernel
theorem dX4_init_103 : decode cX4_init 103 = .ok (.return_, 1) := by decide +kernel
theorem dX4_moves_0 : decode cX4_moves 0 = .ok (.iconst 0, 1) := by decide +kernel
theorem dX4_moves_1 : decode cX4_moves 1 = .ok (.istore 5, 2) := by decide +kernel
theorem dX4_moves_3 : decode cX4_moves 3 = .ok (.iload 5, 2) := by decide +kernel
theorem dX4_moves_5 : decode cX4_moves 5 = .ok (.iload 4, 2) := by decide +kernel
theorem dX4_moves_7 : decode cX4_moves 7 = .ok (.if_icmp .ge 21, 3) := by decide +kernel
theorem dX4_moves_10 : decode cX4_moves 10 = .ok (.aload_n 2, 1) := by decide +kernel
theorem dX4_moves_11 : decode cX4_moves 11 = .ok (.iload_n 3, 1) := by decide +kernel
theorem dX4_moves_12 : decode cX4_moves 12 = .ok (.iload 5, 2) := by decide +kernel
theorem dX4_moves_14 : decode cX4_moves 14 = .ok (.iadd, 1) := by decide +kernel
theorem dX4_moves_15 : decode cX4_moves 15 = .ok (.aload_n 0, 1) := by decide +kernel
theorem dX4_moves_16 : decode cX4_moves 16 = .ok (.iload_n 1, 1) := by decide +kernel
theorem dX4_moves_17 : decode cX4_moves 17 = .ok (.iload 5, 2) := by decide +kernel
theorem dX4_moves_19 : decode cX4_moves 19 = .ok (.iadd, 1) := by decide +kernel
theorem dX4_moves_20 : decode cX4_moves 20 = .ok (.iaload, 1) := by decide +kernel
theorem dX4_moves_21 : decode cX4_moves 21 = .ok (.iastore, 1) := by decide +kernel
theorem dX4_moves_22 : decode cX4_moves 22 = .ok (.iinc 5 1, 3) := by decide +kernel
theorem dX4_moves_25 : decode cX4_moves 25 = .ok (.goto (-22), 3) := by decide +kernel
theorem dX4_moves_28 : decode cX4_moves 28 = .ok (.return_, 1) := by decide +kernel
theorem dX4_within_0 : decode cX4_within 0 = .ok (.iload_n 0, 1) := by decide +kernel
theorem dX4_within_1 : decode cX4_within 1 = .ok (.iload_n 1, 1) := by decide +kernel
theorem dX4_within_2 : decode cX4_within 2 = .ok (.if_icmp .lt 12, 3) := by decide +kernel
theorem dX4_within_5 : decode cX4_within 5 = .ok (.iload_n 0, 1) := by decide +kernel
theorem dX4_within_6 : decode cX4_within 6 = .ok (.iload_n 2, 1) := by decide +kernel
theorem dX4_within_7 : decode cX4_within 7 = .ok (.if_icmp .gt 7, 3) := by decide +kernel
theorem dX4_within_10 : decode cX4_within 10 = .ok (.iconst 1, 1) := by decide +kernel
theorem dX4_within_11 : decode cX4_within 11 = .ok (.goto 4, 3) := by decide +kernel
theorem dX4_within_14 : decode cX4_within 14 = .ok (.iconst 0, 1) := by decide +kernel
theorem dX4_within_15 : decode cX4_within 15 = .ok (.ireturn, 1) := by decide +kernel
set_option maxRecDepth 20000 in
theorem ggX4_record_X4_moves : GoodIn wsX4_record wsX4_moves := goodIn_r _ [7] (by decide +kernel) (by decide +kernel)
set_option maxRecDepth 20000 in
theorem gX4_record_X4_moves : GoodIn wsX4_record (va_wsS RX4 45 yX4_moves wsX4_moves) := goodIn_app (goodIn_of _ (by decide +kernel)) ggX4_record_X4_moves
theorem dX4_record_0 : decode cX4_record 0 = .ok (.aload_n 0, 1) := by decide +kernel
theorem dX4_record_1 : decode cX4_record 1 = .ok (.getfield 41, 3) := by decide +kernel
theorem dX4_record_4 : decode cX4_record 4 = .ok (.bipush 6, 2) := by decide +kernel
theorem dX4_record_6 : decode cX4_record 6 = .ok (.if_icmp .ne 44, 3) := by decide +kernel
theorem dX4_record_9 : decode cX4_record 9 = .ok (.iconst 0, 1) := by decide +kernel
theorem dX4_record_10 : decode cX4_record 10 = .ok (.istore_n 1, 1) := by decide +kernel
theorem dX4_record_11 : decode cX4_record 11 = .ok (.iload_n 1, 1) := by decide +kernel
theorem dX4_record_12 : decode cX4_record 12 = .ok (.sipush 2295, 3) := by decide +kernel
theorem dX4_record_15 : decode cX4_record 15 = .ok (.if_icmp .ge 25, 3) := by decide +kernel
theorem dX4_record_18 : decode cX4_record 18 = .ok (.aload_n 0, 1) := by decide +kernel
theorem dX4_record_19 : decode cX4_record 19 = .ok (.getfield 13, 3) := by decide +kernel
theorem dX4_record_22 : decode cX4_record 22 = .ok (.iload_n 1, 1) := by decide +kernel
theorem dX4_record_23 : decode cX4_record 23 = .ok (.aload_n 0, 1) := by decide +kernel
theorem dX4_record_24 : decode cX4_record 24 = .ok (.getfield 13, 3) := by decide +kernel
theorem dX4_record_27 : decode cX4_record 27 = .ok (.iload_n 1, 1) := by decide +kernel
theorem dX4_record_28 : decode cX4_record 28 = .ok (.sipush 459, 3) := by decide +kernel
theorem dX4_record_31 : decode cX4_record 31 = .ok (.iadd, 1) := by decide +kernel
theorem dX4_record_32 : decode cX4_record 32 = .ok (.iaload, 1) := by decide +kernel
theorem dX4_record_33 : decode cX4_record 33 = .ok (.iastore, 1) := by decide +kernel
theorem dX4_record_34 : decode cX4_record 34 = .ok (.iinc 1 1, 3) := by decide +kernel
theorem dX4_record_37 : decode cX4_record 37 = .ok (.goto (-26), 3) := by decide +kernel
theorem dX4_record_40 : decode cX4_record 40 = .ok (.aload_n 0, 1) := by decide +kernel
theorem dX4_record_41 : decode cX4_record 41 = .ok (.dup, 1) := by decide +kernel
theorem dX4_record_42 : decode cX4_record 42 = .ok (.getfield 41, 3) := by decide +kernel
theorem dX4_record_45 : decode cX4_record 45 = .ok (.iconst 1, 1) := by decide +kernel
theorem dX4_record_46 : decode cX4_record 46 = .ok (.isub, 1) := by decide +kernel
theorem dX4_record_47 : decode cX4_record 47 = .ok (.putfield 41, 3) := by decide +kernel
theorem dX4_record_50 : decode cX4_record 50 = .ok (.aload_n 0, 1) := by decide +kernel
theorem dX4_record_51 : decode cX4_record 51 = .ok (.getfield 7, 3) := by decide +kernel
theorem dX4_record_54 : decode cX4_record 54 = .ok (.iconst 0, 1) := by decide +kernel
theorem dX4_record_55 : decode cX4_record 55 = .ok (.aload_n 0, 1) := by decide +kernel
theorem dX4_record_56 : decode cX4_record 56 = .ok (.getfield 13, 3) := by decide +kernel
theorem dX4_record_59 : decode cX4_record 59 = .ok (.aload_n 0, 1) := by decide +kernel
theorem dX4_record_60 : decode cX4_record 60 = .ok (.getfield 41, 3) := by decide +kernel
theorem dX4_record_63 : decode cX4_record 63 = .ok (.sipush 459, 3) := by decide +kernel
theorem dX4_record_66 : decode cX4_record 66 = .ok (.imul, 1) := by decide +kernel
theorem dX4_record_67 : decode cX4_record 67 = .ok (.sipush 459, 3) := by decide +kernel
theorem dX4_record_70 : decode cX4_record 70 = .ok (.invokestatic 45, 3) := by decide +kernel
theorem dX4_record_73 : decode cX4_record 73 = .ok (.aload_n 0, 1) := by decide +kernel
theorem dX4_record_74 : decode cX4_record 74 = .ok (.dup, 1) := by decide +kernel
theorem dX4_record_75 : decode cX4_record 75 = .ok (.getfield 41, 3) := by decide +kernel
theorem dX4_record_78 : decode cX4_record 78 = .ok (.iconst 1, 1) := by decide +kernel
theorem dX4_record_79 : decode cX4_record 79 = .ok (.iadd, 1) := by decide +kernel
theorem dX4_record_80 : decode cX4_record 80 = .ok (.putfield 41, 3) := by decide +kernel
theorem dX4_record_83 : decode cX4_record 83 = .ok (.return_, 1) := by decide +kernel
set_option maxRecDepth 20000 in
theorem ggX4_isHelper_X4_within : GoodIn wsX4_isHelper wsX4_within := goodIn_r _ [5] (by decide +kernel) (by decide +kernel)
set_option maxRecDepth 20000 in
theorem gX4_isHelper_X4_within : GoodIn wsX4_isHelper (va_wsS RX4 49 yX4_within wsX4_within) := goodIn_app (goodIn_of _ (by decide +kernel)) ggX4_isHelper_X4_within
theorem dX4_isHelper_0 : decode cX4_isHelper 0 = .ok (.iload_n 1, 1) := by decide +kernel
theorem dX4_isHelper_1 : decode cX4_isHelper 1 = .ok (.iconst 0, 1) := by decide +kernel
theorem dX4_isHelper_2 : decode cX4_isHelper 2 = .ok (.bipush 7, 2) := by decide +kernel
theorem dX4_isHelper_4 : decode cX4_isHelper 4 = .ok (.invokestatic 49, 3) := by decide +kernel
theorem dX4_isHelper_7 : decode cX4_isHelper 7 = .ok (.ifCond .eq 21, 3) := by decide +kernel
theorem dX4_isHelper_10 : decode cX4_isHelper 10 = .ok (.aload_n 0, 1) := by decide +kernel
theorem dX4_isHelper_11 : decode cX4_isHelper 11 = .ok (.getfield 7, 3) := by decide +kernel
theorem dX4_isHelper_14 : decode cX4_isHelper 14 = .ok (.iconst 0, 1) := by decide +kernel
theorem dX4_isHelper_15 : decode cX4_isHelper 15 = .ok (.iaload, 1) := by decide +kernel
theorem dX4_isHelper_16 : decode cX4_isHelper 16 = .ok (.iload_n 1, 1) := by decide +kernel
theorem dX4_isHelper_17 : decode cX4_isHelper 17 = .ok (.ishr, 1) := by decide +kernel
theorem dX4_isHelper_18 : decode cX4_isHelper 18 = .ok (.iconst 1, 1) := by decide +kernel
theorem dX4_isHelper_19 : decode cX4_isHelper 19 = .ok (.iand, 1) := by decide +kernel
theorem dX4_isHelper_20 : decode cX4_isHelper 20 = .ok (.iconst 1, 1) := by decide +kernel
theorem dX4_isHelper_21 : decode cX4_isHelper 21 = .ok (.if_icmp .ne 7, 3) := by decide +kernel
theorem dX4_isHelper_24 : decode cX4_isHelper 24 = .ok (.iconst 1, 1) := by decide +kernel
theorem dX4_isHelper_25 : decode cX4_isHelper 25 = .ok (.goto 4, 3) := by decide +kernel
theorem dX4_isHelper_28 : decode cX4_isHelper 28 = .ok (.iconst 0, 1) := by decide +kernel
theorem dX4_isHelper_29 : decode cX4_isHelper 29 = .ok (.ireturn, 1) := by decide +kernel
set_option maxRecDepth 20000 in
theorem ggX4_isMessage_X4_within : GoodIn wsX4_isMessage wsX4_within := goodIn_r _ [5] (by decide +kernel) (by decide +kernel)
set_option maxRecDepth 20000 in
theorem gX4_isMessage_X4_within : GoodIn wsX4_isMessage (va_wsS RX4 49 yX4_within wsX4_within) := goodIn_app (goodIn_of _ (by decide +kernel)) ggX4_isMessage_X4_within
theorem dX4_isMessage_0 : decode cX4_isMessage 0 = .ok (.iload_n 1, 1) := by decide +kernel
theorem dX4_isMessage_1 : decode cX4_isMessage 1 = .ok (.iconst 0, 1) := by decide +kernel
theorem dX4_isMessage_2 : decode cX4_isMessage 2 = .ok (.aload_n 0, 1) := by decide +kernel
theorem dX4_isMessage_3 : decode cX4_isMessage 3 = .ok (.getfield 7, 3) := by decide +kernel
theorem dX4_isMessage_6 : decode cX4_isMessage 6 = .ok (.iconst 1, 1) := by decide +kernel
theorem dX4_isMessage_7 : decode cX4_isMessage 7 = .ok (.iaload, 1) := by decide +kernel
theorem dX4_isMessage_8 : decode cX4_isMessage 8 = .ok (.iconst 1, 1) := by decide +kernel
theorem dX4_isMessage_9 : decode cX4_isMessage 9 = .ok (.isub, 1) := by decide +kernel
theorem dX4_isMessage_10 : decode cX4_isMessage 10 = .ok (.invokestatic 49, 3) := by decide +kernel
theorem dX4_isMessage_13 : decode cX4_isMessage 13 = .ok (.ireturn, 1) := by decide +kernel
theorem dX4_helperAt_0 : decode cX4_helperAt 0 = .ok (.bipush 123, 2) := by decide +kernel
theorem dX4_helperAt_2 : decode cX4_helperAt 2 = .ok (.bipush 21, 2) := by decide +kernel
theorem dX4_helperAt_4 : decode cX4_helperAt 4 = .ok (.iload_n 0, 1) := by decide +kernel
theorem dX4_helperAt_5 : decode cX4_helperAt 5 = .ok (.imul, 1) := by decide +kernel
theorem dX4_helperAt_6 : decode cX4_helperAt 6 = .ok (.iadd, 1) := by decide +kernel
theorem dX4_helperAt_7 : decode cX4_helperAt 7 = .ok (.ireturn, 1) := by decide +kernel
theorem dX4_messageAt_0 : decode cX4_messageAt 0 = .ok (.sipush 291, 3) := by decide +kernel
theorem dX4_messageAt_3 : decode cX4_messageAt 3 = .ok (.bipush 21, 2) := by decide +kernel
theorem dX4_messageAt_5 : decode cX4_messageAt 5 = .ok (.iload_n 0, 1) := by decide +kernel
theorem dX4_messageAt_6 : decode cX4_messageAt 6 = .ok (.imul, 1) := by decide +kernel
theorem dX4_messageAt_7 : decode cX4_messageAt 7 = .ok (.iadd, 1) := by decide +kernel
theorem dX4_messageAt_8 : decode cX4_messageAt 8 = .ok (.ireturn, 1) := by decide +kernel
set_option maxRecDepth 20000 in
theorem ggX4_isThere_X4_isHelper : GoodIn wsX4_isThere wsX4_isHelper := goodIn_r _ [5, 6, 7, 8, 4, 9, 14, 15, 16, 17, 18, 19, 20, 21, 22, 23, 24, 25, 26] (by decide +kernel) (by decide +kernel)
set_option maxRecDepth 20000 in
theorem gX4_isThere_X4_isHelper : GoodIn wsX4_isThere (wsV RX4 53 RX4 yX4_isHelper wsX4_isHelper) := goodIn_app (goodIn_of _ (by decide +kernel)) ggX4_isThere_X4_isHelper
set_option maxRecDepth 20000 in
theorem ggX4_isThere_X4_isMessage : GoodIn wsX4_isThere wsX4_isMessage := goodIn_r _ [13, 6, 7, 8, 4, 9, 14, 15, 16, 17, 18, 19, 20, 21, 22, 23, 24, 25, 26] (by decide +kernel) (by decide +kernel)
set_option maxRecDepth 20000 in
theorem gX4_isThere_X4_isMessage : GoodIn wsX4_isThere (wsV RX4 57 RX4 yX4_isMessage wsX4_isMessage) := goodIn_app (goodIn_of _ (by decide +kernel)) ggX4_isThere_X4_isMessage
theorem dX4_isThere_0 : decode cX4_isThere 0 = .ok (.iload_n 1, 1) := by decide +kernel
theorem dX4_isThere_1 : decode cX4_isThere 1 = .ok (.ifCond .ne 11, 3) := by decide +kernel
theorem dX4_isThere_4 : decode cX4_isThere 4 = .ok (.aload_n 0, 1) := by decide +kernel
theorem dX4_isThere_5 : decode cX4_isThere 5 = .ok (.iload_n 2, 1) := by decide +kernel
theorem dX4_isThere_6 : decode cX4_isThere 6 = .ok (.invokevirtual 53, 3) := by decide +kernel
theorem dX4_isThere_9 : decode cX4_isThere 9 = .ok (.goto 8, 3) := by decide +kernel
theorem dX4_isThere_12 : decode cX4_isThere 12 = .ok (.aload_n 0, 1) := by decide +kernel
theorem dX4_isThere_13 : decode cX4_isThere 13 = .ok (.iload_n 2, 1) := by decide +kernel
theorem dX4_isThere_14 : decode cX4_isThere 14 = .ok (.invokevirtual 57, 3) := by decide +kernel
theorem dX4_isThere_17 : decode cX4_isThere 17 = .ok (.ireturn, 1) := by decide +kernel
set_option maxRecDepth 20000 in
theorem ggX4_placeOf_X4_helperAt : GoodIn wsX4_placeOf wsX4_helperAt := goodIn_r _ [4] (by decide +kernel) (by decide +kernel)
set_option maxRecDepth 20000 in
theorem gX4_placeOf_X4_helperAt : GoodIn wsX4_placeOf (va_wsS RX4 60 yX4_helperAt wsX4_helperAt) := goodIn_app (goodIn_of _ (by decide +kernel)) ggX4_placeOf_X4_helperAt
set_option maxRecDepth 20000 in
theorem ggX4_placeOf_X4_messageAt : GoodIn wsX4_placeOf wsX4_messageAt := goodIn_r _ [7] (by decide +kernel) (by decide +kernel)
set_option maxRecDepth 20000 in
theorem gX4_placeOf_X4_messageAt : GoodIn wsX4_placeOf (va_wsS RX4 64 yX4_messageAt wsX4_messageAt) := goodIn_app (goodIn_of _ (by decide +kernel)) ggX4_placeOf_X4_messageAt
theorem dX4_placeOf_0 : decode cX4_placeOf 0 = .ok (.iload_n 0, 1) := by decide +kernel
theorem dX4_placeOf_1 : decode cX4_placeOf 1 = .ok (.ifCond .ne 10, 3) := by decide +kernel
theorem dX4_placeOf_4 : decode cX4_placeOf 4 = .ok (.iload_n 1, 1) := by decide +kernel
theorem dX4_placeOf_5 : decode cX4_placeOf 5 = .ok (.invokestatic 60, 3) := by decide +kernel
theorem dX4_placeOf_8 : decode cX4_placeOf 8 = .ok (.goto 7, 3) := by decide +kernel
theorem dX4_placeOf_11 : decode cX4_placeOf 11 = .ok (.iload_n 1, 1) := by decide +kernel
theorem dX4_placeOf_12 : decode cX4_placeOf 12 = .ok (.invokestatic 64, 3) := by decide +kernel
theorem dX4_placeOf_15 : decode cX4_placeOf 15 = .ok (.ireturn, 1) := by decide +kernel
theorem dX4_bits_0 : decode cX4_bits 0 = .ok (.iconst 0, 1) := by decide +kernel
theorem dX4_bits_1 : decode cX4_bits 1 = .ok (.istore_n 1, 1) := by decide +kernel
theorem dX4_bits_2 : decode cX4_bits 2 = .ok (.iconst 0, 1) := by decide +kernel
theorem dX4_bits_3 : decode cX4_bits 3 = .ok (.istore_n 2, 1) := by decide +kernel
theorem dX4_bits_4 : decode cX4_bits 4 = .ok (.iload_n 2, 1) := by decide +kernel
theorem dX4_bits_5 : decode cX4_bits 5 = .ok (.bipush 30, 2) := by decide +kernel
theorem dX4_bits_7 : decode cX4_bits 7 = .ok (.if_icmp .ge 17, 3) := by decide +kernel
theorem dX4_bits_10 : decode cX4_bits 10 = .ok (.iload_n 1, 1) := by decide +kernel
theorem dX4_bits_11 : decode cX4_bits 11 = .ok (.iload_n 0, 1) := by decide +kernel
theorem dX4_bits_12 : decode cX4_bits 12 = .ok (.iload_n 2, 1) := by decide +kernel
theorem dX4_bits_13 : decode cX4_bits 13 = .ok (.ishr, 1) := by decide +kernel
theorem dX4_bits_14 : decode cX4_bits 14 = .ok (.iconst 1, 1) := by decide +kernel
theorem dX4_bits_15 : decode cX4_bits 15 = .ok (.iand, 1) := by decide +kernel
theorem dX4_bits_16 : decode cX4_bits 16 = .ok (.iadd, 1) := by decide +kernel
theorem dX4_bits_17 : decode cX4_bits 17 = .ok (.istore_n 1, 1) := by decide +kernel
theorem dX4_bits_18 : decode cX4_bits 18 = .ok (.iinc 2 1, 3) := by decide +kernel
theorem dX4_bits_21 : decode cX4_bits 21 = .ok (.goto (-17), 3) := by decide +kernel
theorem dX4_bits_24 : decode cX4_bits 24 = .ok (.iload_n 1, 1) := by decide +kernel
theorem dX4_bits_25 : decode cX4_bits 25 = .ok (.ireturn, 1) := by decide +kernel
theorem dX4_orderOf_0 : decode cX4_orderOf 0 = .ok (.iconst 0, 1) := by decide +kernel
theorem dX4_orderOf_1 : decode cX4_orderOf 1 = .ok (.istore 4, 2) := by decide +kernel
theorem dX4_orderOf_3 : decode cX4_orderOf 3 = .ok (.iconst 0, 1) := by decide +kernel
theorem dX4_orderOf_4 : decode cX4_orderOf 4 = .ok (.istore 5, 2) := by decide +kernel
theorem dX4_orderOf_6 : decode cX4_orderOf 6 = .ok (.iconst 1, 1) := by decide +kernel
theorem dX4_orderOf_7 : decode cX4_orderOf 7 = .ok (.istore 6, 2) := by decide +kernel
theorem dX4_orderOf_9 : decode cX4_orderOf 9 = .ok (.iload 6, 2) := by decide +kernel
theorem dX4_orderOf_11 : decode cX4_orderOf 11 = .ok (.bipush 17, 2) := by decide +kernel
theorem dX4_orderOf_13 : decode cX4_orderOf 13 = .ok (.if_icmp .ge 63, 3) := by decide +kernel
theorem dX4_orderOf_16 : decode cX4_orderOf 16 = .ok (.iload 4, 2) := by decide +kernel
theorem dX4_orderOf_18 : decode cX4_orderOf 18 = .ok (.ifCond .ne 18, 3) := by decide +kernel
theorem dX4_orderOf_21 : decode cX4_orderOf 21 = .ok (.aload_n 0, 1) := by decide +kernel
theorem dX4_orderOf_22 : decode cX4_orderOf 22 = .ok (.iload_n 1, 1) := by decide +kernel
theorem dX4_orderOf_23 : decode cX4_orderOf 23 = .ok (.iload 6, 2) := by decide +kernel
theorem dX4_orderOf_25 : decode cX4_orderOf 25 = .ok (.iadd, 1) := by decide +kernel
theorem dX4_orderOf_26 : decode cX4_orderOf 26 = .ok (.iaload, 1) := by decide +kernel
theorem dX4_orderOf_27 : decode cX4_orderOf 27 = .ok (.aload_n 2, 1) := by decide +kernel
theorem dX4_orderOf_28 : decode cX4_orderOf 28 = .ok (.iload_n 3, 1) := by decide +kernel
theorem dX4_orderOf_29 : decode cX4_orderOf 29 = .ok (.iload 6, 2) := by decide +kernel
theorem dX4_orderOf_31 : decode cX4_orderOf 31 = .ok (.iadd, 1) := by decide +kernel
theorem dX4_orderOf_32 : decode cX4_orderOf 32 = .ok (.iaload, 1) := by decide +kernel
theorem dX4_orderOf_33 : decode cX4_orderOf 33 = .ok (.if_icmp .ge 7, 3) := by decide +kernel
theorem dX4_orderOf_36 : decode cX4_orderOf 36 = .ok (.iconst 1, 1) := by decide +kernel
theorem dX4_orderOf_37 : decode cX4_orderOf 37 = .ok (.goto 4, 3) := by decide +kernel
theorem dX4_orderOf_40 : decode cX4_orderOf 40 = .ok (.iconst 0, 1) := by decide +kernel
theorem dX4_orderOf_41 : decode cX4_orderOf 41 = .ok (.istore 4, 2) := by decide +kernel
theorem dX4_orderOf_43 : decode cX4_orderOf 43 = .ok (.iload 5, 2) := by decide +kernel
theorem dX4_orderOf_45 : decode cX4_orderOf 45 = .ok (.ifCond .ne 18, 3) := by decide +kernel
theorem dX4_orderOf_48 : decode cX4_orderOf 48 = .ok (.aload_n 0, 1) := by decide +kernel
theorem dX4_orderOf_49 : decode cX4_orderOf 49 = .ok (.iload_n 1, 1) := by decide +kernel
theorem dX4_orderOf_50 : decode cX4_orderOf 50 = .ok (.iload 6, 2) := by decide +kernel
theorem dX4_orderOf_52 : decode cX4_orderOf 52 = .ok (.iadd, 1) := by decide +kernel
theorem dX4_orderOf_53 : decode cX4_orderOf 53 = .ok (.iaload, 1) := by decide +kernel
theorem dX4_orderOf_54 : decode cX4_orderOf 54 = .ok (.aload_n 2, 1) := by decide +kernel
theorem dX4_orderOf_55 : decode cX4_orderOf 55 = .ok (.iload_n 3, 1) := by decide +kernel
theorem dX4_orderOf_56 : decode cX4_orderOf 56 = .ok (.iload 6, 2) := by decide +kernel
theorem dX4_orderOf_58 : decode cX4_orderOf 58 = .ok (.iadd, 1) := by decide +kernel
theorem dX4_orderOf_59 : decode cX4_orderOf 59 = .ok (.iaload, 1) := by decide +kernel
theorem dX4_orderOf_60 : decode cX4_orderOf 60 = .ok (.if_icmp .le 7, 3) := by decide +kernel
theorem dX4_orderOf_63 : decode cX4_orderOf 63 = .ok (.iconst 1, 1) := by decide +kernel
theorem dX4_orderOf_64 : decode cX4_orderOf 64 = .ok (.goto 4, 3) := by decide +kernel
theorem dX4_orderOf_67 : decode cX4_orderOf 67 = .ok (.iconst 0, 1) := by decide +kernel
theorem dX4_orderOf_68 : decode cX4_orderOf 68 = .ok (.istore 5, 2) := by decide +kernel
theorem dX4_orderOf_70 : decode cX4_orderOf 70 = .ok (.iinc 6 1, 3) := by decide +kernel
theorem dX4_orderOf_73 : decode cX4_orderOf 73 = .ok (.goto (-64), 3) := by decide +kernel
theorem dX4_orderOf_76 : decode cX4_orderOf 76 = .ok (.iload 4, 2) := by decide +kernel
theorem dX4_orderOf_78 : decode cX4_orderOf 78 = .ok (.ifCond .eq 12, 3) := by decide +kernel
theorem dX4_orderOf_81 : decode cX4_orderOf 81 = .ok (.iload 5, 2) := by decide +kernel
theorem dX4_orderOf_83 : decode cX4_orderOf 83 = .ok (.ifCond .eq 7, 3) := by decide +kernel
theorem dX4_orderOf_86 : decode cX4_orderOf 86 = .ok (.iconst 3, 1) := by decide +kernel
theorem dX4_orderOf_87 : decode cX4_orderOf 87 = .ok (.goto 22, 3) := by decide +kernel
theorem dX4_orderOf_90 : decode cX4_orderOf 90 = .ok (.iload 4, 2) := by decide +kernel
theorem dX4_orderOf_92 : decode cX4_orderOf 92 = .ok (.ifCond .eq 7, 3) := by decide +kernel
theorem dX4_orderOf_95 : decode cX4_orderOf 95 = .ok (.iconst 1, 1) := by decide +kernel
theorem dX4_orderOf_96 : decode cX4_orderOf 96 = .ok (.goto 13, 3) := by decide +kernel
theorem dX4_orderOf_99 : decode cX4_orderOf 99 = .ok (.iload 5, 2) := by decide +kernel
theorem dX4_orderOf_101 : decode cX4_orderOf 101 = .ok (.ifCond .eq 7, 3) := by decide +kernel
theorem dX4_orderOf_104 : decode cX4_orderOf 104 = .ok (.iconst 2, 1) := by decide +kernel
theorem dX4_orderOf_105 : decode cX4_orderOf 105 = .ok (.goto 4, 3) := by decide +kernel
theorem dX4_orderOf_108 : decode cX4_orderOf 108 = .ok (.iconst 0, 1) := by decide +kernel
theorem dX4_orderOf_109 : decode cX4_orderOf 109 = .ok (.ireturn, 1) := by decide +kernel
theorem dX4_takeOver_0 : decode cX4_takeOver 0 = .ok (.iconst 1, 1) := by decide +kernel
theorem dX4_takeOver_1 : decode cX4_takeOver 1 = .ok (.istore 4, 2) := by decide +kernel
theorem dX4_takeOver_3 : decode cX4_takeOver 3 = .ok (.iload 4, 2) := by decide +kernel
theorem dX4_takeOver_5 : decode cX4_takeOver 5 = .ok (.bipush 17, 2) := by decide +kernel
theorem dX4_takeOver_7 : decode cX4_takeOver 7 = .ok (.if_icmp .ge 45, 3) := by decide +kernel
theorem dX4_takeOver_10 : decode cX4_takeOver 10 = .ok (.aload_n 0, 1) := by decide +kernel
theorem dX4_takeOver_11 : decode cX4_takeOver 11 = .ok (.iload_n 1, 1) := by decide +kernel
theorem dX4_takeOver_12 : decode cX4_takeOver 12 = .ok (.iload 4, 2) := by decide +kernel
theorem dX4_takeOver_14 : decode cX4_takeOver 14 = .ok (.iadd, 1) := by decide +kernel
theorem dX4_takeOver_15 : decode cX4_takeOver 15 = .ok (.aload_n 2, 1) := by decide +kernel
theorem dX4_takeOver_16 : decode cX4_takeOver 16 = .ok (.iload_n 3, 1) := by decide +kernel
theorem dX4_takeOver_17 : decode cX4_takeOver 17 = .ok (.iload 4, 2) := by decide +kernel
theorem dX4_takeOver_19 : decode cX4_takeOver 19 = .ok (.iadd, 1) := by decide +kernel
theorem dX4_takeOver_20 : decode cX4_takeOver 20 = .ok (.iaload, 1) := by decide +kernel
theorem dX4_takeOver_21 : decode cX4_takeOver 21 = .ok (.aload_n 0, 1) := by decide +kernel
theorem dX4_takeOver_22 : decode cX4_takeOver 22 = .ok (.iload_n 1, 1) := by decide +kernel
theorem dX4_takeOver_23 : decode cX4_takeOver 23 = .ok (.iload 4, 2) := by decide +kernel
theorem dX4_takeOver_25 : decode cX4_takeOver 25 = .ok (.iadd, 1) := by decide +kernel
theorem dX4_takeOver_26 : decode cX4_takeOver 26 = .ok (.iaload, 1) := by decide +kernel
theorem dX4_takeOver_27 : decode cX4_takeOver 27 = .ok (.if_icmp .le 12, 3) := by decide +kernel
theorem dX4_takeOver_30 : decode cX4_takeOver 30 = .ok (.aload_n 2, 1) := by decide +kernel
theorem dX4_takeOver_31 : decode cX4_takeOver 31 = .ok (.iload_n 3, 1) := by decide +kernel
theorem dX4_takeOver_32 : decode cX4_takeOver 32 = .ok (.iload 4, 2) := by decide +kernel
theorem dX4_takeOver_34 : decode cX4_takeOver 34 = .ok (.iadd, 1) := by decide +kernel
theorem dX4_takeOver_35 : decode cX4_takeOver 35 = .ok (.iaload, 1) := by decide +kernel
theorem dX4_takeOver_36 : decode cX4_takeOver 36 = .ok (.goto 9, 3) := by decide +kernel
theorem dX4_takeOver_39 : decode cX4_takeOver 39 = .ok (.aload_n 0, 1) := by decide +kernel
theorem dX4_takeOver_40 : decode cX4_takeOver 40 = .ok (.iload_n 1, 1) := by decide +kernel
theorem dX4_takeOver_41 : decode cX4_takeOver 41 = .ok (.iload 4, 2) := by decide +kernel
theorem dX4_takeOver_43 : decode cX4_takeOver 43 = .ok (.iadd, 1) := by decide +kernel
theorem dX4_takeOver_44 : decode cX4_takeOver 44 = .ok (.iaload, 1) := by decide +kernel
theorem dX4_takeOver_45 : decode cX4_takeOver 45 = .ok (.iastore, 1) := by decide +kernel
theorem dX4_takeOver_46 : decode cX4_takeOver 46 = .ok (.iinc 4 1, 3) := by decide +kernel
theorem dX4_takeOver_49 : decode cX4_takeOver 49 = .ok (.goto (-46), 3) := by decide +kernel
theorem dX4_takeOver_52 : decode cX4_takeOver 52 = .ok (.bipush 17, 2) := by decide +kernel
theorem dX4_takeOver_54 : decode cX4_takeOver 54 = .ok (.istore 4, 2) := by decide +kernel
theorem dX4_takeOver_56 : decode cX4_takeOver 56 = .ok (.iload 4, 2) := by decide +kernel
theorem dX4_takeOver_58 : decode cX4_takeOver 58 = .ok (.bipush 21, 2) := by decide +kernel
theorem dX4_takeOver_60 : decode cX4_takeOver 60 = .ok (.if_icmp .ge 24, 3) := by decide +kernel
theorem dX4_takeOver_63 : decode cX4_takeOver 63 = .ok (.aload_n 0, 1) := by decide +kernel
theorem dX4_takeOver_64 : decode cX4_takeOver 64 = .ok (.iload_n 1, 1) := by decide +kernel
theorem dX4_takeOver_65 : decode cX4_takeOver 65 = .ok (.iload 4, 2) := by decide +kernel
theorem dX4_takeOver_67 : decode cX4_takeOver 67 = .ok (.iadd, 1) := by decide +kernel
theorem dX4_takeOver_68 : decode cX4_takeOver 68 = .ok (.dup2, 1) := by decide +kernel
theorem dX4_takeOver_69 : decode cX4_takeOver 69 = .ok (.iaload, 1) := by decide +kernel
theorem dX4_takeOver_70 : decode cX4_takeOver 70 = .ok (.aload_n 2, 1) := by decide +kernel
theorem dX4_takeOver_71 : decode cX4_takeOver 71 = .ok (.iload_n 3, 1) := by decide +kernel
theorem dX4_takeOver_72 : decode cX4_takeOver 72 = .ok (.iload 4, 2) := by decide +kernel
theorem dX4_takeOver_74 : decode cX4_takeOver 74 = .ok (.iadd, 1) := by decide +kernel
theorem dX4_takeOver_75 : decode cX4_takeOver 75 = .ok (.iaload, 1) := by decide +kernel
theorem dX4_takeOver_76 : decode cX4_takeOver 76 = .ok (.ior, 1) := by decide +kernel
theorem dX4_takeOver_77 : decode cX4_takeOver 77 = .ok (.iastore, 1) := by decide +kernel
theorem dX4_takeOver_78 : decode cX4_takeOver 78 = .ok (.iinc 4 1, 3) := by decide +kernel
theorem dX4_takeOver_81 : decode cX4_takeOver 81 = .ok (.goto (-25), 3) := by decide +kernel
theorem dX4_takeOver_84 : decode cX4_takeOver 84 = .ok (.return_, 1) := by decide +kernel
set_option maxRecDepth 20000 in
theorem ggX4_knownMany_X4_bits : GoodIn wsX4_knownMany wsX4_bits := goodIn_r _ [4] (by decide +kernel) (by decide +kernel)
set_option maxRecDepth 20000 in
theorem gX4_knownMany_X4_bits : GoodIn wsX4_knownMany (va_wsS RX4 67 yX4_bits wsX4_bits) := goodIn_app (goodIn_of _ (by decide +kernel)) ggX4_knownMany_X4_bits
theorem dX4_knownMany_0 : decode cX4_knownMany 0 = .ok (.iconst 0, 1) := by decide +kernel
theorem dX4_knownMany_1 : decode cX4_knownMany 1 = .ok (.istore_n 2, 1) := by decide +kernel
theorem dX4_knownMany_2 : decode cX4_knownMany 2 = .ok (.bipush 17, 2) := by decide +kernel
theorem dX4_knownMany_4 : decode cX4_knownMany 4 = .ok (.istore_n 3, 1) := by decide +kernel
theorem dX4_knownMany_5 : decode cX4_knownMany 5 = .ok (.iload_n 3, 1) := by decide +kernel
theorem dX4_knownMany_6 : decode cX4_knownMany 6 = .ok (.bipush 21, 2) := by decide +kernel
theorem dX4_knownMany_8 : decode cX4_knownMany 8 = .ok (.if_icmp .ge 20, 3) := by decide +kernel
theorem dX4_knownMany_11 : decode cX4_knownMany 11 = .ok (.iload_n 2, 1) := by decide +kernel
theorem dX4_knownMany_12 : decode cX4_knownMany 12 = .ok (.aload_n 0, 1) := by decide +kernel
theorem dX4_knownMany_13 : decode cX4_knownMany 13 = .ok (.iload_n 1, 1) := by decide +kernel
theorem dX4_knownMany_14 : decode cX4_knownMany 14 = .ok (.iload_n 3, 1) := by decide +kernel
theorem dX4_knownMany_15 : decode cX4_knownMany 15 = .ok (.iadd, 1) := by decide +kernel
theorem dX4_knownMany_16 : decode cX4_knownMany 16 = .ok (.iaload, 1) := by decide +kernel
theorem dX4_knownMany_17 : decode cX4_knownMany 17 = .ok (.invokestatic 67, 3) := by decide +kernel
theorem dX4_knownMany_20 : decode cX4_knownMany 20 = .ok (.iadd, 1) := by decide +kernel
theorem dX4_knownMany_21 : decode cX4_knownMany 21 = .ok (.istore_n 2, 1) := by decide +kernel
theorem dX4_knownMany_22 : decode cX4_knownMany 22 = .ok (.iinc 3 1, 3) := by decide +kernel
theorem dX4_knownMany_25 : decode cX4_knownMany 25 = .ok (.goto (-20), 3) := by decide +kernel
theorem dX4_knownMany_28 : decode cX4_knownMany 28 = .ok (.iload_n 2, 1) := by decide +kernel
theorem dX4_knownMany_29 : decode cX4_knownMany 29 = .ok (.ireturn, 1) := by decide +kernel
theorem dX4_isOwn_0 : decode cX4_isOwn 0 = .ok (.aload_n 0, 1) := by decide +kernel
theorem dX4_isOwn_1 : decode cX4_isOwn 1 = .ok (.iload_n 1, 1) := by decide +kernel
theorem dX4_isOwn_2 : decode cX4_isOwn 2 = .ok (.iconst 0, 1) := by decide +kernel
theorem dX4_isOwn_3 : decode cX4_isOwn 3 = .ok (.iadd, 1) := by decide +kernel
theorem dX4_isOwn_4 : decode cX4_isOwn 4 = .ok (.iaload, 1) := by decide +kernel
theorem dX4_isOwn_5 : decode cX4_isOwn 5 = .ok (.iload_n 2, 1) := by decide +kernel
theorem dX4_isOwn_6 : decode cX4_isOwn 6 = .ok (.ishr, 1) := by decide +kernel
theorem dX4_isOwn_7 : decode cX4_isOwn 7 = .ok (.iconst 1, 1) := by decide +kernel
theorem dX4_isOwn_8 : decode cX4_isOwn 8 = .ok (.iand, 1) := by decide +kernel
theorem dX4_isOwn_9 : decode cX4_isOwn 9 = .ok (.iconst 1, 1) := by decide +kernel
theorem dX4_isOwn_10 : decode cX4_isOwn 10 = .ok (.if_icmp .ne 7, 3) := by decide +kernel
theorem dX4_isOwn_13 : decode cX4_isOwn 13 = .ok (.iconst 1, 1) := by decide +kernel
theorem dX4_isOwn_14 : decode cX4_isOwn 14 = .ok (.goto 4, 3) := by decide +kernel
theorem dX4_isOwn_17 : decode cX4_isOwn 17 = .ok (.iconst 0, 1) := by decide +kernel
theorem dX4_isOwn_18 : decode cX4_isOwn 18 = .ok (.ireturn, 1) := by decide +kernel
set_option maxRecDepth 20000 in
theorem ggX4_raise_X4_isOwn : GoodIn wsX4_raise wsX4_isOwn := goodIn_r _ [4] (by decide +kernel) (by decide +kernel)
set_option maxRecDepth 20000 in
theorem gX4_raise_X4_isOwn : GoodIn wsX4_raise (va_wsS RX4 70 yX4_isOwn wsX4_isOwn) := goodIn_app (goodIn_of _ (by decide +kernel)) ggX4_raise_X4_isOwn
theorem dX4_raise_0 : decode cX4_raise 0 = .ok (.iconst 0, 1) := by decide +kernel
theorem dX4_raise_1 : decode cX4_raise 1 = .ok (.istore_n 2, 1) := by decide +kernel
theorem dX4_raise_2 : decode cX4_raise 2 = .ok (.iconst 0, 1) := by decide +kernel
theorem dX4_raise_3 : decode cX4_raise 3 = .ok (.istore_n 3, 1) := by decide +kernel
theorem dX4_raise_4 : decode cX4_raise 4 = .ok (.iload_n 3, 1) := by decide +kernel
theorem dX4_raise_5 : decode cX4_raise 5 = .ok (.bipush 16, 2) := by decide +kernel
theorem dX4_raise_7 : decode cX4_raise 7 = .ok (.if_icmp .ge 41, 3) := by decide +kernel
theorem dX4_raise_10 : decode cX4_raise 10 = .ok (.aload_n 0, 1) := by decide +kernel
theorem dX4_raise_11 : decode cX4_raise 11 = .ok (.iload_n 1, 1) := by decide +kernel
theorem dX4_raise_12 : decode cX4_raise 12 = .ok (.iload_n 3, 1) := by decide +kernel
theorem dX4_raise_13 : decode cX4_raise 13 = .ok (.invokestatic 70, 3) := by decide +kernel
theorem dX4_raise_16 : decode cX4_raise 16 = .ok (.ifCond .eq 24, 3) := by decide +kernel
theorem dX4_raise_19 : decode cX4_raise 19 = .ok (.aload_n 0, 1) := by decide +kernel
theorem dX4_raise_20 : decode cX4_raise 20 = .ok (.iload_n 1, 1) := by decide +kernel
theorem dX4_raise_21 : decode cX4_raise 21 = .ok (.iconst 1, 1) := by decide +kernel
theorem dX4_raise_22 : decode cX4_raise 22 = .ok (.iadd, 1) := by decide +kernel
theorem dX4_raise_23 : decode cX4_raise 23 = .ok (.iload_n 3, 1) := by decide +kernel
theorem dX4_raise_24 : decode cX4_raise 24 = .ok (.iadd, 1) := by decide +kernel
theorem dX4_raise_25 : decode cX4_raise 25 = .ok (.iaload, 1) := by decide +kernel
theorem dX4_raise_26 : decode cX4_raise 26 = .ok (.iload_n 2, 1) := by decide +kernel
theorem dX4_raise_27 : decode cX4_raise 27 = .ok (.if_icmp .le 13, 3) := by decide +kernel
theorem dX4_raise_30 : decode cX4_raise 30 = .ok (.aload_n 0, 1) := by decide +kernel
theorem dX4_raise_31 : decode cX4_raise 31 = .ok (.iload_n 1, 1) := by decide +kernel
theorem dX4_raise_32 : decode cX4_raise 32 = .ok (.iconst 1, 1) := by decide +kernel
theorem dX4_raise_33 : decode cX4_raise 33 = .ok (.iadd, 1) := by decide +kernel
theorem dX4_raise_34 : decode cX4_raise 34 = .ok (.iload_n 3, 1) := by decide +kernel
theorem dX4_raise_35 : decode cX4_raise 35 = .ok (.iadd, 1) := by decide +kernel
theorem dX4_raise_36 : decode cX4_raise 36 = .ok (.iaload, 1) := by decide +kernel
theorem dX4_raise_37 : decode cX4_raise 37 = .ok (.goto 4, 3) := by decide +kernel
theorem dX4_raise_40 : decode cX4_raise 40 = .ok (.iload_n 2, 1) := by decide +kernel
theorem dX4_raise_41 : decode cX4_raise 41 = .ok (.istore_n 2, 1) := by decide +kernel
theorem dX4_raise_42 : decode cX4_raise 42 = .ok (.iinc 3 1, 3) := by decide +kernel
theorem dX4_raise_45 : decode cX4_raise 45 = .ok (.goto (-41), 3) := by decide +kernel
theorem dX4_raise_48 : decode cX4_raise 48 = .ok (.iconst 0, 1) := by decide +kernel
theorem dX4_raise_49 : decode cX4_raise 49 = .ok (.istore_n 3, 1) := by decide +kernel
theorem dX4_raise_50 : decode cX4_raise 50 = .ok (.iconst 0, 1) := by decide +kernel
theorem dX4_raise_51 : decode cX4_raise 51 = .ok (.istore 4, 2) := by decide +kernel
theorem dX4_raise_53 : decode cX4_raise 53 = .ok (.iload 4, 2) := by decide +kernel
theorem dX4_raise_55 : decode cX4_raise 55 = .ok (.bipush 16, 2) := by decide +kernel
theorem dX4_raise_57 : decode cX4_raise 57 = .ok (.if_icmp .ge 41, 3) := by decide +kernel
theorem dX4_raise_60 : decode cX4_raise 60 = .ok (.iload_n 3, 1) := by decide +kernel
theorem dX4_raise_61 : decode cX4_raise 61 = .ok (.ifCond .ne 25, 3) := by decide +kernel
theorem dX4_raise_64 : decode cX4_raise 64 = .ok (.aload_n 0, 1) := by decide +kernel
theorem dX4_raise_65 : decode cX4_raise 65 = .ok (.iload_n 1, 1) := by decide +kernel
theorem dX4_raise_66 : decode cX4_raise 66 = .ok (.iload 4, 2) := by decide +kernel
theorem dX4_raise_68 : decode cX4_raise 68 = .ok (.invokestatic 70, 3) := by decide +kernel
theorem dX4_raise_71 : decode cX4_raise 71 = .ok (.ifCond .eq 19, 3) := by decide +kernel
theorem dX4_raise_74 : decode cX4_raise 74 = .ok (.aload_n 0, 1) := by decide +kernel
theorem dX4_raise_75 : decode cX4_raise 75 = .ok (.iload_n 1, 1) := by decide +kernel
theorem dX4_raise_76 : decode cX4_raise 76 = .ok (.iconst 1, 1) := by decide +kernel
theorem dX4_raise_77 : decode cX4_raise 77 = .ok (.iadd, 1) := by decide +kernel
theorem dX4_raise_78 : decode cX4_raise 78 = .ok (.iload 4, 2) := by decide +kernel
theorem dX4_raise_80 : decode cX4_raise 80 = .ok (.iadd, 1) := by decide +kernel
theorem dX4_raise_81 : decode cX4_raise 81 = .ok (.iaload, 1) := by decide +kernel
theorem dX4_raise_82 : decode cX4_raise 82 = .ok (.iload_n 2, 1) := by decide +kernel
theorem dX4_raise_83 : decode cX4_raise 83 = .ok (.if_icmp .ge 7, 3) := by decide +kernel
theorem dX4_raise_86 : decode cX4_raise 86 = .ok (.iconst 1, 1) := by decide +kernel
theorem dX4_raise_87 : decode cX4_raise 87 = .ok (.goto 4, 3) := by decide +kernel
theorem dX4_raise_90 : decode cX4_raise 90 = .ok (.iconst 0, 1) := by decide +kernel
theorem dX4_raise_91 : decode cX4_raise 91 = .ok (.istore_n 3, 1) := by decide +kernel
theorem dX4_raise_92 : decode cX4_raise 92 = .ok (.iinc 4 1, 3) := by decide +kernel
theorem dX4_raise_95 : decode cX4_raise 95 = .ok (.goto (-42), 3) := by decide +kernel
theorem dX4_raise_98 : decode cX4_raise 98 = .ok (.iconst 0, 1) := by decide +kernel
theorem dX4_raise_99 : decode cX4_raise 99 = .ok (.istore 4, 2) := by decide +kernel
theorem dX4_raise_101 : decode cX4_raise 101 = .ok (.iload 4, 2) := by decide +kernel
theorem dX4_raise_103 : decode cX4_raise 103 = .ok (.bipush 16, 2) := by decide +kernel
theorem dX4_raise_105 : decode cX4_raise 105 = .ok (.if_icmp .ge 49, 3) := by decide +kernel
theorem dX4_raise_108 : decode cX4_raise 108 = .ok (.aload_n 0, 1) := by decide +kernel
theorem dX4_raise_109 : decode cX4_raise 109 = .ok (.iload_n 1, 1) := by decide +kernel
theorem dX4_raise_110 : decode cX4_raise 110 = .ok (.iconst 1, 1) := by decide +kernel
theorem dX4_raise_111 : decode cX4_raise 111 = .ok (.iadd, 1) := by decide +kernel
theorem dX4_raise_112 : decode cX4_raise 112 = .ok (.iload 4, 2) := by decide +kernel
theorem dX4_raise_114 : decode cX4_raise 114 = .ok (.iadd, 1) := by decide +kernel
