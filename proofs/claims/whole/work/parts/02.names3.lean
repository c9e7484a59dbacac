theorem dX4_raise_115 : decode cX4_raise 115 = .ok (.aload_n 0, 1) := by decide +kernel
theorem dX4_raise_116 : decode cX4_raise 116 = .ok (.iload_n 1, 1) := by decide +kernel
theorem dX4_raise_117 : decode cX4_raise 117 = .ok (.iload 4, 2) := by decide +kernel
theorem dX4_raise_119 : decode cX4_raise 119 = .ok (.invokestatic 70, 3) := by decide +kernel
theorem dX4_raise_122 : decode cX4_raise 122 = .ok (.ifCond .eq 17, 3) := by decide +kernel
theorem dX4_raise_125 : decode cX4_raise 125 = .ok (.iload_n 3, 1) := by decide +kernel
theorem dX4_raise_126 : decode cX4_raise 126 = .ok (.ifCond .eq 7, 3) := by decide +kernel
theorem dX4_raise_129 : decode cX4_raise 129 = .ok (.iload_n 2, 1) := by decide +kernel
theorem dX4_raise_130 : decode cX4_raise 130 = .ok (.goto 17, 3) := by decide +kernel
theorem dX4_raise_133 : decode cX4_raise 133 = .ok (.iload_n 2, 1) := by decide +kernel
theorem dX4_raise_134 : decode cX4_raise 134 = .ok (.iconst 1, 1) := by decide +kernel
theorem dX4_raise_135 : decode cX4_raise 135 = .ok (.iadd, 1) := by decide +kernel
theorem dX4_raise_136 : decode cX4_raise 136 = .ok (.goto 11, 3) := by decide +kernel
theorem dX4_raise_139 : decode cX4_raise 139 = .ok (.aload_n 0, 1) := by decide +kernel
theorem dX4_raise_140 : decode cX4_raise 140 = .ok (.iload_n 1, 1) := by decide +kernel
theorem dX4_raise_141 : decode cX4_raise 141 = .ok (.iconst 1, 1) := by decide +kernel
theorem dX4_raise_142 : decode cX4_raise 142 = .ok (.iadd, 1) := by decide +kernel
theorem dX4_raise_143 : decode cX4_raise 143 = .ok (.iload 4, 2) := by decide +kernel
theorem dX4_raise_145 : decode cX4_raise 145 = .ok (.iadd, 1) := by decide +kernel
theorem dX4_raise_146 : decode cX4_raise 146 = .ok (.iaload, 1) := by decide +kernel
theorem dX4_raise_147 : decode cX4_raise 147 = .ok (.iastore, 1) := by decide +kernel
theorem dX4_raise_148 : decode cX4_raise 148 = .ok (.iinc 4 1, 3) := by decide +kernel
theorem dX4_raise_151 : decode cX4_raise 151 = .ok (.goto (-50), 3) := by decide +kernel
theorem dX4_raise_154 : decode cX4_raise 154 = .ok (.return_, 1) := by decide +kernel
theorem dX4_areAlike_0 : decode cX4_areAlike 0 = .ok (.iconst 1, 1) := by decide +kernel
theorem dX4_areAlike_1 : decode cX4_areAlike 1 = .ok (.istore 4, 2) := by decide +kernel
theorem dX4_areAlike_3 : decode cX4_areAlike 3 = .ok (.iload_n 2, 1) := by decide +kernel
theorem dX4_areAlike_4 : decode cX4_areAlike 4 = .ok (.istore 5, 2) := by decide +kernel
theorem dX4_areAlike_6 : decode cX4_areAlike 6 = .ok (.iload 5, 2) := by decide +kernel
theorem dX4_areAlike_8 : decode cX4_areAlike 8 = .ok (.iload_n 2, 1) := by decide +kernel
theorem dX4_areAlike_9 : decode cX4_areAlike 9 = .ok (.iload_n 3, 1) := by decide +kernel
theorem dX4_areAlike_10 : decode cX4_areAlike 10 = .ok (.iadd, 1) := by decide +kernel
theorem dX4_areAlike_11 : decode cX4_areAlike 11 = .ok (.if_icmp .ge 39, 3) := by decide +kernel
theorem dX4_areAlike_14 : decode cX4_areAlike 14 = .ok (.iload 4, 2) := by decide +kernel
theorem dX4_areAlike_16 : decode cX4_areAlike 16 = .ok (.ifCond .eq 25, 3) := by decide +kernel
theorem dX4_areAlike_19 : decode cX4_areAlike 19 = .ok (.aload_n 0, 1) := by decide +kernel
theorem dX4_areAlike_20 : decode cX4_areAlike 20 = .ok (.iload_n 1, 1) := by decide +kernel
theorem dX4_areAlike_21 : decode cX4_areAlike 21 = .ok (.iconst 1, 1) := by decide +kernel
theorem dX4_areAlike_22 : decode cX4_areAlike 22 = .ok (.iadd, 1) := by decide +kernel
theorem dX4_areAlike_23 : decode cX4_areAlike 23 = .ok (.iload 5, 2) := by decide +kernel
theorem dX4_areAlike_25 : decode cX4_areAlike 25 = .ok (.iadd, 1) := by decide +kernel
theorem dX4_areAlike_26 : decode cX4_areAlike 26 = .ok (.iaload, 1) := by decide +kernel
theorem dX4_areAlike_27 : decode cX4_areAlike 27 = .ok (.aload_n 0, 1) := by decide +kernel
theorem dX4_areAlike_28 : decode cX4_areAlike 28 = .ok (.iload_n 1, 1) := by decide +kernel
theorem dX4_areAlike_29 : decode cX4_areAlike 29 = .ok (.iconst 1, 1) := by decide +kernel
theorem dX4_areAlike_30 : decode cX4_areAlike 30 = .ok (.iadd, 1) := by decide +kernel
theorem dX4_areAlike_31 : decode cX4_areAlike 31 = .ok (.iload_n 2, 1) := by decide +kernel
theorem dX4_areAlike_32 : decode cX4_areAlike 32 = .ok (.iadd, 1) := by decide +kernel
theorem dX4_areAlike_33 : decode cX4_areAlike 33 = .ok (.iaload, 1) := by decide +kernel
theorem dX4_areAlike_34 : decode cX4_areAlike 34 = .ok (.if_icmp .ne 7, 3) := by decide +kernel
theorem dX4_areAlike_37 : decode cX4_areAlike 37 = .ok (.iconst 1, 1) := by decide +kernel
theorem dX4_areAlike_38 : decode cX4_areAlike 38 = .ok (.goto 4, 3) := by decide +kernel
theorem dX4_areAlike_41 : decode cX4_areAlike 41 = .ok (.iconst 0, 1) := by decide +kernel
theorem dX4_areAlike_42 : decode cX4_areAlike 42 = .ok (.istore 4, 2) := by decide +kernel
theorem dX4_areAlike_44 : decode cX4_areAlike 44 = .ok (.iinc 5 1, 3) := by decide +kernel
theorem dX4_areAlike_47 : decode cX4_areAlike 47 = .ok (.goto (-41), 3) := by decide +kernel
theorem dX4_areAlike_50 : decode cX4_areAlike 50 = .ok (.iload 4, 2) := by decide +kernel
theorem dX4_areAlike_52 : decode cX4_areAlike 52 = .ok (.ireturn, 1) := by decide +kernel
set_option maxRecDepth 20000 in
theorem ggX4_knots_X4_areAlike : GoodIn wsX4_knots wsX4_areAlike := goodIn_r _ [4] (by decide +kernel) (by decide +kernel)
set_option maxRecDepth 20000 in
theorem gX4_knots_X4_areAlike : GoodIn wsX4_knots (va_wsS RX4 74 yX4_areAlike wsX4_areAlike) := goodIn_app (goodIn_of _ (by decide +kernel)) ggX4_knots_X4_areAlike
theorem dX4_knots_0 : decode cX4_knots 0 = .ok (.iconst 0, 1) := by decide +kernel
theorem dX4_knots_1 : decode cX4_knots 1 = .ok (.istore_n 2, 1) := by decide +kernel
theorem dX4_knots_2 : decode cX4_knots 2 = .ok (.iconst 2, 1) := by decide +kernel
theorem dX4_knots_3 : decode cX4_knots 3 = .ok (.istore_n 3, 1) := by decide +kernel
theorem dX4_knots_4 : decode cX4_knots 4 = .ok (.iload_n 3, 1) := by decide +kernel
theorem dX4_knots_5 : decode cX4_knots 5 = .ok (.bipush 16, 2) := by decide +kernel
theorem dX4_knots_7 : decode cX4_knots 7 = .ok (.if_icmp .gt 48, 3) := by decide +kernel
theorem dX4_knots_10 : decode cX4_knots 10 = .ok (.iconst 0, 1) := by decide +kernel
theorem dX4_knots_11 : decode cX4_knots 11 = .ok (.istore 4, 2) := by decide +kernel
theorem dX4_knots_13 : decode cX4_knots 13 = .ok (.iload 4, 2) := by decide +kernel
theorem dX4_knots_15 : decode cX4_knots 15 = .ok (.bipush 16, 2) := by decide +kernel
theorem dX4_knots_17 : decode cX4_knots 17 = .ok (.if_icmp .ge 31, 3) := by decide +kernel
theorem dX4_knots_20 : decode cX4_knots 20 = .ok (.iload_n 2, 1) := by decide +kernel
theorem dX4_knots_21 : decode cX4_knots 21 = .ok (.aload_n 0, 1) := by decide +kernel
theorem dX4_knots_22 : decode cX4_knots 22 = .ok (.iload_n 1, 1) := by decide +kernel
theorem dX4_knots_23 : decode cX4_knots 23 = .ok (.iload 4, 2) := by decide +kernel
theorem dX4_knots_25 : decode cX4_knots 25 = .ok (.iload_n 3, 1) := by decide +kernel
theorem dX4_knots_26 : decode cX4_knots 26 = .ok (.invokestatic 74, 3) := by decide +kernel
theorem dX4_knots_29 : decode cX4_knots 29 = .ok (.ifCond .eq 7, 3) := by decide +kernel
theorem dX4_knots_32 : decode cX4_knots 32 = .ok (.iconst 0, 1) := by decide +kernel
theorem dX4_knots_33 : decode cX4_knots 33 = .ok (.goto 4, 3) := by decide +kernel
theorem dX4_knots_36 : decode cX4_knots 36 = .ok (.iconst 1, 1) := by decide +kernel
theorem dX4_knots_37 : decode cX4_knots 37 = .ok (.iadd, 1) := by decide +kernel
theorem dX4_knots_38 : decode cX4_knots 38 = .ok (.istore_n 2, 1) := by decide +kernel
theorem dX4_knots_39 : decode cX4_knots 39 = .ok (.iload 4, 2) := by decide +kernel
theorem dX4_knots_41 : decode cX4_knots 41 = .ok (.iload_n 3, 1) := by decide +kernel
theorem dX4_knots_42 : decode cX4_knots 42 = .ok (.iadd, 1) := by decide +kernel
theorem dX4_knots_43 : decode cX4_knots 43 = .ok (.istore 4, 2) := by decide +kernel
theorem dX4_knots_45 : decode cX4_knots 45 = .ok (.goto (-32), 3) := by decide +kernel
theorem dX4_knots_48 : decode cX4_knots 48 = .ok (.iload_n 3, 1) := by decide +kernel
theorem dX4_knots_49 : decode cX4_knots 49 = .ok (.iconst 2, 1) := by decide +kernel
theorem dX4_knots_50 : decode cX4_knots 50 = .ok (.imul, 1) := by decide +kernel
theorem dX4_knots_51 : decode cX4_knots 51 = .ok (.istore_n 3, 1) := by decide +kernel
theorem dX4_knots_52 : decode cX4_knots 52 = .ok (.goto (-48), 3) := by decide +kernel
theorem dX4_knots_55 : decode cX4_knots 55 = .ok (.iload_n 2, 1) := by decide +kernel
theorem dX4_knots_56 : decode cX4_knots 56 = .ok (.ireturn, 1) := by decide +kernel
theorem dX4_says_0 : decode cX4_says 0 = .ok (.aload_n 0, 1) := by decide +kernel
theorem dX4_says_1 : decode cX4_says 1 = .ok (.getfield 37, 3) := by decide +kernel
theorem dX4_says_4 : decode cX4_says 4 = .ok (.aload_n 0, 1) := by decide +kernel
theorem dX4_says_5 : decode cX4_says 5 = .ok (.getfield 78, 3) := by decide +kernel
theorem dX4_says_8 : decode cX4_says 8 = .ok (.iload_n 1, 1) := by decide +kernel
theorem dX4_says_9 : decode cX4_says 9 = .ok (.iastore, 1) := by decide +kernel
theorem dX4_says_10 : decode cX4_says 10 = .ok (.aload_n 0, 1) := by decide +kernel
theorem dX4_says_11 : decode cX4_says 11 = .ok (.dup, 1) := by decide +kernel
theorem dX4_says_12 : decode cX4_says 12 = .ok (.getfield 78, 3) := by decide +kernel
theorem dX4_says_15 : decode cX4_says 15 = .ok (.iconst 1, 1) := by decide +kernel
theorem dX4_says_16 : decode cX4_says 16 = .ok (.iadd, 1) := by decide +kernel
theorem dX4_says_17 : decode cX4_says 17 = .ok (.putfield 78, 3) := by decide +kernel
theorem dX4_says_20 : decode cX4_says 20 = .ok (.return_, 1) := by decide +kernel
set_option maxRecDepth 20000 in
theorem ggX4_saysNumber_X4_says : GoodIn wsX4_saysNumber wsX4_says := goodIn_r _ [5, 6, 7, 8, 9, 10, 11, 12, 13, 14, 15, 16, 17, 18, 19, 20] (by decide +kernel) (by decide +kernel)
set_option maxRecDepth 20000 in
theorem gX4_saysNumber_X4_says : GoodIn wsX4_saysNumber (wsV RX4 81 RX4 yX4_says wsX4_says) := goodIn_app (goodIn_of _ (by decide +kernel)) ggX4_saysNumber_X4_says
theorem dX4_saysNumber_0 : decode cX4_saysNumber 0 = .ok (.iload_n 1, 1) := by decide +kernel
theorem dX4_saysNumber_1 : decode cX4_saysNumber 1 = .ok (.bipush 99, 2) := by decide +kernel
theorem dX4_saysNumber_3 : decode cX4_saysNumber 3 = .ok (.if_icmp .le 14, 3) := by decide +kernel
theorem dX4_saysNumber_6 : decode cX4_saysNumber 6 = .ok (.aload_n 0, 1) := by decide +kernel
theorem dX4_saysNumber_7 : decode cX4_saysNumber 7 = .ok (.bipush 48, 2) := by decide +kernel
theorem dX4_saysNumber_9 : decode cX4_saysNumber 9 = .ok (.iload_n 1, 1) := by decide +kernel
theorem dX4_saysNumber_10 : decode cX4_saysNumber 10 = .ok (.bipush 100, 2) := by decide +kernel
theorem dX4_saysNumber_12 : decode cX4_saysNumber 12 = .ok (.idiv, 1) := by decide +kernel
theorem dX4_saysNumber_13 : decode cX4_saysNumber 13 = .ok (.iadd, 1) := by decide +kernel
theorem dX4_saysNumber_14 : decode cX4_saysNumber 14 = .ok (.invokevirtual 81, 3) := by decide +kernel
theorem dX4_saysNumber_17 : decode cX4_saysNumber 17 = .ok (.iload_n 1, 1) := by decide +kernel
theorem dX4_saysNumber_18 : decode cX4_saysNumber 18 = .ok (.bipush 9, 2) := by decide +kernel
theorem dX4_saysNumber_20 : decode cX4_saysNumber 20 = .ok (.if_icmp .le 17, 3) := by decide +kernel
theorem dX4_saysNumber_23 : decode cX4_saysNumber 23 = .ok (.aload_n 0, 1) := by decide +kernel
theorem dX4_saysNumber_24 : decode cX4_saysNumber 24 = .ok (.bipush 48, 2) := by decide +kernel
theorem dX4_saysNumber_26 : decode cX4_saysNumber 26 = .ok (.iload_n 1, 1) := by decide +kernel
theorem dX4_saysNumber_27 : decode cX4_saysNumber 27 = .ok (.bipush 10, 2) := by decide +kernel
theorem dX4_saysNumber_29 : decode cX4_saysNumber 29 = .ok (.idiv, 1) := by decide +kernel
theorem dX4_saysNumber_30 : decode cX4_saysNumber 30 = .ok (.bipush 10, 2) := by decide +kernel
theorem dX4_saysNumber_32 : decode cX4_saysNumber 32 = .ok (.irem, 1) := by decide +kernel
theorem dX4_saysNumber_33 : decode cX4_saysNumber 33 = .ok (.iadd, 1) := by decide +kernel
theorem dX4_saysNumber_34 : decode cX4_saysNumber 34 = .ok (.invokevirtual 81, 3) := by decide +kernel
theorem dX4_saysNumber_37 : decode cX4_saysNumber 37 = .ok (.aload_n 0, 1) := by decide +kernel
theorem dX4_saysNumber_38 : decode cX4_saysNumber 38 = .ok (.bipush 48, 2) := by decide +kernel
theorem dX4_saysNumber_40 : decode cX4_saysNumber 40 = .ok (.iload_n 1, 1) := by decide +kernel
theorem dX4_saysNumber_41 : decode cX4_saysNumber 41 = .ok (.bipush 10, 2) := by decide +kernel
theorem dX4_saysNumber_43 : decode cX4_saysNumber 43 = .ok (.irem, 1) := by decide +kernel
theorem dX4_saysNumber_44 : decode cX4_saysNumber 44 = .ok (.iadd, 1) := by decide +kernel
theorem dX4_saysNumber_45 : decode cX4_saysNumber 45 = .ok (.invokevirtual 81, 3) := by decide +kernel
theorem dX4_saysNumber_48 : decode cX4_saysNumber 48 = .ok (.return_, 1) := by decide +kernel
set_option maxRecDepth 20000 in
theorem ggX4_print_X4_areAlike : GoodIn wsX4_print wsX4_areAlike := goodIn_r _ [6] (by decide +kernel) (by decide +kernel)
set_option maxRecDepth 20000 in
theorem gX4_print_X4_areAlike : GoodIn wsX4_print (va_wsS RX4 74 yX4_areAlike wsX4_areAlike) := goodIn_app (goodIn_of _ (by decide +kernel)) ggX4_print_X4_areAlike
set_option maxRecDepth 20000 in
theorem ggX4_print_X4_says : GoodIn wsX4_print wsX4_says := goodIn_r _ [10, 11, 1, 16, 17, 18, 19, 20, 21, 22, 23, 24, 25, 26, 27, 28] (by decide +kernel) (by decide +kernel)
set_option maxRecDepth 20000 in
theorem gX4_print_X4_says : GoodIn wsX4_print (wsV RX4 81 RX4 yX4_says wsX4_says) := goodIn_app (goodIn_of _ (by decide +kernel)) ggX4_print_X4_says
set_option maxRecDepth 20000 in
theorem ggX4_print_X4_saysNumber : GoodIn wsX4_print wsX4_saysNumber := goodIn_r _ [15, 7, 8, 9, 5, 10, 11, 1, 16, 17, 18, 19, 20, 21, 22, 23, 24, 25, 26, 27, 28] (by decide +kernel) (by decide +kernel)
set_option maxRecDepth 20000 in
theorem gX4_print_X4_saysNumber : GoodIn wsX4_print (wsV RX4 85 RX4 yX4_saysNumber wsX4_saysNumber) := goodIn_app (goodIn_of _ (by decide +kernel)) ggX4_print_X4_saysNumber
theorem dX4_print_0 : decode cX4_print 0 = .ok (.aload_n 0, 1) := by decide +kernel
theorem dX4_print_1 : decode cX4_print 1 = .ok (.iconst 0, 1) := by decide +kernel
theorem dX4_print_2 : decode cX4_print 2 = .ok (.putfield 78, 3) := by decide +kernel
theorem dX4_print_5 : decode cX4_print 5 = .ok (.iconst 0, 1) := by decide +kernel
theorem dX4_print_6 : decode cX4_print 6 = .ok (.istore_n 2, 1) := by decide +kernel
theorem dX4_print_7 : decode cX4_print 7 = .ok (.iload_n 2, 1) := by decide +kernel
theorem dX4_print_8 : decode cX4_print 8 = .ok (.bipush 16, 2) := by decide +kernel
theorem dX4_print_10 : decode cX4_print 10 = .ok (.if_icmp .ge 116, 3) := by decide +kernel
theorem dX4_print_13 : decode cX4_print 13 = .ok (.bipush 16, 2) := by decide +kernel
theorem dX4_print_15 : decode cX4_print 15 = .ok (.istore_n 3, 1) := by decide +kernel
theorem dX4_print_16 : decode cX4_print 16 = .ok (.iload_n 3, 1) := by decide +kernel
theorem dX4_print_17 : decode cX4_print 17 = .ok (.iconst 1, 1) := by decide +kernel
theorem dX4_print_18 : decode cX4_print 18 = .ok (.if_icmp .le 41, 3) := by decide +kernel
theorem dX4_print_21 : decode cX4_print 21 = .ok (.iload_n 2, 1) := by decide +kernel
theorem dX4_print_22 : decode cX4_print 22 = .ok (.iload_n 3, 1) := by decide +kernel
theorem dX4_print_23 : decode cX4_print 23 = .ok (.irem, 1) := by decide +kernel
theorem dX4_print_24 : decode cX4_print 24 = .ok (.ifCond .ne 16, 3) := by decide +kernel
theorem dX4_print_27 : decode cX4_print 27 = .ok (.aload_n 0, 1) := by decide +kernel
theorem dX4_print_28 : decode cX4_print 28 = .ok (.getfield 7, 3) := by decide +kernel
theorem dX4_print_31 : decode cX4_print 31 = .ok (.iload_n 1, 1) := by decide +kernel
theorem dX4_print_32 : decode cX4_print 32 = .ok (.iload_n 2, 1) := by decide +kernel
theorem dX4_print_33 : decode cX4_print 33 = .ok (.iload_n 3, 1) := by decide +kernel
theorem dX4_print_34 : decode cX4_print 34 = .ok (.invokestatic 74, 3) := by decide +kernel
theorem dX4_print_37 : decode cX4_print 37 = .ok (.ifCond .ne 22, 3) := by decide +kernel
theorem dX4_print_40 : decode cX4_print 40 = .ok (.iload_n 2, 1) := by decide +kernel
theorem dX4_print_41 : decode cX4_print 41 = .ok (.iload_n 3, 1) := by decide +kernel
theorem dX4_print_42 : decode cX4_print 42 = .ok (.irem, 1) := by decide +kernel
theorem dX4_print_43 : decode cX4_print 43 = .ok (.ifCond .ne 9, 3) := by decide +kernel
theorem dX4_print_46 : decode cX4_print 46 = .ok (.aload_n 0, 1) := by decide +kernel
theorem dX4_print_47 : decode cX4_print 47 = .ok (.bipush 40, 2) := by decide +kernel
theorem dX4_print_49 : decode cX4_print 49 = .ok (.invokevirtual 81, 3) := by decide +kernel
theorem dX4_print_52 : decode cX4_print 52 = .ok (.iload_n 3, 1) := by decide +kernel
theorem dX4_print_53 : decode cX4_print 53 = .ok (.iconst 2, 1) := by decide +kernel
theorem dX4_print_54 : decode cX4_print 54 = .ok (.idiv, 1) := by decide +kernel
theorem dX4_print_55 : decode cX4_print 55 = .ok (.istore_n 3, 1) := by decide +kernel
theorem dX4_print_56 : decode cX4_print 56 = .ok (.goto (-40), 3) := by decide +kernel
theorem dX4_print_59 : decode cX4_print 59 = .ok (.aload_n 0, 1) := by decide +kernel
theorem dX4_print_60 : decode cX4_print 60 = .ok (.aload_n 0, 1) := by decide +kernel
theorem dX4_print_61 : decode cX4_print 61 = .ok (.getfield 7, 3) := by decide +kernel
theorem dX4_print_64 : decode cX4_print 64 = .ok (.iload_n 1, 1) := by decide +kernel
theorem dX4_print_65 : decode cX4_print 65 = .ok (.iconst 1, 1) := by decide +kernel
theorem dX4_print_66 : decode cX4_print 66 = .ok (.iadd, 1) := by decide +kernel
theorem dX4_print_67 : decode cX4_print 67 = .ok (.iload_n 2, 1) := by decide +kernel
theorem dX4_print_68 : decode cX4_print 68 = .ok (.iadd, 1) := by decide +kernel
theorem dX4_print_69 : decode cX4_print 69 = .ok (.iaload, 1) := by decide +kernel
theorem dX4_print_70 : decode cX4_print 70 = .ok (.invokevirtual 85, 3) := by decide +kernel
theorem dX4_print_73 : decode cX4_print 73 = .ok (.iload_n 2, 1) := by decide +kernel
theorem dX4_print_74 : decode cX4_print 74 = .ok (.iload_n 3, 1) := by decide +kernel
theorem dX4_print_75 : decode cX4_print 75 = .ok (.iadd, 1) := by decide +kernel
theorem dX4_print_76 : decode cX4_print 76 = .ok (.istore_n 2, 1) := by decide +kernel
theorem dX4_print_77 : decode cX4_print 77 = .ok (.iconst 2, 1) := by decide +kernel
theorem dX4_print_78 : decode cX4_print 78 = .ok (.iload_n 3, 1) := by decide +kernel
theorem dX4_print_79 : decode cX4_print 79 = .ok (.imul, 1) := by decide +kernel
theorem dX4_print_80 : decode cX4_print 80 = .ok (.istore 4, 2) := by decide +kernel
theorem dX4_print_82 : decode cX4_print 82 = .ok (.iload 4, 2) := by decide +kernel
theorem dX4_print_84 : decode cX4_print 84 = .ok (.bipush 16, 2) := by decide +kernel
theorem dX4_print_86 : decode cX4_print 86 = .ok (.if_icmp .gt 25, 3) := by decide +kernel
theorem dX4_print_89 : decode cX4_print 89 = .ok (.iload_n 2, 1) := by decide +kernel
theorem dX4_print_90 : decode cX4_print 90 = .ok (.iload 4, 2) := by decide +kernel
theorem dX4_print_92 : decode cX4_print 92 = .ok (.irem, 1) := by decide +kernel
theorem dX4_print_93 : decode cX4_print 93 = .ok (.ifCond .ne 18, 3) := by decide +kernel
theorem dX4_print_96 : decode cX4_print 96 = .ok (.aload_n 0, 1) := by decide +kernel
theorem dX4_print_97 : decode cX4_print 97 = .ok (.bipush 41, 2) := by decide +kernel
theorem dX4_print_99 : decode cX4_print 99 = .ok (.invokevirtual 81, 3) := by decide +kernel
theorem dX4_print_102 : decode cX4_print 102 = .ok (.iload 4, 2) := by decide +kernel
theorem dX4_print_104 : decode cX4_print 104 = .ok (.iconst 2, 1) := by decide +kernel
theorem dX4_print_105 : decode cX4_print 105 = .ok (.imul, 1) := by decide +kernel
theorem dX4_print_106 : decode cX4_print 106 = .ok (.istore 4, 2) := by decide +kernel
theorem dX4_print_108 : decode cX4_print 108 = .ok (.goto (-26), 3) := by decide +kernel
theorem dX4_print_111 : decode cX4_print 111 = .ok (.iload_n 2, 1) := by decide +kernel
theorem dX4_print_112 : decode cX4_print 112 = .ok (.bipush 16, 2) := by decide +kernel
theorem dX4_print_114 : decode cX4_print 114 = .ok (.if_icmp .ge 9, 3) := by decide +kernel
theorem dX4_print_117 : decode cX4_print 117 = .ok (.aload_n 0, 1) := by decide +kernel
theorem dX4_print_118 : decode cX4_print 118 = .ok (.bipush 44, 2) := by decide +kernel
theorem dX4_print_120 : decode cX4_print 120 = .ok (.invokevirtual 81, 3) := by decide +kernel
theorem dX4_print_123 : decode cX4_print 123 = .ok (.goto (-116), 3) := by decide +kernel
theorem dX4_print_126 : decode cX4_print 126 = .ok (.return_, 1) := by decide +kernel
set_option maxRecDepth 20000 in
theorem ggX4_freeNumber_X4_isHelper : GoodIn wsX4_freeNumber wsX4_isHelper := goodIn_r _ [5, 6, 7, 8, 4, 9, 10, 11, 12, 13, 14, 15, 16, 17, 18, 19, 20, 21, 22] (by decide +kernel) (by decide +kernel)
set_option maxRecDepth 20000 in
theorem gX4_freeNumber_X4_isHelper : GoodIn wsX4_freeNumber (wsV RX4 53 RX4 yX4_isHelper wsX4_isHelper) := goodIn_app (goodIn_of _ (by decide +kernel)) ggX4_freeNumber_X4_isHelper
theorem dX4_freeNumber_0 : decode cX4_freeNumber 0 = .ok (.bipush (-6), 2) := by decide +kernel
theorem dX4_freeNumber_2 : decode cX4_freeNumber 2 = .ok (.istore_n 1, 1) := by decide +kernel
theorem dX4_freeNumber_3 : decode cX4_freeNumber 3 = .ok (.bipush 7, 2) := by decide +kernel
theorem dX4_freeNumber_5 : decode cX4_freeNumber 5 = .ok (.istore_n 2, 1) := by decide +kernel
theorem dX4_freeNumber_6 : decode cX4_freeNumber 6 = .ok (.iload_n 2, 1) := by decide +kernel
theorem dX4_freeNumber_7 : decode cX4_freeNumber 7 = .ok (.ifCond .lt 23, 3) := by decide +kernel
theorem dX4_freeNumber_10 : decode cX4_freeNumber 10 = .ok (.aload_n 0, 1) := by decide +kernel
theorem dX4_freeNumber_11 : decode cX4_freeNumber 11 = .ok (.iload_n 2, 1) := by decide +kernel
theorem dX4_freeNumber_12 : decode cX4_freeNumber 12 = .ok (.invokevirtual 53, 3) := by decide +kernel
theorem dX4_freeNumber_15 : decode cX4_freeNumber 15 = .ok (.ifCond .eq 7, 3) := by decide +kernel
theorem dX4_freeNumber_18 : decode cX4_freeNumber 18 = .ok (.iload_n 1, 1) := by decide +kernel
theorem dX4_freeNumber_19 : decode cX4_freeNumber 19 = .ok (.goto 4, 3) := by decide +kernel
theorem dX4_freeNumber_22 : decode cX4_freeNumber 22 = .ok (.iload_n 2, 1) := by decide +kernel
theorem dX4_freeNumber_23 : decode cX4_freeNumber 23 = .ok (.istore_n 1, 1) := by decide +kernel
theorem dX4_freeNumber_24 : decode cX4_freeNumber 24 = .ok (.iinc 2 (-1), 3) := by decide +kernel
theorem dX4_freeNumber_27 : decode cX4_freeNumber 27 = .ok (.goto (-21), 3) := by decide +kernel
theorem dX4_freeNumber_30 : decode cX4_freeNumber 30 = .ok (.iload_n 1, 1) := by decide +kernel
theorem dX4_freeNumber_31 : decode cX4_freeNumber 31 = .ok (.ireturn, 1) := by decide +kernel
set_option maxRecDepth 20000 in
theorem ggX4_fork_X4_isHelper : GoodIn wsX4_fork wsX4_isHelper := goodIn_r _ [6, 1, 7, 8, 5, 9, 29, 30, 31, 32, 33, 34, 35, 36, 37, 38, 39, 40, 41] (by decide +kernel) (by decide +kernel)
set_option maxRecDepth 20000 in
theorem gX4_fork_X4_isHelper : GoodIn wsX4_fork (wsV RX4 53 RX4 yX4_isHelper wsX4_isHelper) := goodIn_app (goodIn_of _ (by decide +kernel)) ggX4_fork_X4_isHelper
set_option maxRecDepth 20000 in
theorem ggX4_fork_X4_freeNumber : GoodIn wsX4_fork wsX4_freeNumber := goodIn_r _ [13, 2, 3, 4, 5, 6, 1, 7, 8, 9, 29, 30, 31, 32, 33, 34, 35, 36, 37, 38, 39, 40, 41] (by decide +kernel) (by decide +kernel)
set_option maxRecDepth 20000 in
theorem gX4_fork_X4_freeNumber : GoodIn wsX4_fork (wsV RX4 88 RX4 yX4_freeNumber wsX4_freeNumber) := goodIn_app (goodIn_of _ (by decide +kernel)) ggX4_fork_X4_freeNumber
set_option maxRecDepth 20000 in
theorem ggX4_fork_X4_helperAt : GoodIn wsX4_fork wsX4_helperAt := goodIn_r _ [16] (by decide +kernel) (by decide +kernel)
set_option maxRecDepth 20000 in
theorem gX4_fork_X4_helperAt : GoodIn wsX4_fork (va_wsS RX4 60 yX4_helperAt wsX4_helperAt) := goodIn_app (goodIn_of _ (by decide +kernel)) ggX4_fork_X4_helperAt
set_option maxRecDepth 20000 in
theorem ggX4_fork_X4_bits : GoodIn wsX4_fork wsX4_bits := goodIn_r _ [19] (by decide +kernel) (by decide +kernel)
set_option maxRecDepth 20000 in
theorem gX4_fork_X4_bits : GoodIn wsX4_fork (va_wsS RX4 67 yX4_bits wsX4_bits) := goodIn_app (goodIn_of _ (by decide +kernel)) ggX4_fork_X4_bits
set_option maxRecDepth 20000 in
theorem ggX4_fork_X4_record : GoodIn wsX4_fork wsX4_record := goodIn_r _ [23, 24, 25, 1, 26, 27, 5, 28, 29, 30, 31, 32, 33, 34, 35, 36, 37, 38, 39, 40, 41] (by decide +kernel) (by decide +kernel)
set_option maxRecDepth 20000 in
theorem gX4_fork_X4_record : GoodIn wsX4_fork (wsV RX4 92 RX4 yX4_record wsX4_record) := goodIn_app (goodIn_of _ (by decide +kernel)) ggX4_fork_X4_record
set_option maxRecDepth 20000 in
theorem ggX4_fork_X4_moves : GoodIn wsX4_fork wsX4_moves := goodIn_r _ [28] (by decide +kernel) (by decide +kernel)
set_option maxRecDepth 20000 in
theorem gX4_fork_X4_moves : GoodIn wsX4_fork (va_wsS RX4 45 yX4_moves wsX4_moves) := goodIn_app (goodIn_of _ (by decide +kernel)) ggX4_fork_X4_moves
theorem dX4_fork_0 : decode cX4_fork 0 = .ok (.aload_n 0, 1) := by decide +kernel
theorem dX4_fork_1 : decode cX4_fork 1 = .ok (.iload_n 1, 1) := by decide +kernel
theorem dX4_fork_2 : decode cX4_fork 2 = .ok (.invokevirtual 53, 3) := by decide +kernel
theorem dX4_fork_5 : decode cX4_fork 5 = .ok (.ifCond .ne 5, 3) := by decide +kernel
theorem dX4_fork_8 : decode cX4_fork 8 = .ok (.iconst (-1), 1) := by decide +kernel
theorem dX4_fork_9 : decode cX4_fork 9 = .ok (.ireturn, 1) := by decide +kernel
theorem dX4_fork_10 : decode cX4_fork 10 = .ok (.aload_n 0, 1) := by decide +kernel
theorem dX4_fork_11 : decode cX4_fork 11 = .ok (.invokevirtual 88, 3) := by decide +kernel
theorem dX4_fork_14 : decode cX4_fork 14 = .ok (.istore_n 2, 1) := by decide +kernel
theorem dX4_fork_15 : decode cX4_fork 15 = .ok (.aload_n 0, 1) := by decide +kernel
theorem dX4_fork_16 : decode cX4_fork 16 = .ok (.getfield 7, 3) := by decide +kernel
theorem dX4_fork_19 : decode cX4_fork 19 = .ok (.iload_n 1, 1) := by decide +kernel
theorem dX4_fork_20 : decode cX4_fork 20 = .ok (.invokestatic 60, 3) := by decide +kernel
theorem dX4_fork_23 : decode cX4_fork 23 = .ok (.iconst 0, 1) := by decide +kernel
theorem dX4_fork_24 : decode cX4_fork 24 = .ok (.iadd, 1) := by decide +kernel
theorem dX4_fork_25 : decode cX4_fork 25 = .ok (.iaload, 1) := by decide +kernel
theorem dX4_fork_26 : decode cX4_fork 26 = .ok (.istore_n 3, 1) := by decide +kernel
theorem dX4_fork_27 : decode cX4_fork 27 = .ok (.iload_n 2, 1) := by decide +kernel
theorem dX4_fork_28 : decode cX4_fork 28 = .ok (.bipush (-6), 2) := by decide +kernel
theorem dX4_fork_30 : decode cX4_fork 30 = .ok (.if_icmp .eq 11, 3) := by decide +kernel
theorem dX4_fork_33 : decode cX4_fork 33 = .ok (.iload_n 3, 1) := by decide +kernel
theorem dX4_fork_34 : decode cX4_fork 34 = .ok (.invokestatic 67, 3) := by decide +kernel
theorem dX4_fork_37 : decode cX4_fork 37 = .ok (.iconst 1, 1) := by decide +kernel
theorem dX4_fork_38 : decode cX4_fork 38 = .ok (.if_icmp .ne 17, 3) := by decide +kernel
theorem dX4_fork_41 : decode cX4_fork 41 = .ok (.iload_n 2, 1) := by decide +kernel
theorem dX4_fork_42 : decode cX4_fork 42 = .ok (.bipush (-6), 2) := by decide +kernel
theorem dX4_fork_44 : decode cX4_fork 44 = .ok (.if_icmp .ne 8, 3) := by decide +kernel
theorem dX4_fork_47 : decode cX4_fork 47 = .ok (.bipush (-4), 2) := by decide +kernel
theorem dX4_fork_49 : decode cX4_fork 49 = .ok (.goto 5, 3) := by decide +kernel
theorem dX4_fork_52 : decode cX4_fork 52 = .ok (.bipush (-5), 2) := by decide +kernel
theorem dX4_fork_54 : decode cX4_fork 54 = .ok (.ireturn, 1) := by decide +kernel
theorem dX4_fork_55 : decode cX4_fork 55 = .ok (.aload_n 0, 1) := by decide +kernel
theorem dX4_fork_56 : decode cX4_fork 56 = .ok (.invokevirtual 92, 3) := by decide +kernel
theorem dX4_fork_59 : decode cX4_fork 59 = .ok (.aload_n 0, 1) := by decide +kernel
theorem dX4_fork_60 : decode cX4_fork 60 = .ok (.getfield 7, 3) := by decide +kernel
theorem dX4_fork_63 : decode cX4_fork 63 = .ok (.iload_n 1, 1) := by decide +kernel
theorem dX4_fork_64 : decode cX4_fork 64 = .ok (.invokestatic 60, 3) := by decide +kernel
theorem dX4_fork_67 : decode cX4_fork 67 = .ok (.aload_n 0, 1) := by decide +kernel
theorem dX4_fork_68 : decode cX4_fork 68 = .ok (.getfield 7, 3) := by decide +kernel
theorem dX4_fork_71 : decode cX4_fork 71 = .ok (.iload_n 2, 1) := by decide +kernel
theorem dX4_fork_72 : decode cX4_fork 72 = .ok (.invokestatic 60, 3) := by decide +kernel
theorem dX4_fork_75 : decode cX4_fork 75 = .ok (.bipush 21, 2) := by decide +kernel
theorem dX4_fork_77 : decode cX4_fork 77 = .ok (.invokestatic 45, 3) := by decide +kernel
theorem dX4_fork_80 : decode cX4_fork 80 = .ok (.iconst 0, 1) := by decide +kernel
theorem dX4_fork_81 : decode cX4_fork 81 = .ok (.istore 4, 2) := by decide +kernel
theorem dX4_fork_83 : decode cX4_fork 83 = .ok (.iload_n 3, 1) := by decide +kernel
theorem dX4_fork_84 : decode cX4_fork 84 = .ok (.invokestatic 67, 3) := by decide +kernel
theorem dX4_fork_87 : decode cX4_fork 87 = .ok (.iconst 1, 1) := by decide +kernel
theorem dX4_fork_88 : decode cX4_fork 88 = .ok (.iadd, 1) := by decide +kernel
theorem dX4_fork_89 : decode cX4_fork 89 = .ok (.iconst 2, 1) := by decide +kernel
theorem dX4_fork_90 : decode cX4_fork 90 = .ok (.idiv, 1) := by decide +kernel
theorem dX4_fork_91 : decode cX4_fork 91 = .ok (.istore 5, 2) := by decide +kernel
theorem dX4_fork_93 : decode cX4_fork 93 = .ok (.iconst 0, 1) := by decide +kernel
theorem dX4_fork_94 : decode cX4_fork 94 = .ok (.istore 6, 2) := by decide +kernel
theorem dX4_fork_96 : decode cX4_fork 96 = .ok (.iload 6, 2) := by decide +kernel
theorem dX4_fork_98 : decode cX4_fork 98 = .ok (.bipush 16, 2) := by decide +kernel
theorem dX4_fork_100 : decode cX4_fork 100 = .ok (.if_icmp .ge 36, 3) := by decide +kernel
theorem dX4_fork_103 : decode cX4_fork 103 = .ok (.iload_n 3, 1) := by decide +kernel
theorem dX4_fork_104 : decode cX4_fork 104 = .ok (.iload 6, 2) := by decide +kernel
theorem dX4_fork_106 : decode cX4_fork 106 = .ok (.ishr, 1) := by decide +kernel
theorem dX4_fork_107 : decode cX4_fork 107 = .ok (.iconst 1, 1) := by decide +kernel
theorem dX4_fork_108 : decode cX4_fork 108 = .ok (.iand, 1) := by decide +kernel
theorem dX4_fork_109 : decode cX4_fork 109 = .ok (.iconst 1, 1) := by decide +kernel
theorem dX4_fork_110 : decode cX4_fork 110 = .ok (.if_icmp .ne 20, 3) := by decide +kernel
theorem dX4_fork_113 : decode cX4_fork 113 = .ok (.iload 5, 2) := by decide +kernel
theorem dX4_fork_115 : decode cX4_fork 115 = .ok (.ifCond .le 15, 3) := by decide +kernel
theorem dX4_fork_118 : decode cX4_fork 118 = .ok (.iload 4, 2) := by decide +kernel
theorem dX4_fork_120 : decode cX4_fork 120 = .ok (.iconst 1, 1) := by decide +kernel
theorem dX4_fork_121 : decode cX4_fork 121 = .ok (.iload 6, 2) := by decide +kernel
theorem dX4_fork_123 : decode cX4_fork 123 = .ok (.ishl, 1) := by decide +kernel
theorem dX4_fork_124 : decode cX4_fork 124 = .ok (.ior, 1) := by decide +kernel
theorem dX4_fork_125 : decode cX4_fork 125 = .ok (.istore 4, 2) := by decide +kernel
theorem dX4_fork_127 : decode cX4_fork 127 = .ok (.iinc 5 (-1), 3) := by decide +kernel
theorem dX4_fork_130 : decode cX4_fork 130 = .ok (.iinc 6 1, 3) := by decide +kernel
theorem dX4_fork_133 : decode cX4_fork 133 = .ok (.goto (-37), 3) := by decide +kernel
theorem dX4_fork_136 : decode cX4_fork 136 = .ok (.aload_n 0, 1) := by decide +kernel
theorem dX4_fork_137 : decode cX4_fork 137 = .ok (.getfield 7, 3) := by decide +kernel
theorem dX4_fork_140 : decode cX4_fork 140 = .ok (.iload_n 1, 1) := by decide +kernel
theorem dX4_fork_141 : decode cX4_fork 141 = .ok (.invokestatic 60, 3) := by decide +kernel
theorem dX4_fork_144 : decode cX4_fork 144 = .ok (.iconst 0, 1) := by decide +kernel
theorem dX4_fork_145 : decode cX4_fork 145 = .ok (.iadd, 1) := by decide +kernel
theorem dX4_fork_146 : decode cX4_fork 146 = .ok (.iload 4, 2) := by decide +kernel
theorem dX4_fork_148 : decode cX4_fork 148 = .ok (.iastore, 1) := by decide +kernel
theorem dX4_fork_149 : decode cX4_fork 149 = .ok (.aload_n 0, 1) := by decide +kernel
theorem dX4_fork_150 : decode cX4_fork 150 = .ok (.getfield 7, 3) := by decide +kernel
theorem dX4_fork_153 : decode cX4_fork 153 = .ok (.iload_n 2, 1) := by decide +kernel
theorem dX4_fork_154 : decode cX4_fork 154 = .ok (.invokestatic 60, 3) := by decide +kernel
theorem dX4_fork_157 : decode cX4_fork 157 = .ok (.iconst 0, 1) := by decide +kernel
theorem dX4_fork_158 : decode cX4_fork 158 = .ok (.iadd, 1) := by decide +kernel
theorem dX4_fork_159 : decode cX4_fork 159 = .ok (.iload_n 3, 1) := by decide +kernel
theorem dX4_fork_160 : decode cX4_fork 160 = .ok (.iload 4, 2) := by decide +kernel
theorem dX4_fork_162 : decode cX4_fork 162 = .ok (.iconst (-1), 1) := by decide +kernel
theorem dX4_fork_163 : decode cX4_fork 163 = .ok (.ixor, 1) := by decide +kernel
theorem dX4_fork_164 : decode cX4_fork 164 = .ok (.iand, 1) := by decide +kernel
theorem dX4_fork_165 : decode cX4_fork 165 = .ok (.iastore, 1) := by decide +kernel
theorem dX4_fork_166 : decode cX4_fork 166 = .ok (.aload_n 0, 1) := by decide +kernel
theorem dX4_fork_167 : decode cX4_fork 167 = .ok (.getfield 7, 3) := by decide +kernel
theorem dX4_fork_170 : decode cX4_fork 170 = .ok (.iconst 0, 1) := by decide +kernel
theorem dX4_fork_171 : decode cX4_fork 171 = .ok (.dup2, 1) := by decide +kernel
theorem dX4_fork_172 : decode cX4_fork 172 = .ok (.iaload, 1) := by decide +kernel
theorem dX4_fork_173 : decode cX4_fork 173 = .ok (.iconst 1, 1) := by decide +kernel
theorem dX4_fork_174 : decode cX4_fork 174 = .ok (.iload_n 2, 1) := by decide +kernel
theorem dX4_fork_175 : decode cX4_fork 175 = .ok (.ishl, 1) := by decide +kernel
theorem dX4_fork_176 : decode cX4_fork 176 = .ok (.ior, 1) := by decide +kernel
theorem dX4_fork_177 : decode cX4_fork 177 = .ok (.iastore, 1) := by decide +kernel
theorem dX4_fork_178 : decode cX4_fork 178 = .ok (.iload_n 2, 1) := by decide +kernel
theorem dX4_fork_179 : decode cX4_fork 179 = .ok (.ireturn, 1) := by decide +kernel
set_option maxRecDepth 20000 in
theorem ggX4_gather_X4_isHelper : GoodIn wsX4_gather wsX4_isHelper := goodIn_r _ [6, 1, 7, 8, 5, 9, 28, 29, 30, 31, 32, 33, 34, 35, 36, 37, 38, 39, 40] (by decide +kernel) (by decide +kernel)
set_option maxRecDepth 20000 in
theorem gX4_gather_X4_isHelper : GoodIn wsX4_gather (wsV RX4 53 RX4 yX4_isHelper wsX4_isHelper) := goodIn_app (goodIn_of _ (by decide +kernel)) ggX4_gather_X4_isHelper
set_option maxRecDepth 20000 in
theorem ggX4_gather_X4_record : GoodIn wsX4_gather wsX4_record := goodIn_r _ [13, 14, 15, 1, 16, 17, 5, 18, 28, 29, 30, 31, 32, 33, 34, 35, 36, 37, 38, 39, 40] (by decide +kernel) (by decide +kernel)
set_option maxRecDepth 20000 in
theorem gX4_gather_X4_record : GoodIn wsX4_gather (wsV RX4 92 RX4 yX4_record wsX4_record) := goodIn_app (goodIn_of _ (by decide +kernel)) ggX4_gather_X4_record
set_option maxRecDepth 20000 in
theorem ggX4_gather_X4_helperAt : GoodIn wsX4_gather wsX4_helperAt := goodIn_r _ [21] (by decide +kernel) (by decide +kernel)
set_option maxRecDepth 20000 in
theorem gX4_gather_X4_helperAt : GoodIn wsX4_gather (va_wsS RX4 60 yX4_helperAt wsX4_helperAt) := goodIn_app (goodIn_of _ (by decide +kernel)) ggX4_gather_X4_helperAt
set_option maxRecDepth 20000 in
theorem ggX4_gather_X4_takeOver : GoodIn wsX4_gather wsX4_takeOver := goodIn_r _ [24] (by decide +kernel) (by decide +kernel)
set_option maxRecDepth 20000 in
theorem gX4_gather_X4_takeOver : GoodIn wsX4_gather (va_wsS RX4 95 yX4_takeOver wsX4_takeOver) := goodIn_app (goodIn_of _ (by decide +kernel)) ggX4_gather_X4_takeOver
set_option maxRecDepth 20000 in
theorem ggX4_gather_X4_bits : GoodIn wsX4_gather wsX4_bits := goodIn_r _ [27] (by decide +kernel) (by decide +kernel)
set_option maxRecDepth 20000 in
theorem gX4_gather_X4_bits : GoodIn wsX4_gather (va_wsS RX4 67 yX4_bits wsX4_bits) := goodIn_app (goodIn_of _ (by decide +kernel)) ggX4_gather_X4_bits
theorem dX4_gather_0 : decode cX4_gather 0 = .ok (.aload_n 0, 1) := by decide +kernel
theorem dX4_gather_1 : decode cX4_gather 1 = .ok (.iload_n 1, 1) := by decide +kernel
theorem dX4_gather_2 : decode cX4_gather 2 = .ok (.invokevirtual 53, 3) := by decide +kernel
theorem dX4_gather_5 : decode cX4_gather 5 = .ok (.ifCond .eq 11, 3) := by decide +kernel
theorem dX4_gather_8 : decode cX4_gather 8 = .ok (.aload_n 0, 1) := by decide +kernel
theorem dX4_gather_9 : decode cX4_gather 9 = .ok (.iload_n 2, 1) := by decide +kernel
theorem dX4_gather_10 : decode cX4_gather 10 = .ok (.invokevirtual 53, 3) := by decide +kernel
theorem dX4_gather_13 : decode cX4_gather 13 = .ok (.ifCond .ne 5, 3) := by decide +kernel
theorem dX4_gather_16 : decode cX4_gather 16 = .ok (.iconst (-1), 1) := by decide +kernel
theorem dX4_gather_17 : decode cX4_gather 17 = .ok (.ireturn, 1) := by decide +kernel
theorem dX4_gather_18 : decode cX4_gather 18 = .ok (.iload_n 1, 1) := by decide +kernel
theorem dX4_gather_19 : decode cX4_gather 19 = .ok (.iload_n 2, 1) := by decide +kernel
theorem dX4_gather_20 : decode cX4_gather 20 = .ok (.if_icmp .ne 6, 3) := by decide +kernel
theorem dX4_gather_23 : decode cX4_gather 23 = .ok (.bipush (-2), 2) := by decide +kernel
theorem dX4_gather_25 : decode cX4_gather 25 = .ok (.ireturn, 1) := by decide +kernel
theorem dX4_gather_26 : decode cX4_gather 26 = .ok (.aload_n 0, 1) := by decide +kernel
theorem dX4_gather_27 : decode cX4_gather 27 = .ok (.invokevirtual 92, 3) := by decide +kernel
theorem dX4_gather_30 : decode cX4_gather 30 = .ok (.aload_n 0, 1) := by decide +kernel
theorem dX4_gather_31 : decode cX4_gather 31 = .ok (.getfield 7, 3) := by decide +kernel
theorem dX4_gather_34 : decode cX4_gather 34 = .ok (.iload_n 2, 1) := by decide +kernel
theorem dX4_gather_35 : decode cX4_gather 35 = .ok (.invokestatic 60, 3) := by decide +kernel
theorem dX4_gather_38 : decode cX4_gather 38 = .ok (.aload_n 0, 1) := by decide +kernel
theorem dX4_gather_39 : decode cX4_gather 39 = .ok (.getfield 7, 3) := by decide +kernel
theorem dX4_gather_42 : decode cX4_gather 42 = .ok (.iload_n 1, 1) := by decide +kernel
theorem dX4_gather_43 : decode cX4_gather 43 = .ok (.invokestatic 60, 3) := by decide +kernel
theorem dX4_gather_46 : decode cX4_gather 46 = .ok (.invokestatic 95, 3) := by decide +kernel
theorem dX4_gather_49 : decode cX4_gather 49 = .ok (.aload_n 0, 1) := by decide +kernel
theorem dX4_gather_50 : decode cX4_gather 50 = .ok (.getfield 7, 3) := by decide +kernel
theorem dX4_gather_53 : decode cX4_gather 53 = .ok (.iload_n 2, 1) := by decide +kernel
theorem dX4_gather_54 : decode cX4_gather 54 = .ok (.invokestatic 60, 3) := by decide +kernel
theorem dX4_gather_57 : decode cX4_gather 57 = .ok (.iconst 0, 1) := by decide +kernel
theorem dX4_gather_58 : decode cX4_gather 58 = .ok (.iadd, 1) := by decide +kernel
theorem dX4_gather_59 : decode cX4_gather 59 = .ok (.dup2, 1) := by decide +kernel
theorem dX4_gather_60 : decode cX4_gather 60 = .ok (.iaload, 1) := by decide +kernel
theorem dX4_gather_61 : decode cX4_gather 61 = .ok (.aload_n 0, 1) := by decide +kernel
theorem dX4_gather_62 : decode cX4_gather 62 = .ok (.getfield 7, 3) := by decide +kernel
theorem dX4_gather_65 : decode cX4_gather 65 = .ok (.iload_n 1, 1) := by decide +kernel
theorem dX4_gather_66 : decode cX4_gather 66 = .ok (.invokestatic 60, 3) := by decide +kernel
theorem dX4_gather_69 : decode cX4_gather 69 = .ok (.iconst 0, 1) := by decide +kernel
theorem dX4_gather_70 : decode cX4_gather 70 = .ok (.iadd, 1) := by decide +kernel
theorem dX4_gather_71 : decode cX4_gather 71 = .ok (.iaload, 1) := by decide +kernel
theorem dX4_gather_72 : decode cX4_gather 72 = .ok (.ior, 1) := by decide +kernel
theorem dX4_gather_73 : decode cX4_gather 73 = .ok (.iastore, 1) := by decide +kernel
theorem dX4_gather_74 : decode cX4_gather 74 = .ok (.iconst 0, 1) := by decide +kernel
theorem dX4_gather_75 : decode cX4_gather 75 = .ok (.istore_n 3, 1) := by decide +kernel
theorem dX4_gather_76 : decode cX4_gather 76 = .ok (.iload_n 3, 1) := by decide +kernel
theorem dX4_gather_77 : decode cX4_gather 77 = .ok (.bipush 21, 2) := by decide +kernel
theorem dX4_gather_79 : decode cX4_gather 79 = .ok (.if_icmp .ge 21, 3) := by decide +kernel
theorem dX4_gather_82 : decode cX4_gather 82 = .ok (.aload_n 0, 1) := by decide +kernel
theorem dX4_gather_83 : decode cX4_gather 83 = .ok (.getfield 7, 3) := by decide +kernel
theorem dX4_gather_86 : decode cX4_gather 86 = .ok (.iload_n 1, 1) := by decide +kernel
theorem dX4_gather_87 : decode cX4_gather 87 = .ok (.invokestatic 60, 3) := by decide +kernel
theorem dX4_gather_90 : decode cX4_gather 90 = .ok (.iload_n 3, 1) := by decide +kernel
theorem dX4_gather_91 : decode cX4_gather 91 = .ok (.iadd, 1) := by decide +kernel
theorem dX4_gather_92 : decode cX4_gather 92 = .ok (.iconst 0, 1) := by decide +kernel
theorem dX4_gather_93 : decode cX4_gather 93 = .ok (.iastore, 1) := by decide +kernel
theorem dX4_gather_94 : decode cX4_gather 94 = .ok (.iinc 3 1, 3) := by decide +kernel
theorem dX4_gather_97 : decode cX4_gather 97 = .ok (.goto (-21), 3) := by decide +kernel
theorem dX4_gather_100 : decode cX4_gather 100 = .ok (.aload_n 0, 1) := by decide +kernel
theorem dX4_gather_101 : decode cX4_gather 101 = .ok (.getfield 7, 3) := by decide +kernel
theorem dX4_gather_104 : decode cX4_gather 104 = .ok (.iconst 0, 1) := by decide +kernel
theorem dX4_gather_105 : decode cX4_gather 105 = .ok (.dup2, 1) := by decide +kernel
theorem dX4_gather_106 : decode cX4_gather 106 = .ok (.iaload, 1) := by decide +kernel
theorem dX4_gather_107 : decode cX4_gather 107 = .ok (.iconst 1, 1) := by decide +kernel
theorem dX4_gather_108 : decode cX4_gather 108 = .ok (.iload_n 1, 1) := by decide +kernel
theorem dX4_gather_109 : decode cX4_gather 109 = .ok (.ishl, 1) := by decide +kernel
theorem dX4_gather_110 : decode cX4_gather 110 = .ok (.iconst (-1), 1) := by decide +kernel
theorem dX4_gather_111 : decode cX4_gather 111 = .ok (.ixor, 1) := by decide +kernel
theorem dX4_gather_112 : decode cX4_gather 112 = .ok (.iand, 1) := by decide +kernel
theorem dX4_gather_113 : decode cX4_gather 113 = .ok (.iastore, 1) := by decide +kernel
theorem dX4_gather_114 : decode cX4_gather 114 = .ok (.aload_n 0, 1) := by decide +kernel
theorem dX4_gather_115 : decode cX4_gather 115 = .ok (.getfield 7, 3) := by decide +kernel
theorem dX4_gather_118 : decode cX4_gather 118 = .ok (.iload_n 2, 1) := by decide +kernel
theorem dX4_gather_119 : decode cX4_gather 119 = .ok (.invokestatic 60, 3) := by decide +kernel
theorem dX4_gather_122 : decode cX4_gather 122 = .ok (.iconst 0, 1) := by decide +kernel
theorem dX4_gather_123 : decode cX4_gather 123 = .ok (.iadd, 1) := by decide +kernel
theorem dX4_gather_124 : decode cX4_gather 124 = .ok (.iaload, 1) := by decide +kernel
theorem dX4_gather_125 : decode cX4_gather 125 = .ok (.invokestatic 67, 3) := by decide +kernel
theorem dX4_gather_128 : decode cX4_gather 128 = .ok (.ireturn, 1) := by decide +kernel
theorem dX4_learns_0 : decode cX4_learns 0 = .ok (.aload_n 0, 1) := by decide +kernel
theorem dX4_learns_1 : decode cX4_learns 1 = .ok (.iload_n 1, 1) := by decide +kernel
theorem dX4_learns_2 : decode cX4_learns 2 = .ok (.bipush 17, 2) := by decide +kernel
theorem dX4_learns_4 : decode cX4_learns 4 = .ok (.iadd, 1) := by decide +kernel
theorem dX4_learns_5 : decode cX4_learns 5 = .ok (.iload_n 2, 1) := by decide +kernel
theorem dX4_learns_6 : decode cX4_learns 6 = .ok (.bipush 30, 2) := by decide +kernel
theorem dX4_learns_8 : decode cX4_learns 8 = .ok (.idiv, 1) := by decide +kernel
theorem dX4_learns_9 : decode cX4_learns 9 = .ok (.iadd, 1) := by decide +kernel
theorem dX4_learns_10 : decode cX4_learns 10 = .ok (.dup2, 1) := by decide +kernel
theorem dX4_learns_11 : decode cX4_learns 11 = .ok (.iaload, 1) := by decide +kernel
theorem dX4_learns_12 : decode cX4_learns 12 = .ok (.iconst 1, 1) := by decide +kernel
theorem dX4_learns_13 : decode cX4_learns 13 = .ok (.iload_n 2, 1) := by decide +kernel
theorem dX4_learns_14 : decode cX4_learns 14 = .ok (.bipush 30, 2) := by decide +kernel
theorem dX4_learns_16 : decode cX4_learns 16 = .ok (.irem, 1) := by decide +kernel
theorem dX4_learns_17 : decode cX4_learns 17 = .ok (.ishl, 1) := by decide +kernel
theorem dX4_learns_18 : decode cX4_learns 18 = .ok (.ior, 1) := by decide +kernel
theorem dX4_learns_19 : decode cX4_learns 19 = .ok (.iastore, 1) := by decide +kernel
theorem dX4_learns_20 : decode cX4_learns 20 = .ok (.return_, 1) := by decide +kernel
set_option maxRecDepth 20000 in
theorem ggX4_happens_X4_helperAt : GoodIn wsX4_happens wsX4_helperAt := goodIn_r _ [5] (by decide +kernel) (by decide +kernel)
set_option maxRecDepth 20000 in
theorem gX4_happens_X4_helperAt : GoodIn wsX4_happens (va_wsS RX4 60 yX4_helperAt wsX4_helperAt) := goodIn_app (goodIn_of _ (by decide +kernel)) ggX4_happens_X4_helperAt
set_option maxRecDepth 20000 in
theorem ggX4_happens_X4_raise : GoodIn wsX4_happens wsX4_raise := goodIn_r _ [8, 9, 10, 4, 11] (by decide +kernel) (by decide +kernel)
set_option maxRecDepth 20000 in
theorem gX4_happens_X4_raise : GoodIn wsX4_happens (va_wsS RX4 99 yX4_raise wsX4_raise) := goodIn_app (goodIn_of _ (by decide +kernel)) ggX4_happens_X4_raise
set_option maxRecDepth 20000 in
theorem ggX4_happens_X4_learns : GoodIn wsX4_happens wsX4_learns := goodIn_r _ [14] (by decide +kernel) (by decide +kernel)
set_option maxRecDepth 20000 in
theorem gX4_happens_X4_learns : GoodIn wsX4_happens (va_wsS RX4 103 yX4_learns wsX4_learns) := goodIn_app (goodIn_of _ (by decide +kernel)) ggX4_happens_X4_learns
theorem dX4_happens_0 : decode cX4_happens 0 = .ok (.aload_n 0, 1) := by decide +kernel
theorem dX4_happens_1 : decode cX4_happens 1 = .ok (.getfield 7, 3) := by decide +kernel
theorem dX4_happens_4 : decode cX4_happens 4 = .ok (.iconst 2, 1) := by decide +kernel
theorem dX4_happens_5 : decode cX4_happens 5 = .ok (.iaload, 1) := by decide +kernel
theorem dX4_happens_6 : decode cX4_happens 6 = .ok (.istore_n 2, 1) := by decide +kernel
theorem dX4_happens_7 : decode cX4_happens 7 = .ok (.aload_n 0, 1) := by decide +kernel
theorem dX4_happens_8 : decode cX4_happens 8 = .ok (.getfield 7, 3) := by decide +kernel
theorem dX4_happens_11 : decode cX4_happens 11 = .ok (.iload_n 1, 1) := by decide +kernel
theorem dX4_happens_12 : decode cX4_happens 12 = .ok (.invokestatic 60, 3) := by decide +kernel
theorem dX4_happens_15 : decode cX4_happens 15 = .ok (.invokestatic 99, 3) := by decide +kernel
theorem dX4_happens_18 : decode cX4_happens 18 = .ok (.aload_n 0, 1) := by decide +kernel
theorem dX4_happens_19 : decode cX4_happens 19 = .ok (.getfield 7, 3) := by decide +kernel
theorem dX4_happens_22 : decode cX4_happens 22 = .ok (.iload_n 1, 1) := by decide +kernel
theorem dX4_happens_23 : decode cX4_happens 23 = .ok (.invokestatic 60, 3) := by decide +kernel
theorem dX4_happens_26 : decode cX4_happens 26 = .ok (.iload_n 2, 1) := by decide +kernel
theorem dX4_happens_27 : decode cX4_happens 27 = .ok (.invokestatic 103, 3) := by decide +kernel
theorem dX4_happens_30 : decode cX4_happens 30 = .ok (.aload_n 0, 1) := by decide +kernel
theorem dX4_happens_31 : decode cX4_happens 31 = .ok (.getfield 7, 3) := by decide +kernel
theorem dX4_happens_34 : decode cX4_happens 34 = .ok (.iconst 3, 1) := by decide +kernel
theorem dX4_happens_35 : decode cX4_happens 35 = .ok (.iload_n 2, 1) := by decide +kernel
theorem dX4_happens_36 : decode cX4_happens 36 = .ok (.iadd, 1) := by decide +kernel
theorem dX4_happens_37 : decode cX4_happens 37 = .ok (.iload_n 1, 1) := by decide +kernel
theorem dX4_happens_38 : decode cX4_happens 38 = .ok (.iastore, 1) := by decide +kernel
theorem dX4_happens_39 : decode cX4_happens 39 = .ok (.aload_n 0, 1) := by decide +kernel
theorem dX4_happens_40 : decode cX4_happens 40 = .ok (.getfield 7, 3) := by decide +kernel
theorem dX4_happens_43 : decode cX4_happens 43 = .ok (.iconst 2, 1) := by decide +kernel
theorem dX4_happens_44 : decode cX4_happens 44 = .ok (.dup2, 1) := by decide +kernel
theorem dX4_happens_45 : decode cX4_happens 45 = .ok (.iaload, 1) := by decide +kernel
theorem dX4_happens_46 : decode cX4_happens 46 = .ok (.iconst 1, 1) := by decide +kernel
theorem dX4_happens_47 : decode cX4_happens 47 = .ok (.iadd, 1) := by decide +kernel
theorem dX4_happens_48 : decode cX4_happens 48 = .ok (.iastore, 1) := by decide +kernel
theorem dX4_happens_49 : decode cX4_happens 49 = .ok (.iload_n 2, 1) := by decide +kernel
theorem dX4_happens_50 : decode cX4_happens 50 = .ok (.ireturn, 1) := by decide +kernel
set_option maxRecDepth 20000 in
theorem ggX4_event_X4_isHelper : GoodIn wsX4_event wsX4_isHelper := goodIn_r _ [6, 1, 7, 8, 5, 9, 35, 36, 37, 38, 39, 40, 41, 42, 43, 44, 45, 46, 47] (by decide +kernel) (by decide +kernel)
set_option maxRecDepth 20000 in
theorem gX4_event_X4_isHelper : GoodIn wsX4_event (wsV RX4 53 RX4 yX4_isHelper wsX4_isHelper) := goodIn_app (goodIn_of _ (by decide +kernel)) ggX4_event_X4_isHelper
set_option maxRecDepth 20000 in
theorem ggX4_event_X4_record : GoodIn wsX4_event wsX4_record := goodIn_r _ [13, 14, 15, 1, 16, 17, 5, 18, 35, 36, 37, 38, 39, 40, 41, 42, 43, 44, 45, 46, 47] (by decide +kernel) (by decide +kernel)
set_option maxRecDepth 20000 in
theorem gX4_event_X4_record : GoodIn wsX4_event (wsV RX4 92 RX4 yX4_record wsX4_record) := goodIn_app (goodIn_of _ (by decide +kernel)) ggX4_event_X4_record
set_option maxRecDepth 20000 in
theorem ggX4_event_X4_happens : GoodIn wsX4_event wsX4_happens := goodIn_r _ [22, 1, 23, 24, 5, 25, 26, 27, 28, 29, 30, 31, 32, 33, 34, 35, 36, 37, 38, 39, 40, 41, 42, 43, 44, 45, 46, 47] (by decide +kernel) (by decide +kernel)
set_option maxRecDepth 20000 in
theorem gX4_event_X4_happens : GoodIn wsX4_event (wsV RX4 107 RX4 yX4_happens wsX4_happens) := goodIn_app (goodIn_of _ (by decide +kernel)) ggX4_event_X4_happens
theorem dX4_event_0 : decode cX4_event 0 = .ok (.aload_n 0, 1) := by decide +kernel
theorem dX4_event_1 : decode cX4_event 1 = .ok (.iload_n 1, 1) := by decide +kernel
theorem dX4_event_2 : decode cX4_event 2 = .ok (.invokevirtual 53, 3) := by decide +kernel
theorem dX4_event_5 : decode cX4_event 5 = .ok (.ifCond .ne 5, 3) := by decide +kernel
theorem dX4_event_8 : decode cX4_event 8 = .ok (.iconst (-1), 1) := by decide +kernel
theorem dX4_event_9 : decode cX4_event 9 = .ok (.ireturn, 1) := by decide +kernel
theorem dX4_event_10 : decode cX4_event 10 = .ok (.aload_n 0, 1) := by decide +kernel
theorem dX4_event_11 : decode cX4_event 11 = .ok (.getfield 7, 3) := by decide +kernel
theorem dX4_event_14 : decode cX4_event 14 = .ok (.iconst 2, 1) := by decide +kernel
theorem dX4_event_15 : decode cX4_event 15 = .ok (.iaload, 1) := by decide +kernel
theorem dX4_event_16 : decode cX4_event 16 = .ok (.bipush 120, 2) := by decide +kernel
theorem dX4_event_18 : decode cX4_event 18 = .ok (.if_icmp .ne 6, 3) := by decide +kernel
theorem dX4_event_21 : decode cX4_event 21 = .ok (.bipush (-4), 2) := by decide +kernel
theorem dX4_event_23 : decode cX4_event 23 = .ok (.ireturn, 1) := by decide +kernel
theorem dX4_event_24 : decode cX4_event 24 = .ok (.aload_n 0, 1) := by decide +kernel
theorem dX4_event_25 : decode cX4_event 25 = .ok (.invokevirtual 92, 3) := by decide +kernel
theorem dX4_event_28 : decode cX4_event 28 = .ok (.aload_n 0, 1) := by decide +kernel
theorem dX4_event_29 : decode cX4_event 29 = .ok (.iload_n 1, 1) := by decide +kernel
theorem dX4_event_30 : decode cX4_event 30 = .ok (.invokevirtual 107, 3) := by decide +kernel
theorem dX4_event_33 : decode cX4_event 33 = .ok (.ireturn, 1) := by decide +kernel
set_option maxRecDepth 20000 in
theorem ggX4_send_X4_isHelper : GoodIn wsX4_send wsX4_isHelper := goodIn_r _ [6, 1, 7, 8, 5, 9, 25, 26, 27, 28, 29, 30, 31, 32, 33, 34, 35, 36, 37] (by decide +kernel) (by decide +kernel)
set_option maxRecDepth 20000 in
theorem gX4_send_X4_isHelper : GoodIn wsX4_send (wsV RX4 53 RX4 yX4_isHelper wsX4_isHelper) := goodIn_app (goodIn_of _ (by decide +kernel)) ggX4_send_X4_isHelper
set_option maxRecDepth 20000 in
theorem ggX4_send_X4_record : GoodIn wsX4_send wsX4_record := goodIn_r _ [13, 14, 15, 1, 16, 17, 5, 18, 25, 26, 27, 28, 29, 30, 31, 32, 33, 34, 35, 36, 37] (by decide +kernel) (by decide +kernel)
set_option maxRecDepth 20000 in
theorem gX4_send_X4_record : GoodIn wsX4_send (wsV RX4 92 RX4 yX4_record wsX4_record) := goodIn_app (goodIn_of _ (by decide +kernel)) ggX4_send_X4_record
set_option maxRecDepth 20000 in
theorem ggX4_send_X4_helperAt : GoodIn wsX4_send wsX4_helperAt := goodIn_r _ [21] (by decide +kernel) (by decide +kernel)
set_option maxRecDepth 20000 in
theorem gX4_send_X4_helperAt : GoodIn wsX4_send (va_wsS RX4 60 yX4_helperAt wsX4_helperAt) := goodIn_app (goodIn_of _ (by decide +kernel)) ggX4_send_X4_helperAt
set_option maxRecDepth 20000 in
theorem ggX4_send_X4_messageAt : GoodIn wsX4_send wsX4_messageAt := goodIn_r _ [24] (by decide +kernel) (by decide +kernel)
set_option maxRecDepth 20000 in
theorem gX4_send_X4_messageAt : GoodIn wsX4_send (va_wsS RX4 64 yX4_messageAt wsX4_messageAt) := goodIn_app (goodIn_of _ (by decide +kernel)) ggX4_send_X4_messageAt
set_option maxRecDepth 20000 in
theorem ggX4_send_X4_moves : GoodIn wsX4_send wsX4_moves := goodIn_r _ [18] (by decide +kernel) (by decide +kernel)
set_option maxRecDepth 20000 in
theorem gX4_send_X4_moves : GoodIn wsX4_send (va_wsS RX4 45 yX4_moves wsX4_moves) := goodIn_app (goodIn_of _ (by decide +kernel)) ggX4_send_X4_moves
theorem dX4_send_0 : decode cX4_send 0 = .ok (.aload_n 0, 1) := by decide +kernel
theorem dX4_send_1 : decode cX4_send 1 = .ok (.iload_n 1, 1) := by decide +kernel
theorem dX4_send_2 : decode cX4_send 2 = .ok (.invokevirtual 53, 3) := by decide +kernel
theorem dX4_send_5 : decode cX4_send 5 = .ok (.ifCond .ne 5, 3) := by decide +kernel
theorem dX4_send_8 : decode cX4_send 8 = .ok (.iconst (-1), 1) := by decide +kernel
theorem dX4_send_9 : decode cX4_send 9 = .ok (.ireturn, 1) := by decide +kernel
theorem dX4_send_10 : decode cX4_send 10 = .ok (.aload_n 0, 1) := by decide +kernel
theorem dX4_send_11 : decode cX4_send 11 = .ok (.getfield 7, 3) := by decide +kernel
theorem dX4_send_14 : decode cX4_send 14 = .ok (.iconst 1, 1) := by decide +kernel
theorem dX4_send_15 : decode cX4_send 15 = .ok (.iaload, 1) := by decide +kernel
theorem dX4_send_16 : decode cX4_send 16 = .ok (.bipush 8, 2) := by decide +kernel
theorem dX4_send_18 : decode cX4_send 18 = .ok (.if_icmp .ne 6, 3) := by decide +kernel
theorem dX4_send_21 : decode cX4_send 21 = .ok (.bipush (-4), 2) := by decide +kernel
theorem dX4_send_23 : decode cX4_send 23 = .ok (.ireturn, 1) := by decide +kernel
theorem dX4_send_24 : decode cX4_send 24 = .ok (.aload_n 0, 1) := by decide +kernel
theorem dX4_send_25 : decode cX4_send 25 = .ok (.invokevirtual 92, 3) := by decide +kernel
theorem dX4_send_28 : decode cX4_send 28 = .ok (.aload_n 0, 1) := by decide +kernel
theorem dX4_send_29 : decode cX4_send 29 = .ok (.getfield 7, 3) := by decide +kernel
theorem dX4_send_32 : decode cX4_send 32 = .ok (.iconst 1, 1) := by decide +kernel
theorem dX4_send_33 : decode cX4_send 33 = .ok (.iaload, 1) := by decide +kernel
theorem dX4_send_34 : decode cX4_send 34 = .ok (.istore_n 2, 1) := by decide +kernel
theorem dX4_send_35 : decode cX4_send 35 = .ok (.aload_n 0, 1) := by decide +kernel
theorem dX4_send_36 : decode cX4_send 36 = .ok (.getfield 7, 3) := by decide +kernel
theorem dX4_send_39 : decode cX4_send 39 = .ok (.iload_n 1, 1) := by decide +kernel
theorem dX4_send_40 : decode cX4_send 40 = .ok (.invokestatic 60, 3) := by decide +kernel
theorem dX4_send_43 : decode cX4_send 43 = .ok (.aload_n 0, 1) := by decide +kernel
theorem dX4_send_44 : decode cX4_send 44 = .ok (.getfield 7, 3) := by decide +kernel
theorem dX4_send_47 : decode cX4_send 47 = .ok (.iload_n 2, 1) := by decide +kernel
theorem dX4_send_48 : decode cX4_send 48 = .ok (.invokestatic 64, 3) := by decide +kernel
theorem dX4_send_51 : decode cX4_send 51 = .ok (.bipush 21, 2) := by decide +kernel
theorem dX4_send_53 : decode cX4_send 53 = .ok (.invokestatic 45, 3) := by decide +kernel
theorem dX4_send_56 : decode cX4_send 56 = .ok (.aload_n 0, 1) := by decide +kernel
theorem dX4_send_57 : decode cX4_send 57 = .ok (.getfield 7, 3) := by decide +kernel
theorem dX4_send_60 : decode cX4_send 60 = .ok (.iload_n 2, 1) := by decide +kernel
theorem dX4_send_61 : decode cX4_send 61 = .ok (.invokestatic 64, 3) := by decide +kernel
theorem dX4_send_64 : decode cX4_send 64 = .ok (.iconst 0, 1) := by decide +kernel
theorem dX4_send_65 : decode cX4_send 65 = .ok (.iadd, 1) := by decide +kernel
theorem dX4_send_66 : decode cX4_send 66 = .ok (.iload_n 1, 1) := by decide +kernel
theorem dX4_send_67 : decode cX4_send 67 = .ok (.iastore, 1) := by decide +kernel
theorem dX4_send_68 : decode cX4_send 68 = .ok (.aload_n 0, 1) := by decide +kernel
theorem dX4_send_69 : decode cX4_send 69 = .ok (.getfield 7, 3) := by decide +kernel
theorem dX4_send_72 : decode cX4_send 72 = .ok (.iconst 1, 1) := by decide +kernel
theorem dX4_send_73 : decode cX4_send 73 = .ok (.dup2, 1) := by decide +kernel
theorem dX4_send_74 : decode cX4_send 74 = .ok (.iaload, 1) := by decide +kernel
theorem dX4_send_75 : decode cX4_send 75 = .ok (.iconst 1, 1) := by decide +kernel
theorem dX4_send_76 : decode cX4_send 76 = .ok (.iadd, 1) := by decide +kernel
theorem dX4_send_77 : decode cX4_send 77 = .ok (.iastore, 1) := by decide +kernel
theorem dX4_send_78 : decode cX4_send 78 = .ok (.iload_n 2, 1) := by decide +kernel
theorem dX4_send_79 : decode cX4_send 79 = .ok (.ireturn, 1) := by decide +kernel
set_option maxRecDepth 20000 in
theorem ggX4_receive_X4_isHelper : GoodIn wsX4_receive wsX4_isHelper := goodIn_r _ [6, 1, 7, 8, 5, 9, 45, 46, 47, 48, 49, 50, 51, 52, 53, 54, 55, 56, 57] (by decide +kernel) (by decide +kernel)
set_option maxRecDepth 20000 in
theorem gX4_receive_X4_isHelper : GoodIn wsX4_receive (wsV RX4 53 RX4 yX4_isHelper wsX4_isHelper) := goodIn_app (goodIn_of _ (by decide +kernel)) ggX4_receive_X4_isHelper
set_option maxRecDepth 20000 in
theorem ggX4_receive_X4_isMessage : GoodIn wsX4_receive wsX4_isMessage := goodIn_r _ [13, 1, 7, 8, 5, 9, 45, 46, 47, 48, 49, 50, 51, 52, 53, 54, 55, 56, 57] (by decide +kernel) (by decide +kernel)
set_option maxRecDepth 20000 in
theorem gX4_receive_X4_isMessage : GoodIn wsX4_receive (wsV RX4 57 RX4 yX4_isMessage wsX4_isMessage) := goodIn_app (goodIn_of _ (by decide +kernel)) ggX4_receive_X4_isMessage
set_option maxRecDepth 20000 in
theorem ggX4_receive_X4_record : GoodIn wsX4_receive wsX4_record := goodIn_r _ [17, 18, 19, 1, 20, 21, 5, 22, 45, 46, 47, 48, 49, 50, 51, 52, 53, 54, 55, 56, 57] (by decide +kernel) (by decide +kernel)
set_option maxRecDepth 20000 in
theorem gX4_receive_X4_record : GoodIn wsX4_receive (wsV RX4 92 RX4 yX4_record wsX4_record) := goodIn_app (goodIn_of _ (by decide +kernel)) ggX4_receive_X4_record
set_option maxRecDepth 20000 in
theorem ggX4_receive_X4_helperAt : GoodIn wsX4_receive wsX4_helperAt := goodIn_r _ [25] (by decide +kernel) (by decide +kernel)
set_option maxRecDepth 20000 in
theorem gX4_receive_X4_helperAt : GoodIn wsX4_receive (va_wsS RX4 60 yX4_helperAt wsX4_helperAt) := goodIn_app (goodIn_of _ (by decide +kernel)) ggX4_receive_X4_helperAt
set_option maxRecDepth 20000 in
theorem ggX4_receive_X4_messageAt : GoodIn wsX4_receive wsX4_messageAt := goodIn_r _ [28] (by decide +kernel) (by decide +kernel)
set_option maxRecDepth 20000 in
theorem gX4_receive_X4_messageAt : GoodIn wsX4_receive (va_wsS RX4 64 yX4_messageAt wsX4_messageAt) := goodIn_app (goodIn_of _ (by decide +kernel)) ggX4_receive_X4_messageAt
set_option maxRecDepth 20000 in
theorem ggX4_receive_X4_takeOver : GoodIn wsX4_receive wsX4_takeOver := goodIn_r _ [31] (by decide +kernel) (by decide +kernel)
set_option maxRecDepth 20000 in
theorem gX4_receive_X4_takeOver : GoodIn wsX4_receive (va_wsS RX4 95 yX4_takeOver wsX4_takeOver) := goodIn_app (goodIn_of _ (by decide +kernel)) ggX4_receive_X4_takeOver
set_option maxRecDepth 20000 in
theorem ggX4_receive_X4_happens : GoodIn wsX4_receive wsX4_happens := goodIn_r _ [35, 1, 23, 24, 5, 25, 36, 37, 38, 39, 40, 41, 42, 43, 44, 45, 46, 47, 48, 49, 50, 51, 52, 53, 54, 55, 56, 57] (by decide +kernel) (by decide +kernel)
set_option maxRecDepth 20000 in
theorem gX4_receive_X4_happens : GoodIn wsX4_receive (wsV RX4 107 RX4 yX4_happens wsX4_happens) := goodIn_app (goodIn_of _ (by decide +kernel)) ggX4_receive_X4_happens
theorem dX4_receive_0 : decode cX4_receive 0 = .ok (.aload_n 0, 1) := by decide +kernel
theorem dX4_receive_1 : decode cX4_receive 1 = .ok (.iload_n 1, 1) := by decide +kernel
theorem dX4_receive_2 : decode cX4_receive 2 = .ok (.invokevirtual 53, 3) := by decide +kernel
theorem dX4_receive_5 : decode cX4_receive 5 = .ok (.ifCond .eq 11, 3) := by decide +kernel
theorem dX4_receive_8 : decode cX4_receive 8 = .ok (.aload_n 0, 1) := by decide +kernel
theorem dX4_receive_9 : decode cX4_receive 9 = .ok (.iload_n 2, 1) := by decide +kernel
theorem dX4_receive_10 : decode cX4_receive 10 = .ok (.invokevirtual 57, 3) := by decide +kernel
theorem dX4_receive_13 : decode cX4_receive 13 = .ok (.ifCond .ne 5, 3) := by decide +kernel
theorem dX4_receive_16 : decode cX4_receive 16 = .ok (.iconst (-1), 1) := by decide +kernel
theorem dX4_receive_17 : decode cX4_receive 17 = .ok (.ireturn, 1) := by decide +kernel
theorem dX4_receive_18 : decode cX4_receive 18 = .ok (.aload_n 0, 1) := by decide +kernel
theorem dX4_receive_19 : decode cX4_receive 19 = .ok (.getfield 7, 3) := by decide +kernel
theorem dX4_receive_22 : decode cX4_receive 22 = .ok (.iconst 2, 1) := by decide +kernel
theorem dX4_receive_23 : decode cX4_receive 23 = .ok (.iaload, 1) := by decide +kernel
theorem dX4_receive_24 : decode cX4_receive 24 = .ok (.bipush 120, 2) := by decide +kernel
theorem dX4_receive_26 : decode cX4_receive 26 = .ok (.if_icmp .ne 6, 3) := by decide +kernel
theorem dX4_receive_29 : decode cX4_receive 29 = .ok (.bipush (-4), 2) := by decide +kernel
theorem dX4_receive_31 : decode cX4_receive 31 = .ok (.ireturn, 1) := by decide +kernel
theorem dX4_receive_32 : decode cX4_receive 32 = .ok (.aload_n 0, 1) := by decide +kernel
theorem dX4_receive_33 : decode cX4_receive 33 = .ok (.invokevirtual 92, 3) := by decide +kernel
theorem dX4_receive_36 : decode cX4_receive 36 = .ok (.aload_n 0, 1) := by decide +kernel
theorem dX4_receive_37 : decode cX4_receive 37 = .ok (.getfield 7, 3) := by decide +kernel
theorem dX4_receive_40 : decode cX4_receive 40 = .ok (.iload_n 1, 1) := by decide +kernel
theorem dX4_receive_41 : decode cX4_receive 41 = .ok (.invokestatic 60, 3) := by decide +kernel
theorem dX4_receive_44 : decode cX4_receive 44 = .ok (.aload_n 0, 1) := by decide +kernel
theorem dX4_receive_45 : decode cX4_receive 45 = .ok (.getfield 7, 3) := by decide +kernel
theorem dX4_receive_48 : decode cX4_receive 48 = .ok (.iload_n 2, 1) := by decide +kernel
theorem dX4_receive_49 : decode cX4_receive 49 = .ok (.invokestatic 64, 3) := by decide +kernel
theorem dX4_receive_52 : decode cX4_receive 52 = .ok (.invokestatic 95, 3) := by decide +kernel
theorem dX4_receive_55 : decode cX4_receive 55 = .ok (.aload_n 0, 1) := by decide +kernel
theorem dX4_receive_56 : decode cX4_receive 56 = .ok (.iload_n 1, 1) := by decide +kernel
theorem dX4_receive_57 : decode cX4_receive 57 = .ok (.invokevirtual 107, 3) := by decide +kernel
theorem dX4_receive_60 : decode cX4_receive 60 = .ok (.ireturn, 1) := by decide +kernel
set_option maxRecDepth 20000 in
theorem ggX4_drop_X4_isMessage : GoodIn wsX4_drop wsX4_isMessage := goodIn_r _ [6, 1, 7, 8, 5, 9, 22, 23, 24, 25, 26, 27, 28, 29, 30, 31, 32, 33, 34] (by decide +kernel) (by decide +kernel)
set_option maxRecDepth 20000 in
theorem gX4_drop_X4_isMessage : GoodIn wsX4_drop (wsV RX4 57 RX4 yX4_isMessage wsX4_isMessage) := goodIn_app (goodIn_of _ (by decide +kernel)) ggX4_drop_X4_isMessage
set_option maxRecDepth 20000 in
theorem ggX4_drop_X4_record : GoodIn wsX4_drop wsX4_record := goodIn_r _ [13, 14, 15, 1, 16, 17, 5, 18, 22, 23, 24, 25, 26, 27, 28, 29, 30, 31, 32, 33, 34] (by decide +kernel) (by decide +kernel)
set_option maxRecDepth 20000 in
theorem gX4_drop_X4_record : GoodIn wsX4_drop (wsV RX4 92 RX4 yX4_record wsX4_record) := goodIn_app (goodIn_of _ (by decide +kernel)) ggX4_drop_X4_record
set_option maxRecDepth 20000 in
theorem ggX4_drop_X4_messageAt : GoodIn wsX4_drop wsX4_messageAt := goodIn_r _ [21] (by decide +kernel) (by decide +kernel)
set_option maxRecDepth 20000 in
theorem gX4_drop_X4_messageAt : GoodIn wsX4_drop (va_wsS RX4 64 yX4_messageAt wsX4_messageAt) := goodIn_app (goodIn_of _ (by decide +kernel)) ggX4_drop_X4_messageAt
theorem dX4_drop_0 : decode cX4_drop 0 = .ok (.aload_n 0, 1) := by decide +kernel
theorem dX4_drop_1 : decode cX4_drop 1 = .ok (.iload_n 1, 1) := by decide +kernel
theorem dX4_drop_2 : decode cX4_drop 2 = .ok (.invokevirtual 57, 3) := by decide +kernel
theorem dX4_drop_5 : decode cX4_drop 5 = .ok (.ifCond .ne 5, 3) := by decide +kernel
theorem dX4_drop_8 : decode cX4_drop 8 = .ok (.iconst (-1), 1) := by decide +kernel
theorem dX4_drop_9 : decode cX4_drop 9 = .ok (.ireturn, 1) := by decide +kernel
theorem dX4_drop_10 : decode cX4_drop 10 = .ok (.aload_n 0, 1) := by decide +kernel
theorem dX4_drop_11 : decode cX4_drop 11 = .ok (.invokevirtual 92, 3) := by decide +kernel
theorem dX4_drop_14 : decode cX4_drop 14 = .ok (.iload_n 1, 1) := by decide +kernel
theorem dX4_drop_15 : decode cX4_drop 15 = .ok (.invokestatic 64, 3) := by decide +kernel
theorem dX4_drop_18 : decode cX4_drop 18 = .ok (.istore_n 2, 1) := by decide +kernel
theorem dX4_drop_19 : decode cX4_drop 19 = .ok (.iload_n 2, 1) := by decide +kernel
theorem dX4_drop_20 : decode cX4_drop 20 = .ok (.aload_n 0, 1) := by decide +kernel
theorem dX4_drop_21 : decode cX4_drop 21 = .ok (.getfield 7, 3) := by decide +kernel
theorem dX4_drop_24 : decode cX4_drop 24 = .ok (.iconst 1, 1) := by decide +kernel
theorem dX4_drop_25 : decode cX4_drop 25 = .ok (.iaload, 1) := by decide +kernel
theorem dX4_drop_26 : decode cX4_drop 26 = .ok (.iconst 1, 1) := by decide +kernel
theorem dX4_drop_27 : decode cX4_drop 27 = .ok (.isub, 1) := by decide +kernel
theorem dX4_drop_28 : decode cX4_drop 28 = .ok (.invokestatic 64, 3) := by decide +kernel
theorem dX4_drop_31 : decode cX4_drop 31 = .ok (.if_icmp .ge 24, 3) := by decide +kernel
theorem dX4_drop_34 : decode cX4_drop 34 = .ok (.aload_n 0, 1) := by decide +kernel
theorem dX4_drop_35 : decode cX4_drop 35 = .ok (.getfield 7, 3) := by decide +kernel
theorem dX4_drop_38 : decode cX4_drop 38 = .ok (.iload_n 2, 1) := by decide +kernel
theorem dX4_drop_39 : decode cX4_drop 39 = .ok (.aload_n 0, 1) := by decide +kernel
theorem dX4_drop_40 : decode cX4_drop 40 = .ok (.getfield 7, 3) := by decide +kernel
theorem dX4_drop_43 : decode cX4_drop 43 = .ok (.iload_n 2, 1) := by decide +kernel
theorem dX4_drop_44 : decode cX4_drop 44 = .ok (.bipush 21, 2) := by decide +kernel
theorem dX4_drop_46 : decode cX4_drop 46 = .ok (.iadd, 1) := by decide +kernel
theorem dX4_drop_47 : decode cX4_drop 47 = .ok (.iaload, 1) := by decide +kernel
theorem dX4_drop_48 : decode cX4_drop 48 = .ok (.iastore, 1) := by decide +kernel
theorem dX4_drop_49 : decode cX4_drop 49 = .ok (.iinc 2 1, 3) := by decide +kernel
theorem dX4_drop_52 : decode cX4_drop 52 = .ok (.goto (-33), 3) := by decide +kernel
theorem dX4_drop_55 : decode cX4_drop 55 = .ok (.aload_n 0, 1) := by decide +kernel
theorem dX4_drop_56 : decode cX4_drop 56 = .ok (.getfield 7, 3) := by decide +kernel
theorem dX4_drop_59 : decode cX4_drop 59 = .ok (.iconst 1, 1) := by decide +kernel
theorem dX4_drop_60 : decode cX4_drop 60 = .ok (.dup2, 1) := by decide +kernel
theorem dX4_drop_61 : decode cX4_drop 61 = .ok (.iaload, 1) := by decide +kernel
theorem dX4_drop_62 : decode cX4_drop 62 = .ok (.iconst 1, 1) := by decide +kernel
theorem dX4_drop_63 : decode cX4_drop 63 = .ok (.isub, 1) := by decide +kernel
theorem dX4_drop_64 : decode cX4_drop 64 = .ok (.iastore, 1) := by decide +kernel
theorem dX4_drop_65 : decode cX4_drop 65 = .ok (.aload_n 0, 1) := by decide +kernel
theorem dX4_drop_66 : decode cX4_drop 66 = .ok (.getfield 7, 3) := by decide +kernel
theorem dX4_drop_69 : decode cX4_drop 69 = .ok (.iconst 1, 1) := by decide +kernel
theorem dX4_drop_70 : decode cX4_drop 70 = .ok (.iaload, 1) := by decide +kernel
theorem dX4_drop_71 : decode cX4_drop 71 = .ok (.ireturn, 1) := by decide +kernel
theorem dX4_heights_0 : decode cX4_heights 0 = .ok (.iconst 0, 1) := by decide +kernel
theorem dX4_heights_1 : decode cX4_heights 1 = .ok (.istore_n 3, 1) := by decide +kernel
theorem dX4_heights_2 : decode cX4_heights 2 = .ok (.iconst 0, 1) := by decide +kernel
theorem dX4_heights_3 : decode cX4_heights 3 = .ok (.istore 4, 2) := by decide +kernel
theorem dX4_heights_5 : decode cX4_heights 5 = .ok (.iload_n 1, 1) := by decide +kernel
theorem dX4_heights_6 : decode cX4_heights 6 = .ok (.iconst 1, 1) := by decide +kernel
theorem dX4_heights_7 : decode cX4_heights 7 = .ok (.iadd, 1) := by decide +kernel
theorem dX4_heights_8 : decode cX4_heights 8 = .ok (.istore 5, 2) := by decide +kernel
theorem dX4_heights_10 : decode cX4_heights 10 = .ok (.iload 5, 2) := by decide +kernel
theorem dX4_heights_12 : decode cX4_heights 12 = .ok (.iload_n 1, 1) := by decide +kernel
theorem dX4_heights_13 : decode cX4_heights 13 = .ok (.iconst 1, 1) := by decide +kernel
theorem dX4_heights_14 : decode cX4_heights 14 = .ok (.iadd, 1) := by decide +kernel
theorem dX4_heights_15 : decode cX4_heights 15 = .ok (.bipush 16, 2) := by decide +kernel
theorem dX4_heights_17 : decode cX4_heights 17 = .ok (.iadd, 1) := by decide +kernel
theorem dX4_heights_18 : decode cX4_heights 18 = .ok (.if_icmp .ge 45, 3) := by decide +kernel
theorem dX4_heights_21 : decode cX4_heights 21 = .ok (.iload_n 3, 1) := by decide +kernel
theorem dX4_heights_22 : decode cX4_heights 22 = .ok (.aload_n 0, 1) := by decide +kernel
theorem dX4_heights_23 : decode cX4_heights 23 = .ok (.getfield 7, 3) := by decide +kernel
theorem dX4_heights_26 : decode cX4_heights 26 = .ok (.iload 5, 2) := by decide +kernel
theorem dX4_heights_28 : decode cX4_heights 28 = .ok (.iaload, 1) := by decide +kernel
theorem dX4_heights_29 : decode cX4_heights 29 = .ok (.iadd, 1) := by decide +kernel
theorem dX4_heights_30 : decode cX4_heights 30 = .ok (.istore_n 3, 1) := by decide +kernel
theorem dX4_heights_31 : decode cX4_heights 31 = .ok (.aload_n 0, 1) := by decide +kernel
theorem dX4_heights_32 : decode cX4_heights 32 = .ok (.getfield 7, 3) := by decide +kernel
theorem dX4_heights_35 : decode cX4_heights 35 = .ok (.iload 5, 2) := by decide +kernel
theorem dX4_heights_37 : decode cX4_heights 37 = .ok (.iaload, 1) := by decide +kernel
theorem dX4_heights_38 : decode cX4_heights 38 = .ok (.iload 4, 2) := by decide +kernel
theorem dX4_heights_40 : decode cX4_heights 40 = .ok (.if_icmp .le 13, 3) := by decide +kernel
theorem dX4_heights_43 : decode cX4_heights 43 = .ok (.aload_n 0, 1) := by decide +kernel
theorem dX4_heights_44 : decode cX4_heights 44 = .ok (.getfield 7, 3) := by decide +kernel
theorem dX4_heights_47 : decode cX4_heights 47 = .ok (.iload 5, 2) := by decide +kernel
theorem dX4_heights_49 : decode cX4_heights 49 = .ok (.iaload, 1) := by decide +kernel
theorem dX4_heights_50 : decode cX4_heights 50 = .ok (.goto 5, 3) := by decide +kernel
theorem dX4_heights_53 : decode cX4_heights 53 = .ok (.iload 4, 2) := by decide +kernel
theorem dX4_heights_55 : decode cX4_heights 55 = .ok (.istore 4, 2) := by decide +kernel
theorem dX4_heights_57 : decode cX4_heights 57 = .ok (.iinc 5 1, 3) := by decide +kernel
theorem dX4_heights_60 : decode cX4_heights 60 = .ok (.goto (-50), 3) := by decide +kernel
theorem dX4_heights_63 : decode cX4_heights 63 = .ok (.iload_n 2, 1) := by decide +kernel
theorem dX4_heights_64 : decode cX4_heights 64 = .ok (.ifCond .eq 7, 3) := by decide +kernel
theorem dX4_heights_67 : decode cX4_heights 67 = .ok (.iload_n 3, 1) := by decide +kernel
theorem dX4_heights_68 : decode cX4_heights 68 = .ok (.goto 5, 3) := by decide +kernel
theorem dX4_heights_71 : decode cX4_heights 71 = .ok (.iload 4, 2) := by decide +kernel
theorem dX4_heights_73 : decode cX4_heights 73 = .ok (.ireturn, 1) := by decide +kernel
theorem dX4_isKnown_0 : decode cX4_isKnown 0 = .ok (.aload_n 0, 1) := by decide +kernel
theorem dX4_isKnown_1 : decode cX4_isKnown 1 = .ok (.getfield 7, 3) := by decide +kernel
theorem dX4_isKnown_4 : decode cX4_isKnown 4 = .ok (.iload_n 1, 1) := by decide +kernel
theorem dX4_isKnown_5 : decode cX4_isKnown 5 = .ok (.bipush 17, 2) := by decide +kernel
theorem dX4_isKnown_7 : decode cX4_isKnown 7 = .ok (.iadd, 1) := by decide +kernel
theorem dX4_isKnown_8 : decode cX4_isKnown 8 = .ok (.iload_n 2, 1) := by decide +kernel
theorem dX4_isKnown_9 : decode cX4_isKnown 9 = .ok (.bipush 30, 2) := by decide +kernel
theorem dX4_isKnown_11 : decode cX4_isKnown 11 = .ok (.idiv, 1) := by decide +kernel
theorem dX4_isKnown_12 : decode cX4_isKnown 12 = .ok (.iadd, 1) := by decide +kernel
theorem dX4_isKnown_13 : decode cX4_isKnown 13 = .ok (.iaload, 1) := by decide +kernel
theorem dX4_isKnown_14 : decode cX4_isKnown 14 = .ok (.iload_n 2, 1) := by decide +kernel
theorem dX4_isKnown_15 : decode cX4_isKnown 15 = .ok (.bipush 30, 2) := by decide +kernel
theorem dX4_isKnown_17 : decode cX4_isKnown 17 = .ok (.irem, 1) := by decide +kernel
theorem dX4_isKnown_18 : decode cX4_isKnown 18 = .ok (.ishr, 1) := by decide +kernel
theorem dX4_isKnown_19 : decode cX4_isKnown 19 = .ok (.iconst 1, 1) := by decide +kernel
theorem dX4_isKnown_20 : decode cX4_isKnown 20 = .ok (.iand, 1) := by decide +kernel
theorem dX4_isKnown_21 : decode cX4_isKnown 21 = .ok (.iconst 1, 1) := by decide +kernel
theorem dX4_isKnown_22 : decode cX4_isKnown 22 = .ok (.if_icmp .ne 7, 3) := by decide +kernel
theorem dX4_isKnown_25 : decode cX4_isKnown 25 = .ok (.iconst 1, 1) := by decide +kernel
theorem dX4_isKnown_26 : decode cX4_isKnown 26 = .ok (.goto 4, 3) := by decide +kernel
theorem dX4_isKnown_29 : decode cX4_isKnown 29 = .ok (.iconst 0, 1) := by decide +kernel
theorem dX4_isKnown_30 : decode cX4_isKnown 30 = .ok (.ireturn, 1) := by decide +kernel
set_option maxRecDepth 20000 in
theorem ggX4_latestOf_X4_isKnown : GoodIn wsX4_latestOf wsX4_isKnown := goodIn_r _ [6, 1, 7, 8, 9, 10, 11, 12, 13, 14, 15, 16, 17, 18, 19] (by decide +kernel) (by decide +kernel)
set_option maxRecDepth 20000 in
theorem gX4_latestOf_X4_isKnown : GoodIn wsX4_latestOf (wsV RX4 110 RX4 yX4_isKnown wsX4_isKnown) := goodIn_app (goodIn_of _ (by decide +kernel)) ggX4_latestOf_X4_isKnown
theorem dX4_latestOf_0 : decode cX4_latestOf 0 = .ok (.bipush (-6), 2) := by decide +kernel
theorem dX4_latestOf_2 : decode cX4_latestOf 2 = .ok (.istore_n 2, 1) := by decide +kernel
theorem dX4_latestOf_3 : decode cX4_latestOf 3 = .ok (.iconst 0, 1) := by decide +kernel
theorem dX4_latestOf_4 : decode cX4_latestOf 4 = .ok (.istore_n 3, 1) := by decide +kernel
theorem dX4_latestOf_5 : decode cX4_latestOf 5 = .ok (.iload_n 3, 1) := by decide +kernel
theorem dX4_latestOf_6 : decode cX4_latestOf 6 = .ok (.aload_n 0, 1) := by decide +kernel
theorem dX4_latestOf_7 : decode cX4_latestOf 7 = .ok (.getfield 7, 3) := by decide +kernel
theorem dX4_latestOf_10 : decode cX4_latestOf 10 = .ok (.iconst 2, 1) := by decide +kernel
theorem dX4_latestOf_11 : decode cX4_latestOf 11 = .ok (.iaload, 1) := by decide +kernel
theorem dX4_latestOf_12 : decode cX4_latestOf 12 = .ok (.if_icmp .ge 24, 3) := by decide +kernel
theorem dX4_latestOf_15 : decode cX4_latestOf 15 = .ok (.aload_n 0, 1) := by decide +kernel
theorem dX4_latestOf_16 : decode cX4_latestOf 16 = .ok (.iload_n 1, 1) := by decide +kernel
theorem dX4_latestOf_17 : decode cX4_latestOf 17 = .ok (.iload_n 3, 1) := by decide +kernel
theorem dX4_latestOf_18 : decode cX4_latestOf 18 = .ok (.invokevirtual 110, 3) := by decide +kernel
theorem dX4_latestOf_21 : decode cX4_latestOf 21 = .ok (.ifCond .eq 7, 3) := by decide +kernel
theorem dX4_latestOf_24 : decode cX4_latestOf 24 = .ok (.iload_n 3, 1) := by decide +kernel
theorem dX4_latestOf_25 : decode cX4_latestOf 25 = .ok (.goto 4, 3) := by decide +kernel
theorem dX4_latestOf_28 : decode cX4_latestOf 28 = .ok (.iload_n 2, 1) := by decide +kernel
theorem dX4_latestOf_29 : decode cX4_latestOf 29 = .ok (.istore_n 2, 1) := by decide +kernel
theorem dX4_latestOf_30 : decode cX4_latestOf 30 = .ok (.iinc 3 1, 3) := by decide +kernel
theorem dX4_latestOf_33 : decode cX4_latestOf 33 = .ok (.goto (-28), 3) := by decide +kernel
theorem dX4_latestOf_36 : decode cX4_latestOf 36 = .ok (.iload_n 2, 1) := by decide +kernel
theorem dX4_latestOf_37 : decode cX4_latestOf 37 = .ok (.ireturn, 1) := by decide +kernel
set_option maxRecDepth 20000 in
theorem ggX4_of_X4_isHelper : GoodIn wsX4_of wsX4_isHelper := goodIn_r _ [7, 1, 8, 9, 6, 10, 51, 52, 53, 54, 55, 56, 57, 58, 59, 60, 61, 62, 63] (by decide +kernel) (by decide +kernel)
set_option maxRecDepth 20000 in
theorem gX4_of_X4_isHelper : GoodIn wsX4_of (wsV RX4 53 RX4 yX4_isHelper wsX4_isHelper) := goodIn_app (goodIn_of _ (by decide +kernel)) ggX4_of_X4_isHelper
set_option maxRecDepth 20000 in
theorem ggX4_of_X4_helperAt : GoodIn wsX4_of wsX4_helperAt := goodIn_r _ [13] (by decide +kernel) (by decide +kernel)
set_option maxRecDepth 20000 in
theorem gX4_of_X4_helperAt : GoodIn wsX4_of (va_wsS RX4 60 yX4_helperAt wsX4_helperAt) := goodIn_app (goodIn_of _ (by decide +kernel)) ggX4_of_X4_helperAt
set_option maxRecDepth 20000 in
theorem ggX4_of_X4_bits : GoodIn wsX4_of wsX4_bits := goodIn_r _ [16] (by decide +kernel) (by decide +kernel)
set_option maxRecDepth 20000 in
theorem gX4_of_X4_bits : GoodIn wsX4_of (va_wsS RX4 67 yX4_bits wsX4_bits) := goodIn_app (goodIn_of _ (by decide +kernel)) ggX4_of_X4_bits
set_option maxRecDepth 20000 in
theorem ggX4_of_X4_heights : GoodIn wsX4_of wsX4_heights := goodIn_r _ [20, 1, 51, 52, 53, 54, 55, 56, 57, 58, 59, 60, 61, 62, 63] (by decide +kernel) (by decide +kernel)
set_option maxRecDepth 20000 in
theorem gX4_of_X4_heights : GoodIn wsX4_of (wsV RX4 114 RX4 yX4_heights wsX4_heights) := goodIn_app (goodIn_of _ (by decide +kernel)) ggX4_of_X4_heights
set_option maxRecDepth 20000 in
theorem ggX4_of_X4_knownMany : GoodIn wsX4_of wsX4_knownMany := goodIn_r _ [23, 14, 15, 6, 16] (by decide +kernel) (by decide +kernel)
set_option maxRecDepth 20000 in
theorem gX4_of_X4_knownMany : GoodIn wsX4_of (va_wsS RX4 118 yX4_knownMany wsX4_knownMany) := goodIn_app (goodIn_of _ (by decide +kernel)) ggX4_of_X4_knownMany
set_option maxRecDepth 20000 in
theorem ggX4_of_X4_latestOf : GoodIn wsX4_of wsX4_latestOf := goodIn_r _ [27, 1, 28, 29, 30, 6, 31, 51, 52, 53, 54, 55, 56, 57, 58, 59, 60, 61, 62, 63] (by decide +kernel) (by decide +kernel)
set_option maxRecDepth 20000 in
theorem gX4_of_X4_latestOf : GoodIn wsX4_of (wsV RX4 122 RX4 yX4_latestOf wsX4_latestOf) := goodIn_app (goodIn_of _ (by decide +kernel)) ggX4_of_X4_latestOf
set_option maxRecDepth 20000 in
theorem ggX4_of_X4_knots : GoodIn wsX4_of wsX4_knots := goodIn_r _ [34, 35, 36, 6, 37] (by decide +kernel) (by decide +kernel)
set_option maxRecDepth 20000 in
theorem gX4_of_X4_knots : GoodIn wsX4_of (va_wsS RX4 125 yX4_knots wsX4_knots) := goodIn_app (goodIn_of _ (by decide +kernel)) ggX4_of_X4_knots
set_option maxRecDepth 20000 in
theorem ggX4_of_X4_print : GoodIn wsX4_of wsX4_print := goodIn_r _ [41, 2, 1, 35, 36, 6, 37, 42, 43, 44, 45, 46, 47, 48, 49, 50, 51, 52, 53, 54, 55, 56, 57, 58, 59, 60, 61, 62, 63] (by decide +kernel) (by decide +kernel)
set_option maxRecDepth 20000 in
theorem gX4_of_X4_print : GoodIn wsX4_of (wsV RX4 128 RX4 yX4_print wsX4_print) := goodIn_app (goodIn_of _ (by decide +kernel)) ggX4_of_X4_print
theorem dX4_of_0 : decode cX4_of 0 = .ok (.aload_n 0, 1) := by decide +kernel
theorem dX4_of_1 : decode cX4_of 1 = .ok (.iload_n 1, 1) := by decide +kernel
theorem dX4_of_2 : decode cX4_of 2 = .ok (.invokevirtual 53, 3) := by decide +kernel
theorem dX4_of_5 : decode cX4_of 5 = .ok (.ifCond .ne 5, 3) := by decide +kernel
theorem dX4_of_8 : decode cX4_of 8 = .ok (.iconst (-1), 1) := by decide +kernel
theorem dX4_of_9 : decode cX4_of 9 = .ok (.ireturn, 1) := by decide +kernel
theorem dX4_of_10 : decode cX4_of 10 = .ok (.iload_n 1, 1) := by decide +kernel
theorem dX4_of_11 : decode cX4_of 11 = .ok (.invokestatic 60, 3) := by decide +kernel
theorem dX4_of_14 : decode cX4_of 14 = .ok (.istore_n 3, 1) := by decide +kernel
theorem dX4_of_15 : decode cX4_of 15 = .ok (.iload_n 2, 1) := by decide +kernel
theorem dX4_of_16 : decode cX4_of 16 = .ok (.tableswitch 117 0 7 #[48, 57, 69, 76, 83, 92, 98, 107], 48) := by decide +kernel
theorem dX4_of_64 : decode cX4_of 64 = .ok (.aload_n 0, 1) := by decide +kernel
theorem dX4_of_65 : decode cX4_of 65 = .ok (.getfield 7, 3) := by decide +kernel
theorem dX4_of_68 : decode cX4_of 68 = .ok (.iload_n 3, 1) := by decide +kernel
theorem dX4_of_69 : decode cX4_of 69 = .ok (.iconst 0, 1) := by decide +kernel
theorem dX4_of_70 : decode cX4_of 70 = .ok (.iadd, 1) := by decide +kernel
theorem dX4_of_71 : decode cX4_of 71 = .ok (.iaload, 1) := by decide +kernel
theorem dX4_of_72 : decode cX4_of 72 = .ok (.ireturn, 1) := by decide +kernel
theorem dX4_of_73 : decode cX4_of 73 = .ok (.aload_n 0, 1) := by decide +kernel
theorem dX4_of_74 : decode cX4_of 74 = .ok (.getfield 7, 3) := by decide +kernel
theorem dX4_of_77 : decode cX4_of 77 = .ok (.iload_n 3, 1) := by decide +kernel
theorem dX4_of_78 : decode cX4_of 78 = .ok (.iconst 0, 1) := by decide +kernel
theorem dX4_of_79 : decode cX4_of 79 = .ok (.iadd, 1) := by decide +kernel
theorem dX4_of_80 : decode cX4_of 80 = .ok (.iaload, 1) := by decide +kernel
theorem dX4_of_81 : decode cX4_of 81 = .ok (.invokestatic 67, 3) := by decide +kernel
theorem dX4_of_84 : decode cX4_of 84 = .ok (.ireturn, 1) := by decide +kernel
theorem dX4_of_85 : decode cX4_of 85 = .ok (.aload_n 0, 1) := by decide +kernel
theorem dX4_of_86 : decode cX4_of 86 = .ok (.iload_n 3, 1) := by decide +kernel
theorem dX4_of_87 : decode cX4_of 87 = .ok (.iconst 0, 1) := by decide +kernel
theorem dX4_of_88 : decode cX4_of 88 = .ok (.invokevirtual 114, 3) := by decide +kernel
theorem dX4_of_91 : decode cX4_of 91 = .ok (.ireturn, 1) := by decide +kernel
theorem dX4_of_92 : decode cX4_of 92 = .ok (.aload_n 0, 1) := by decide +kernel
theorem dX4_of_93 : decode cX4_of 93 = .ok (.iload_n 3, 1) := by decide +kernel
theorem dX4_of_94 : decode cX4_of 94 = .ok (.iconst 1, 1) := by decide +kernel
theorem dX4_of_95 : decode cX4_of 95 = .ok (.invokevirtual 114, 3) := by decide +kernel
theorem dX4_of_98 : decode cX4_of 98 = .ok (.ireturn, 1) := by decide +kernel
theorem dX4_of_99 : decode cX4_of 99 = .ok (.aload_n 0, 1) := by decide +kernel
theorem dX4_of_100 : decode cX4_of 100 = .ok (.getfield 7, 3) := by decide +kernel
theorem dX4_of_103 : decode cX4_of 103 = .ok (.iload_n 3, 1) := by decide +kernel
theorem dX4_of_104 : decode cX4_of 104 = .ok (.invokestatic 118, 3) := by decide +kernel
theorem dX4_of_107 : decode cX4_of 107 = .ok (.ireturn, 1) := by decide +kernel
theorem dX4_of_108 : decode cX4_of 108 = .ok (.aload_n 0, 1) := by decide +kernel
theorem dX4_of_109 : decode cX4_of 109 = .ok (.iload_n 3, 1) := by decide +kernel
theorem dX4_of_110 : decode cX4_of 110 = .ok (.invokevirtual 122, 3) := by decide +kernel
theorem dX4_of_113 : decode cX4_of 113 = .ok (.ireturn, 1) := by decide +kernel
theorem dX4_of_114 : decode cX4_of 114 = .ok (.aload_n 0, 1) := by decide +kernel
theorem dX4_of_115 : decode cX4_of 115 = .ok (.getfield 7, 3) := by decide +kernel
theorem dX4_of_118 : decode cX4_of 118 = .ok (.iload_n 3, 1) := by decide +kernel
theorem dX4_of_119 : decode cX4_of 119 = .ok (.invokestatic 125, 3) := by decide +kernel
theorem dX4_of_122 : decode cX4_of 122 = .ok (.ireturn, 1) := by decide +kernel
theorem dX4_of_123 : decode cX4_of 123 = .ok (.aload_n 0, 1) := by decide +kernel
theorem dX4_of_124 : decode cX4_of 124 = .ok (.iload_n 3, 1) := by decide +kernel
theorem dX4_of_125 : decode cX4_of 125 = .ok (.invokevirtual 128, 3) := by decide +kernel
theorem dX4_of_128 : decode cX4_of 128 = .ok (.aload_n 0, 1) := by decide +kernel
theorem dX4_of_129 : decode cX4_of 129 = .ok (.getfield 78, 3) := by decide +kernel
theorem dX4_of_132 : decode cX4_of 132 = .ok (.ireturn, 1) := by decide +kernel
theorem dX4_of_133 : decode cX4_of 133 = .ok (.bipush (-2), 2) := by decide +kernel
theorem dX4_of_135 : decode cX4_of 135 = .ok (.ireturn, 1) := by decide +kernel
set_option maxRecDepth 20000 in
theorem ggX4_ofMessage_X4_isMessage : GoodIn wsX4_ofMessage wsX4_isMessage := goodIn_r _ [6, 1, 7, 8, 5, 9, 29, 30, 31, 32, 33, 34, 35, 36, 37, 38, 39, 40, 41] (by decide +kernel) (by decide +kernel)
set_option maxRecDepth 20000 in
theorem gX4_ofMessage_X4_isMessage : GoodIn wsX4_ofMessage (wsV RX4 57 RX4 yX4_isMessage wsX4_isMessage) := goodIn_app (goodIn_of _ (by decide +kernel)) ggX4_ofMessage_X4_isMessage
set_option maxRecDepth 20000 in
theorem ggX4_ofMessage_X4_messageAt : GoodIn wsX4_ofMessage wsX4_messageAt := goodIn_r _ [12] (by decide +kernel) (by decide +kernel)
set_option maxRecDepth 20000 in
theorem gX4_ofMessage_X4_messageAt : GoodIn wsX4_ofMessage (va_wsS RX4 64 yX4_messageAt wsX4_messageAt) := goodIn_app (goodIn_of _ (by decide +kernel)) ggX4_ofMessage_X4_messageAt
set_option maxRecDepth 20000 in
theorem ggX4_ofMessage_X4_heights : GoodIn wsX4_ofMessage wsX4_heights := goodIn_r _ [16, 1, 29, 30, 31, 32, 33, 34, 35, 36, 37, 38, 39, 40, 41] (by decide +kernel) (by decide +kernel)
set_option maxRecDepth 20000 in
theorem gX4_ofMessage_X4_heights : GoodIn wsX4_ofMessage (wsV RX4 114 RX4 yX4_heights wsX4_heights) := goodIn_app (goodIn_of _ (by decide +kernel)) ggX4_ofMessage_X4_heights
set_option maxRecDepth 20000 in
theorem ggX4_ofMessage_X4_knownMany : GoodIn wsX4_ofMessage wsX4_knownMany := goodIn_r _ [19, 20, 21, 5, 22] (by decide +kernel) (by decide +kernel)
set_option maxRecDepth 20000 in
theorem gX4_ofMessage_X4_knownMany : GoodIn wsX4_ofMessage (va_wsS RX4 118 yX4_knownMany wsX4_knownMany) := goodIn_app (goodIn_of _ (by decide +kernel)) ggX4_ofMessage_X4_knownMany
set_option maxRecDepth 20000 in
theorem ggX4_ofMessage_X4_knots : GoodIn wsX4_ofMessage wsX4_knots := goodIn_r _ [25, 26, 27, 5, 28] (by decide +kernel) (by decide +kernel)
set_option maxRecDepth 20000 in
theorem gX4_ofMessage_X4_knots : GoodIn wsX4_ofMessage (va_wsS RX4 125 yX4_knots wsX4_knots) := goodIn_app (goodIn_of _ (by decide +kernel)) ggX4_ofMessage_X4_knots
theorem dX4_ofMessage_0 : decode cX4_ofMessage 0 = .ok (.aload_n 0, 1) := by decide +kernel
theorem dX4_ofMessage_1 : decode cX4_ofMessage 1 = .ok (.iload_n 1, 1) := by decide +kernel
theorem dX4_ofMessage_2 : decode cX4_ofMessage 2 = .ok (.invokevirtual 57, 3) := by decide +kernel
theorem dX4_ofMessage_5 : decode cX4_ofMessage 5 = .ok (.ifCond .ne 5, 3) := by decide +kernel
theorem dX4_ofMessage_8 : decode cX4_ofMessage 8 = .ok (.iconst (-1), 1) := by decide +kernel
theorem dX4_ofMessage_9 : decode cX4_ofMessage 9 = .ok (.ireturn, 1) := by decide +kernel
theorem dX4_ofMessage_10 : decode cX4_ofMessage 10 = .ok (.iload_n 1, 1) := by decide +kernel
theorem dX4_ofMessage_11 : decode cX4_ofMessage 11 = .ok (.invokestatic 64, 3) := by decide +kernel
theorem dX4_ofMessage_14 : decode cX4_ofMessage 14 = .ok (.istore_n 3, 1) := by decide +kernel
theorem dX4_ofMessage_15 : decode cX4_ofMessage 15 = .ok (.iload_n 2, 1) := by decide +kernel
theorem dX4_ofMessage_16 : decode cX4_ofMessage 16 = .ok (.tableswitch 66 0 3 #[32, 41, 48, 57], 32) := by decide +kernel
theorem dX4_ofMessage_48 : decode cX4_ofMessage 48 = .ok (.aload_n 0, 1) := by decide +kernel
theorem dX4_ofMessage_49 : decode cX4_ofMessage 49 = .ok (.getfield 7, 3) := by decide +kernel
theorem dX4_ofMessage_52 : decode cX4_ofMessage 52 = .ok (.iload_n 3, 1) := by decide +kernel
theorem dX4_ofMessage_53 : decode cX4_ofMessage 53 = .ok (.iconst 0, 1) := by decide +kernel
theorem dX4_ofMessage_54 : decode cX4_ofMessage 54 = .ok (.iadd, 1) := by decide +kernel
theorem dX4_ofMessage_55 : decode cX4_ofMessage 55 = .ok (.iaload, 1) := by decide +kernel
theorem dX4_ofMessage_56 : decode cX4_ofMessage 56 = .ok (.ireturn, 1) := by decide +kernel
theorem dX4_ofMessage_57 : decode cX4_ofMessage 57 = .ok (.aload_n 0, 1) := by decide +kernel
theorem dX4_ofMessage_58 : decode cX4_ofMessage 58 = .ok (.iload_n 3, 1) := by decide +kernel
theorem dX4_ofMessage_59 : decode cX4_ofMessage 59 = .ok (.iconst 1, 1) := by decide +kernel
theorem dX4_ofMessage_60 : decode cX4_ofMessage 60 = .ok (.invokevirtual 114, 3) := by decide +kernel
theorem dX4_ofMessage_63 : decode cX4_ofMessage 63 = .ok (.ireturn, 1) := by decide +kernel
theorem dX4_ofMessage_64 : decode cX4_ofMessage 64 = .ok (.aload_n 0, 1) := by decide +kernel
theorem dX4_ofMessage_65 : decode cX4_ofMessage 65 = .ok (.getfield 7, 3) := by decide +kernel
theorem dX4_ofMessage_68 : decode cX4_ofMessage 68 = .ok (.iload_n 3, 1) := by decide +kernel
theorem dX4_ofMessage_69 : decode cX4_ofMessage 69 = .ok (.invokestatic 118, 3) := by decide +kernel
theorem dX4_ofMessage_72 : decode cX4_ofMessage 72 = .ok (.ireturn, 1) := by decide +kernel
theorem dX4_ofMessage_73 : decode cX4_ofMessage 73 = .ok (.aload_n 0, 1) := by decide +kernel
theorem dX4_ofMessage_74 : decode cX4_ofMessage 74 = .ok (.getfield 7, 3) := by decide +kernel
theorem dX4_ofMessage_77 : decode cX4_ofMessage 77 = .ok (.iload_n 3, 1) := by decide +kernel
theorem dX4_ofMessage_78 : decode cX4_ofMessage 78 = .ok (.invokestatic 125, 3) := by decide +kernel
theorem dX4_ofMessage_81 : decode cX4_ofMessage 81 = .ok (.ireturn, 1) := by decide +kernel
theorem dX4_ofMessage_82 : decode cX4_ofMessage 82 = .ok (.bipush (-2), 2) := by decide +kernel
theorem dX4_ofMessage_84 : decode cX4_ofMessage 84 = .ok (.ireturn, 1) := by decide +kernel
set_option maxRecDepth 20000 in
theorem ggX4_height_X4_within : GoodIn wsX4_height wsX4_within := goodIn_r _ [5] (by decide +kernel) (by decide +kernel)
set_option maxRecDepth 20000 in
theorem gX4_height_X4_within : GoodIn wsX4_height (va_wsS RX4 49 yX4_within wsX4_within) := goodIn_app (goodIn_of _ (by decide +kernel)) ggX4_height_X4_within
set_option maxRecDepth 20000 in
theorem ggX4_height_X4_isThere : GoodIn wsX4_height wsX4_isThere := goodIn_r _ [9, 10, 11, 12, 4, 13, 1, 2, 3, 5, 14, 15, 16, 17, 27, 28, 29, 30, 31, 32, 33, 34, 35, 36, 37, 38, 39] (by decide +kernel) (by decide +kernel)
set_option maxRecDepth 20000 in
theorem gX4_height_X4_isThere : GoodIn wsX4_height (wsV RX4 131 RX4 yX4_isThere wsX4_isThere) := goodIn_app (goodIn_of _ (by decide +kernel)) ggX4_height_X4_isThere
set_option maxRecDepth 20000 in
theorem ggX4_height_X4_placeOf : GoodIn wsX4_height wsX4_placeOf := goodIn_r _ [20, 21, 22, 4, 23, 24, 25, 26] (by decide +kernel) (by decide +kernel)
set_option maxRecDepth 20000 in
theorem gX4_height_X4_placeOf : GoodIn wsX4_height (va_wsS RX4 134 yX4_placeOf wsX4_placeOf) := goodIn_app (goodIn_of _ (by decide +kernel)) ggX4_height_X4_placeOf
theorem dX4_height_0 : decode cX4_height 0 = .ok (.iload_n 1, 1) := by decide +kernel
theorem dX4_height_1 : decode cX4_height 1 = .ok (.iconst 0, 1) := by decide +kernel
theorem dX4_height_2 : decode cX4_height 2 = .ok (.iconst 1, 1) := by decide +kernel
theorem dX4_height_3 : decode cX4_height 3 = .ok (.invokestatic 49, 3) := by decide +kernel
theorem dX4_height_6 : decode cX4_height 6 = .ok (.ifCond .ne 6, 3) := by decide +kernel
theorem dX4_height_9 : decode cX4_height 9 = .ok (.bipush (-2), 2) := by decide +kernel
theorem dX4_height_11 : decode cX4_height 11 = .ok (.ireturn, 1) := by decide +kernel
theorem dX4_height_12 : decode cX4_height 12 = .ok (.aload_n 0, 1) := by decide +kernel
theorem dX4_height_13 : decode cX4_height 13 = .ok (.iload_n 1, 1) := by decide +kernel
theorem dX4_height_14 : decode cX4_height 14 = .ok (.iload_n 2, 1) := by decide +kernel
theorem dX4_height_15 : decode cX4_height 15 = .ok (.invokevirtual 131, 3) := by decide +kernel
theorem dX4_height_18 : decode cX4_height 18 = .ok (.ifCond .eq 30, 3) := by decide +kernel
theorem dX4_height_21 : decode cX4_height 21 = .ok (.iload_n 3, 1) := by decide +kernel
theorem dX4_height_22 : decode cX4_height 22 = .ok (.iconst 0, 1) := by decide +kernel
theorem dX4_height_23 : decode cX4_height 23 = .ok (.bipush 15, 2) := by decide +kernel
theorem dX4_height_25 : decode cX4_height 25 = .ok (.invokestatic 49, 3) := by decide +kernel
theorem dX4_height_28 : decode cX4_height 28 = .ok (.ifCond .eq 20, 3) := by decide +kernel
theorem dX4_height_31 : decode cX4_height 31 = .ok (.aload_n 0, 1) := by decide +kernel
theorem dX4_height_32 : decode cX4_height 32 = .ok (.getfield 7, 3) := by decide +kernel
theorem dX4_height_35 : decode cX4_height 35 = .ok (.iload_n 1, 1) := by decide +kernel
theorem dX4_height_36 : decode cX4_height 36 = .ok (.iload_n 2, 1) := by decide +kernel
theorem dX4_height_37 : decode cX4_height 37 = .ok (.invokestatic 134, 3) := by decide +kernel
theorem dX4_height_40 : decode cX4_height 40 = .ok (.iconst 1, 1) := by decide +kernel
theorem dX4_height_41 : decode cX4_height 41 = .ok (.iadd, 1) := by decide +kernel
theorem dX4_height_42 : decode cX4_height 42 = .ok (.iload_n 3, 1) := by decide +kernel
theorem dX4_height_43 : decode cX4_height 43 = .ok (.iadd, 1) := by decide +kernel
theorem dX4_height_44 : decode cX4_height 44 = .ok (.iaload, 1) := by decide +kernel
theorem dX4_height_45 : decode cX4_height 45 = .ok (.goto 4, 3) := by decide +kernel
theorem dX4_height_48 : decode cX4_height 48 = .ok (.iconst (-1), 1) := by decide +kernel
theorem dX4_height_49 : decode cX4_height 49 = .ok (.ireturn, 1) := by decide +kernel
set_option maxRecDepth 20000 in
theorem ggX4_knows_X4_within : GoodIn wsX4_knows wsX4_within := goodIn_r _ [5] (by decide +kernel) (by decide +kernel)
set_option maxRecDepth 20000 in
theorem gX4_knows_X4_within : GoodIn wsX4_knows (va_wsS RX4 49 yX4_within wsX4_within) := goodIn_app (goodIn_of _ (by decide +kernel)) ggX4_knows_X4_within
set_option maxRecDepth 20000 in
theorem ggX4_knows_X4_isThere : GoodIn wsX4_knows wsX4_isThere := goodIn_r _ [9, 10, 11, 12, 4, 13, 1, 2, 3, 5, 14, 15, 16, 17, 31, 32, 33, 34, 35, 36, 37, 38, 39, 40, 41, 42, 43] (by decide +kernel) (by decide +kernel)
set_option maxRecDepth 20000 in
theorem gX4_knows_X4_isThere : GoodIn wsX4_knows (wsV RX4 131 RX4 yX4_isThere wsX4_isThere) := goodIn_app (goodIn_of _ (by decide +kernel)) ggX4_knows_X4_isThere
set_option maxRecDepth 20000 in
theorem ggX4_knows_X4_placeOf : GoodIn wsX4_knows wsX4_placeOf := goodIn_r _ [20, 21, 22, 4, 23, 24, 25, 26] (by decide +kernel) (by decide +kernel)
set_option maxRecDepth 20000 in
theorem gX4_knows_X4_placeOf : GoodIn wsX4_knows (va_wsS RX4 134 yX4_placeOf wsX4_placeOf) := goodIn_app (goodIn_of _ (by decide +kernel)) ggX4_knows_X4_placeOf
set_option maxRecDepth 20000 in
theorem ggX4_knows_X4_isKnown : GoodIn wsX4_knows wsX4_isKnown := goodIn_r _ [30, 1, 31, 32, 33, 34, 35, 36, 37, 38, 39, 40, 41, 42, 43] (by decide +kernel) (by decide +kernel)
set_option maxRecDepth 20000 in
theorem gX4_knows_X4_isKnown : GoodIn wsX4_knows (wsV RX4 110 RX4 yX4_isKnown wsX4_isKnown) := goodIn_app (goodIn_of _ (by decide +kernel)) ggX4_knows_X4_isKnown
theorem dX4_knows_0 : decode cX4_knows 0 = .ok (.iload_n 1, 1) := by decide +kernel
theorem dX4_knows_1 : decode cX4_knows 1 = .ok (.iconst 0, 1) := by decide +kernel
theorem dX4_knows_2 : decode cX4_knows 2 = .ok (.iconst 1, 1) := by decide +kernel
theorem dX4_knows_3 : decode cX4_knows 3 = .ok (.invokestatic 49, 3) := by decide +kernel
theorem dX4_knows_6 : decode cX4_knows 6 = .ok (.ifCond .ne 6, 3) := by decide +kernel
theorem dX4_knows_9 : decode cX4_knows 9 = .ok (.bipush (-2), 2) := by decide +kernel
theorem dX4_knows_11 : decode cX4_knows 11 = .ok (.ireturn, 1) := by decide +kernel
theorem dX4_knows_12 : decode cX4_knows 12 = .ok (.aload_n 0, 1) := by decide +kernel
theorem dX4_knows_13 : decode cX4_knows 13 = .ok (.iload_n 1, 1) := by decide +kernel
theorem dX4_knows_14 : decode cX4_knows 14 = .ok (.iload_n 2, 1) := by decide +kernel
theorem dX4_knows_15 : decode cX4_knows 15 = .ok (.invokevirtual 131, 3) := by decide +kernel
theorem dX4_knows_18 : decode cX4_knows 18 = .ok (.ifCond .eq 19, 3) := by decide +kernel
theorem dX4_knows_21 : decode cX4_knows 21 = .ok (.iload_n 3, 1) := by decide +kernel
theorem dX4_knows_22 : decode cX4_knows 22 = .ok (.iconst 0, 1) := by decide +kernel
theorem dX4_knows_23 : decode cX4_knows 23 = .ok (.aload_n 0, 1) := by decide +kernel
theorem dX4_knows_24 : decode cX4_knows 24 = .ok (.getfield 7, 3) := by decide +kernel
theorem dX4_knows_27 : decode cX4_knows 27 = .ok (.iconst 2, 1) := by decide +kernel
theorem dX4_knows_28 : decode cX4_knows 28 = .ok (.iaload, 1) := by decide +kernel
theorem dX4_knows_29 : decode cX4_knows 29 = .ok (.iconst 1, 1) := by decide +kernel
theorem dX4_knows_30 : decode cX4_knows 30 = .ok (.isub, 1) := by decide +kernel
theorem dX4_knows_31 : decode cX4_knows 31 = .ok (.invokestatic 49, 3) := by decide +kernel
theorem dX4_knows_34 : decode cX4_knows 34 = .ok (.ifCond .ne 5, 3) := by decide +kernel
theorem dX4_knows_37 : decode cX4_knows 37 = .ok (.iconst (-1), 1) := by decide +kernel
theorem dX4_knows_38 : decode cX4_knows 38 = .ok (.ireturn, 1) := by decide +kernel
theorem dX4_knows_39 : decode cX4_knows 39 = .ok (.aload_n 0, 1) := by decide +kernel
theorem dX4_knows_40 : decode cX4_knows 40 = .ok (.iload_n 1, 1) := by decide +kernel
theorem dX4_knows_41 : decode cX4_knows 41 = .ok (.iload_n 2, 1) := by decide +kernel
theorem dX4_knows_42 : decode cX4_knows 42 = .ok (.invokestatic 134, 3) := by decide +kernel
theorem dX4_knows_45 : decode cX4_knows 45 = .ok (.iload_n 3, 1) := by decide +kernel
theorem dX4_knows_46 : decode cX4_knows 46 = .ok (.invokevirtual 110, 3) := by decide +kernel
theorem dX4_knows_49 : decode cX4_knows 49 = .ok (.ifCond .eq 7, 3) := by decide +kernel
theorem dX4_knows_52 : decode cX4_knows 52 = .ok (.iconst 1, 1) := by decide +kernel
theorem dX4_knows_53 : decode cX4_knows 53 = .ok (.goto 4, 3) := by decide +kernel
theorem dX4_knows_56 : decode cX4_knows 56 = .ok (.iconst 0, 1) := by decide +kernel
theorem dX4_knows_57 : decode cX4_knows 57 = .ok (.ireturn, 1) := by decide +kernel
set_option maxRecDepth 20000 in
theorem ggX4_orderOfHelpers_X4_helperAt : GoodIn wsX4_orderOfHelpers wsX4_helperAt := goodIn_r _ [5] (by decide +kernel) (by decide +kernel)
set_option maxRecDepth 20000 in
theorem gX4_orderOfHelpers_X4_helperAt : GoodIn wsX4_orderOfHelpers (va_wsS RX4 60 yX4_helperAt wsX4_helperAt) := goodIn_app (goodIn_of _ (by decide +kernel)) ggX4_orderOfHelpers_X4_helperAt
set_option maxRecDepth 20000 in
theorem ggX4_orderOfHelpers_X4_orderOf : GoodIn wsX4_orderOfHelpers wsX4_orderOf := goodIn_r _ [8] (by decide +kernel) (by decide +kernel)
set_option maxRecDepth 20000 in
theorem gX4_orderOfHelpers_X4_orderOf : GoodIn wsX4_orderOfHelpers (va_wsS RX4 138 yX4_orderOf wsX4_orderOf) := goodIn_app (goodIn_of _ (by decide +kernel)) ggX4_orderOfHelpers_X4_orderOf
theorem dX4_orderOfHelpers_0 : decode cX4_orderOfHelpers 0 = .ok (.aload_n 0, 1) := by decide +kernel
theorem dX4_orderOfHelpers_1 : decode cX4_orderOfHelpers 1 = .ok (.getfield 7, 3) := by decide +kernel
theorem dX4_orderOfHelpers_4 : decode cX4_orderOfHelpers 4 = .ok (.iload_n 1, 1) := by decide +kernel
theorem dX4_orderOfHelpers_5 : decode cX4_orderOfHelpers 5 = .ok (.invokestatic 60, 3) := by decide +kernel
theorem dX4_orderOfHelpers_8 : decode cX4_orderOfHelpers 8 = .ok (.aload_n 0, 1) := by decide +kernel
theorem dX4_orderOfHelpers_9 : decode cX4_orderOfHelpers 9 = .ok (.getfield 7, 3) := by decide +kernel
theorem dX4_orderOfHelpers_12 : decode cX4_orderOfHelpers 12 = .ok (.iload_n 2, 1) := by decide +kernel
theorem dX4_orderOfHelpers_13 : decode cX4_orderOfHelpers 13 = .ok (.invokestatic 60, 3) := by decide +kernel
theorem dX4_orderOfHelpers_16 : decode cX4_orderOfHelpers 16 = .ok (.invokestatic 138, 3) := by decide +kernel
theorem dX4_orderOfHelpers_19 : decode cX4_orderOfHelpers 19 = .ok (.ireturn, 1) := by decide +kernel
set_option maxRecDepth 20000 in
theorem ggX4_clashes_X4_isHelper : GoodIn wsX4_clashes wsX4_isHelper := goodIn_r _ [5, 6, 7, 8, 4, 9, 20, 21, 22, 23, 24, 25, 26, 27, 28, 29, 30, 31, 32] (by decide +kernel) (by decide +kernel)
set_option maxRecDepth 20000 in
theorem gX4_clashes_X4_isHelper : GoodIn wsX4_clashes (wsV RX4 53 RX4 yX4_isHelper wsX4_isHelper) := goodIn_app (goodIn_of _ (by decide +kernel)) ggX4_clashes_X4_isHelper
set_option maxRecDepth 20000 in
theorem ggX4_clashes_X4_orderOfHelpers : GoodIn wsX4_clashes wsX4_orderOfHelpers := goodIn_r _ [13, 6, 14, 15, 4, 16, 17, 18, 19, 20, 21, 22, 23, 24, 25, 26, 27, 28, 29, 30, 31, 32] (by decide +kernel) (by decide +kernel)
set_option maxRecDepth 20000 in
theorem gX4_clashes_X4_orderOfHelpers : GoodIn wsX4_clashes (wsV RX4 142 RX4 yX4_orderOfHelpers wsX4_orderOfHelpers) := goodIn_app (goodIn_of _ (by decide +kernel)) ggX4_clashes_X4_orderOfHelpers
theorem dX4_clashes_0 : decode cX4_clashes 0 = .ok (.iconst 0, 1) := by decide +kernel
theorem dX4_clashes_1 : decode cX4_clashes 1 = .ok (.istore_n 1, 1) := by decide +kernel
theorem dX4_clashes_2 : decode cX4_clashes 2 = .ok (.iconst 0, 1) := by decide +kernel
theorem dX4_clashes_3 : decode cX4_clashes 3 = .ok (.istore_n 2, 1) := by decide +kernel
theorem dX4_clashes_4 : decode cX4_clashes 4 = .ok (.iload_n 2, 1) := by decide +kernel
theorem dX4_clashes_5 : decode cX4_clashes 5 = .ok (.bipush 8, 2) := by decide +kernel
theorem dX4_clashes_7 : decode cX4_clashes 7 = .ok (.if_icmp .ge 59, 3) := by decide +kernel
theorem dX4_clashes_10 : decode cX4_clashes 10 = .ok (.iload_n 2, 1) := by decide +kernel
theorem dX4_clashes_11 : decode cX4_clashes 11 = .ok (.iconst 1, 1) := by decide +kernel
theorem dX4_clashes_12 : decode cX4_clashes 12 = .ok (.iadd, 1) := by decide +kernel
theorem dX4_clashes_13 : decode cX4_clashes 13 = .ok (.istore_n 3, 1) := by decide +kernel
theorem dX4_clashes_14 : decode cX4_clashes 14 = .ok (.iload_n 3, 1) := by decide +kernel
theorem dX4_clashes_15 : decode cX4_clashes 15 = .ok (.bipush 8, 2) := by decide +kernel
theorem dX4_clashes_17 : decode cX4_clashes 17 = .ok (.if_icmp .ge 43, 3) := by decide +kernel
theorem dX4_clashes_20 : decode cX4_clashes 20 = .ok (.iload_n 1, 1) := by decide +kernel
theorem dX4_clashes_21 : decode cX4_clashes 21 = .ok (.aload_n 0, 1) := by decide +kernel
theorem dX4_clashes_22 : decode cX4_clashes 22 = .ok (.iload_n 2, 1) := by decide +kernel
theorem dX4_clashes_23 : decode cX4_clashes 23 = .ok (.invokevirtual 53, 3) := by decide +kernel
theorem dX4_clashes_26 : decode cX4_clashes 26 = .ok (.ifCond .eq 25, 3) := by decide +kernel
theorem dX4_clashes_29 : decode cX4_clashes 29 = .ok (.aload_n 0, 1) := by decide +kernel
theorem dX4_clashes_30 : decode cX4_clashes 30 = .ok (.iload_n 3, 1) := by decide +kernel
theorem dX4_clashes_31 : decode cX4_clashes 31 = .ok (.invokevirtual 53, 3) := by decide +kernel
theorem dX4_clashes_34 : decode cX4_clashes 34 = .ok (.ifCond .eq 17, 3) := by decide +kernel
theorem dX4_clashes_37 : decode cX4_clashes 37 = .ok (.aload_n 0, 1) := by decide +kernel
theorem dX4_clashes_38 : decode cX4_clashes 38 = .ok (.iload_n 2, 1) := by decide +kernel
theorem dX4_clashes_39 : decode cX4_clashes 39 = .ok (.iload_n 3, 1) := by decide +kernel
theorem dX4_clashes_40 : decode cX4_clashes 40 = .ok (.invokevirtual 142, 3) := by decide +kernel
theorem dX4_clashes_43 : decode cX4_clashes 43 = .ok (.iconst 3, 1) := by decide +kernel
theorem dX4_clashes_44 : decode cX4_clashes 44 = .ok (.if_icmp .ne 7, 3) := by decide +kernel
theorem dX4_clashes_47 : decode cX4_clashes 47 = .ok (.iconst 1, 1) := by decide +kernel
theorem dX4_clashes_48 : decode cX4_clashes 48 = .ok (.goto 4, 3) := by decide +kernel
theorem dX4_clashes_51 : decode cX4_clashes 51 = .ok (.iconst 0, 1) := by decide +kernel
theorem dX4_clashes_52 : decode cX4_clashes 52 = .ok (.iadd, 1) := by decide +kernel
theorem dX4_clashes_53 : decode cX4_clashes 53 = .ok (.istore_n 1, 1) := by decide +kernel
theorem dX4_clashes_54 : decode cX4_clashes 54 = .ok (.iinc 3 1, 3) := by decide +kernel
theorem dX4_clashes_57 : decode cX4_clashes 57 = .ok (.goto (-43), 3) := by decide +kernel
theorem dX4_clashes_60 : decode cX4_clashes 60 = .ok (.iinc 2 1, 3) := by decide +kernel
theorem dX4_clashes_63 : decode cX4_clashes 63 = .ok (.goto (-59), 3) := by decide +kernel
theorem dX4_clashes_66 : decode cX4_clashes 66 = .ok (.iload_n 1, 1) := by decide +kernel
theorem dX4_clashes_67 : decode cX4_clashes 67 = .ok (.ireturn, 1) := by decide +kernel
set_option maxRecDepth 20000 in
theorem ggX4_allKnots_X4_isHelper : GoodIn wsX4_allKnots wsX4_isHelper := goodIn_r _ [6, 1, 7, 8, 5, 9, 19, 20, 21, 22, 23, 24, 25, 26, 27, 28, 29, 30, 31] (by decide +kernel) (by decide +kernel)
set_option maxRecDepth 20000 in
theorem gX4_allKnots_X4_isHelper : GoodIn wsX4_allKnots (wsV RX4 53 RX4 yX4_isHelper wsX4_isHelper) := goodIn_app (goodIn_of _ (by decide +kernel)) ggX4_allKnots_X4_isHelper
set_option maxRecDepth 20000 in
theorem ggX4_allKnots_X4_helperAt : GoodIn wsX4_allKnots wsX4_helperAt := goodIn_r _ [12] (by decide +kernel) (by decide +kernel)
set_option maxRecDepth 20000 in
theorem gX4_allKnots_X4_helperAt : GoodIn wsX4_allKnots (va_wsS RX4 60 yX4_helperAt wsX4_helperAt) := goodIn_app (goodIn_of _ (by decide +kernel)) ggX4_allKnots_X4_helperAt
set_option maxRecDepth 20000 in
theorem ggX4_allKnots_X4_knots : GoodIn wsX4_allKnots wsX4_knots := goodIn_r _ [15, 16, 17, 5, 18] (by decide +kernel) (by decide +kernel)
set_option maxRecDepth 20000 in
theorem gX4_allKnots_X4_knots : GoodIn wsX4_allKnots (va_wsS RX4 125 yX4_knots wsX4_knots) := goodIn_app (goodIn_of _ (by decide +kernel)) ggX4_allKnots_X4_knots
theorem dX4_allKnots_0 : decode cX4_allKnots 0 = .ok (.iconst 0, 1) := by decide +kernel
theorem dX4_allKnots_1 : decode cX4_allKnots 1 = .ok (.istore_n 1, 1) := by decide +kernel
theorem dX4_allKnots_2 : decode cX4_allKnots 2 = .ok (.iconst 0, 1) := by decide +kernel
theorem dX4_allKnots_3 : decode cX4_allKnots 3 = .ok (.istore_n 2, 1) := by decide +kernel
theorem dX4_allKnots_4 : decode cX4_allKnots 4 = .ok (.iload_n 2, 1) := by decide +kernel
theorem dX4_allKnots_5 : decode cX4_allKnots 5 = .ok (.bipush 8, 2) := by decide +kernel
theorem dX4_allKnots_7 : decode cX4_allKnots 7 = .ok (.if_icmp .ge 35, 3) := by decide +kernel
theorem dX4_allKnots_10 : decode cX4_allKnots 10 = .ok (.iload_n 1, 1) := by decide +kernel
theorem dX4_allKnots_11 : decode cX4_allKnots 11 = .ok (.aload_n 0, 1) := by decide +kernel
theorem dX4_allKnots_12 : decode cX4_allKnots 12 = .ok (.iload_n 2, 1) := by decide +kernel
theorem dX4_allKnots_13 : decode cX4_allKnots 13 = .ok (.invokevirtual 53, 3) := by decide +kernel
theorem dX4_allKnots_16 : decode cX4_allKnots 16 = .ok (.ifCond .eq 17, 3) := by decide +kernel
theorem dX4_allKnots_19 : decode cX4_allKnots 19 = .ok (.aload_n 0, 1) := by decide +kernel
theorem dX4_allKnots_20 : decode cX4_allKnots 20 = .ok (.getfield 7, 3) := by decide +kernel
theorem dX4_allKnots_23 : decode cX4_allKnots 23 = .ok (.iload_n 2, 1) := by decide +kernel
theorem dX4_allKnots_24 : decode cX4_allKnots 24 = .ok (.invokestatic 60, 3) := by decide +kernel
theorem dX4_allKnots_27 : decode cX4_allKnots 27 = .ok (.invokestatic 125, 3) := by decide +kernel
theorem dX4_allKnots_30 : decode cX4_allKnots 30 = .ok (.goto 4, 3) := by decide +kernel
theorem dX4_allKnots_33 : decode cX4_allKnots 33 = .ok (.iconst 0, 1) := by decide +kernel
theorem dX4_allKnots_34 : decode cX4_allKnots 34 = .ok (.iadd, 1) := by decide +kernel
theorem dX4_allKnots_35 : decode cX4_allKnots 35 = .ok (.istore_n 1, 1) := by decide +kernel
theorem dX4_allKnots_36 : decode cX4_allKnots 36 = .ok (.iinc 2 1, 3) := by decide +kernel
theorem dX4_allKnots_39 : decode cX4_allKnots 39 = .ok (.goto (-35), 3) := by decide +kernel
theorem dX4_allKnots_42 : decode cX4_allKnots 42 = .ok (.iload_n 1, 1) := by decide +kernel
theorem dX4_allKnots_43 : decode cX4_allKnots 43 = .ok (.ireturn, 1) := by decide +kernel
set_option maxRecDepth 20000 in
theorem ggX4_isAhead_X4_isHelper : GoodIn wsX4_isAhead wsX4_isHelper := goodIn_r _ [5, 6, 7, 8, 4, 9, 20, 21, 22, 23, 24, 25, 26, 27, 28, 29, 30, 31, 32] (by decide +kernel) (by decide +kernel)
set_option maxRecDepth 20000 in
theorem gX4_isAhead_X4_isHelper : GoodIn wsX4_isAhead (wsV RX4 53 RX4 yX4_isHelper wsX4_isHelper) := goodIn_app (goodIn_of _ (by decide +kernel)) ggX4_isAhead_X4_isHelper
set_option maxRecDepth 20000 in
theorem ggX4_isAhead_X4_orderOfHelpers : GoodIn wsX4_isAhead wsX4_orderOfHelpers := goodIn_r _ [13, 6, 14, 15, 4, 16, 17, 18, 19, 20, 21, 22, 23, 24, 25, 26, 27, 28, 29, 30, 31, 32] (by decide +kernel) (by decide +kernel)
set_option maxRecDepth 20000 in
theorem gX4_isAhead_X4_orderOfHelpers : GoodIn wsX4_isAhead (wsV RX4 142 RX4 yX4_orderOfHelpers wsX4_orderOfHelpers) := goodIn_app (goodIn_of _ (by decide +kernel)) ggX4_isAhead_X4_orderOfHelpers
theorem dX4_isAhead_0 : decode cX4_isAhead 0 = .ok (.aload_n 0, 1) := by decide +kernel
theorem dX4_isAhead_1 : decode cX4_isAhead 1 = .ok (.iload_n 1, 1) := by decide +kernel
theorem dX4_isAhead_2 : decode cX4_isAhead 2 = .ok (.invokevirtual 53, 3) := by decide +kernel
theorem dX4_isAhead_5 : decode cX4_isAhead 5 = .ok (.istore_n 2, 1) := by decide +kernel
theorem dX4_isAhead_6 : decode cX4_isAhead 6 = .ok (.iconst 0, 1) := by decide +kernel
theorem dX4_isAhead_7 : decode cX4_isAhead 7 = .ok (.istore_n 3, 1) := by decide +kernel
theorem dX4_isAhead_8 : decode cX4_isAhead 8 = .ok (.iload_n 3, 1) := by decide +kernel
theorem dX4_isAhead_9 : decode cX4_isAhead 9 = .ok (.bipush 8, 2) := by decide +kernel
theorem dX4_isAhead_11 : decode cX4_isAhead 11 = .ok (.if_icmp .ge 50, 3) := by decide +kernel
theorem dX4_isAhead_14 : decode cX4_isAhead 14 = .ok (.iload_n 2, 1) := by decide +kernel
theorem dX4_isAhead_15 : decode cX4_isAhead 15 = .ok (.ifCond .eq 46, 3) := by decide +kernel
theorem dX4_isAhead_18 : decode cX4_isAhead 18 = .ok (.aload_n 0, 1) := by decide +kernel
theorem dX4_isAhead_19 : decode cX4_isAhead 19 = .ok (.iload_n 3, 1) := by decide +kernel
theorem dX4_isAhead_20 : decode cX4_isAhead 20 = .ok (.invokevirtual 53, 3) := by decide +kernel
theorem dX4_isAhead_23 : decode cX4_isAhead 23 = .ok (.ifCond .eq 12, 3) := by decide +kernel
theorem dX4_isAhead_26 : decode cX4_isAhead 26 = .ok (.aload_n 0, 1) := by decide +kernel
theorem dX4_isAhead_27 : decode cX4_isAhead 27 = .ok (.iload_n 3, 1) := by decide +kernel
theorem dX4_isAhead_28 : decode cX4_isAhead 28 = .ok (.iload_n 1, 1) := by decide +kernel
theorem dX4_isAhead_29 : decode cX4_isAhead 29 = .ok (.invokevirtual 142, 3) := by decide +kernel
theorem dX4_isAhead_32 : decode cX4_isAhead 32 = .ok (.goto 4, 3) := by decide +kernel
theorem dX4_isAhead_35 : decode cX4_isAhead 35 = .ok (.iconst 0, 1) := by decide +kernel
theorem dX4_isAhead_36 : decode cX4_isAhead 36 = .ok (.istore 4, 2) := by decide +kernel
theorem dX4_isAhead_38 : decode cX4_isAhead 38 = .ok (.iload 4, 2) := by decide +kernel
theorem dX4_isAhead_40 : decode cX4_isAhead 40 = .ok (.ifCond .eq 9, 3) := by decide +kernel
theorem dX4_isAhead_43 : decode cX4_isAhead 43 = .ok (.iload 4, 2) := by decide +kernel
theorem dX4_isAhead_45 : decode cX4_isAhead 45 = .ok (.iconst 1, 1) := by decide +kernel
theorem dX4_isAhead_46 : decode cX4_isAhead 46 = .ok (.if_icmp .ne 7, 3) := by decide +kernel
theorem dX4_isAhead_49 : decode cX4_isAhead 49 = .ok (.iconst 1, 1) := by decide +kernel
theorem dX4_isAhead_50 : decode cX4_isAhead 50 = .ok (.goto 4, 3) := by decide +kernel
theorem dX4_isAhead_53 : decode cX4_isAhead 53 = .ok (.iconst 0, 1) := by decide +kernel
theorem dX4_isAhead_54 : decode cX4_isAhead 54 = .ok (.istore_n 2, 1) := by decide +kernel
theorem dX4_isAhead_55 : decode cX4_isAhead 55 = .ok (.iinc 3 1, 3) := by decide +kernel
theorem dX4_isAhead_58 : decode cX4_isAhead 58 = .ok (.goto (-50), 3) := by decide +kernel
theorem dX4_isAhead_61 : decode cX4_isAhead 61 = .ok (.iload_n 2, 1) := by decide +kernel
theorem dX4_isAhead_62 : decode cX4_isAhead 62 = .ok (.ireturn, 1) := by decide +kernel
set_option maxRecDepth 20000 in
theorem ggX4_leader_X4_isAhead : GoodIn wsX4_leader wsX4_isAhead := goodIn_r _ [5, 6, 7, 8, 4, 9, 10, 11, 12, 13, 14, 15, 16, 17, 18, 19, 20, 21, 22, 23, 24, 25, 26, 27, 28, 29, 30, 31, 32, 33, 34, 35, 36] (by decide +kernel) (by decide +kernel)
set_option maxRecDepth 20000 in
theorem gX4_leader_X4_isAhead : GoodIn wsX4_leader (wsV RX4 145 RX4 yX4_isAhead wsX4_isAhead) := goodIn_app (goodIn_of _ (by decide +kernel)) ggX4_leader_X4_isAhead
theorem dX4_leader_0 : decode cX4_leader 0 = .ok (.bipush (-6), 2) := by decide +kernel
theorem dX4_leader_2 : decode cX4_leader 2 = .ok (.istore_n 1, 1) := by decide +kernel
theorem dX4_leader_3 : decode cX4_leader 3 = .ok (.bipush 7, 2) := by decide +kernel
theorem dX4_leader_5 : decode cX4_leader 5 = .ok (.istore_n 2, 1) := by decide +kernel
theorem dX4_leader_6 : decode cX4_leader 6 = .ok (.iload_n 2, 1) := by decide +kernel
theorem dX4_leader_7 : decode cX4_leader 7 = .ok (.ifCond .lt 23, 3) := by decide +kernel
theorem dX4_leader_10 : decode cX4_leader 10 = .ok (.aload_n 0, 1) := by decide +kernel
theorem dX4_leader_11 : decode cX4_leader 11 = .ok (.iload_n 2, 1) := by decide +kernel
theorem dX4_leader_12 : decode cX4_leader 12 = .ok (.invokevirtual 145, 3) := by decide +kernel
theorem dX4_leader_15 : decode cX4_leader 15 = .ok (.ifCond .eq 7, 3) := by decide +kernel
theorem dX4_leader_18 : decode cX4_leader 18 = .ok (.iload_n 2, 1) := by decide +kernel
theorem dX4_leader_19 : decode cX4_leader 19 = .ok (.goto 4, 3) := by decide +kernel
theorem dX4_leader_22 : decode cX4_leader 22 = .ok (.iload_n 1, 1) := by decide +kernel
theorem dX4_leader_23 : decode cX4_leader 23 = .ok (.istore_n 1, 1) := by decide +kernel
theorem dX4_leader_24 : decode cX4_leader 24 = .ok (.iinc 2 (-1), 3) := by decide +kernel
theorem dX4_leader_27 : decode cX4_leader 27 = .ok (.goto (-21), 3) := by decide +kernel
theorem dX4_leader_30 : decode cX4_leader 30 = .ok (.iload_n 1, 1) := by decide +kernel
theorem dX4_leader_31 : decode cX4_leader 31 = .ok (.ireturn, 1) := by decide +kernel
set_option maxRecDepth 20000 in
theorem ggX4_count_X4_clashes : GoodIn wsX4_count wsX4_clashes := goodIn_r _ [8, 9, 10, 11, 7, 12, 1, 13, 14, 15, 16, 17, 18, 19, 20, 21, 22, 23, 24, 25, 44, 45, 46, 47, 48, 49, 50, 51, 52, 53, 54, 55, 56] (by decide +kernel) (by decide +kernel)
set_option maxRecDepth 20000 in
theorem gX4_count_X4_clashes : GoodIn wsX4_count (wsV RX4 148 RX4 yX4_clashes wsX4_clashes) := goodIn_app (goodIn_of _ (by decide +kernel)) ggX4_count_X4_clashes
set_option maxRecDepth 20000 in
theorem ggX4_count_X4_allKnots : GoodIn wsX4_count wsX4_allKnots := goodIn_r _ [29, 1, 9, 10, 11, 7, 12, 13, 14, 15, 20, 21, 22, 30, 31, 32, 33, 34, 35, 44, 45, 46, 47, 48, 49, 50, 51, 52, 53, 54, 55, 56] (by decide +kernel) (by decide +kernel)
set_option maxRecDepth 20000 in
theorem gX4_count_X4_allKnots : GoodIn wsX4_count (wsV RX4 151 RX4 yX4_allKnots wsX4_allKnots) := goodIn_app (goodIn_of _ (by decide +kernel)) ggX4_count_X4_allKnots
set_option maxRecDepth 20000 in
theorem ggX4_count_X4_leader : GoodIn wsX4_count wsX4_leader := goodIn_r _ [39, 40, 41, 42, 7, 43, 9, 10, 11, 12, 1, 13, 14, 15, 16, 17, 18, 19, 20, 21, 22, 23, 24, 25, 44, 45, 46, 47, 48, 49, 50, 51, 52, 53, 54, 55, 56] (by decide +kernel) (by decide +kernel)
set_option maxRecDepth 20000 in
theorem gX4_count_X4_leader : GoodIn wsX4_count (wsV RX4 154 RX4 yX4_leader wsX4_leader) := goodIn_app (goodIn_of _ (by decide +kernel)) ggX4_count_X4_leader
theorem dX4_count_0 : decode cX4_count 0 = .ok (.iload_n 1, 1) := by decide +kernel
theorem dX4_count_1 : decode cX4_count 1 = .ok (.tableswitch 93 0 7 #[47, 54, 61, 68, 73, 78, 83, 88], 47) := by decide +kernel
theorem dX4_count_48 : decode cX4_count 48 = .ok (.aload_n 0, 1) := by decide +kernel
theorem dX4_count_49 : decode cX4_count 49 = .ok (.getfield 7, 3) := by decide +kernel
theorem dX4_count_52 : decode cX4_count 52 = .ok (.iconst 0, 1) := by decide +kernel
theorem dX4_count_53 : decode cX4_count 53 = .ok (.iaload, 1) := by decide +kernel
theorem dX4_count_54 : decode cX4_count 54 = .ok (.ireturn, 1) := by decide +kernel
theorem dX4_count_55 : decode cX4_count 55 = .ok (.aload_n 0, 1) := by decide +kernel
theorem dX4_count_56 : decode cX4_count 56 = .ok (.getfield 7, 3) := by decide +kernel
theorem dX4_count_59 : decode cX4_count 59 = .ok (.iconst 1, 1) := by decide +kernel
theorem dX4_count_60 : decode cX4_count 60 = .ok (.iaload, 1) := by decide +kernel
theorem dX4_count_61 : decode cX4_count 61 = .ok (.ireturn, 1) := by decide +kernel
theorem dX4_count_62 : decode cX4_count 62 = .ok (.aload_n 0, 1) := by decide +kernel
theorem dX4_count_63 : decode cX4_count 63 = .ok (.getfield 7, 3) := by decide +kernel
theorem dX4_count_66 : decode cX4_count 66 = .ok (.iconst 2, 1) := by decide +kernel
theorem dX4_count_67 : decode cX4_count 67 = .ok (.iaload, 1) := by decide +kernel
theorem dX4_count_68 : decode cX4_count 68 = .ok (.ireturn, 1) := by decide +kernel
theorem dX4_count_69 : decode cX4_count 69 = .ok (.aload_n 0, 1) := by decide +kernel
theorem dX4_count_70 : decode cX4_count 70 = .ok (.invokevirtual 148, 3) := by decide +kernel
theorem dX4_count_73 : decode cX4_count 73 = .ok (.ireturn, 1) := by decide +kernel
theorem dX4_count_74 : decode cX4_count 74 = .ok (.aload_n 0, 1) := by decide +kernel
theorem dX4_count_75 : decode cX4_count 75 = .ok (.invokevirtual 151, 3) := by decide +kernel
theorem dX4_count_78 : decode cX4_count 78 = .ok (.ireturn, 1) := by decide +kernel
theorem dX4_count_79 : decode cX4_count 79 = .ok (.aload_n 0, 1) := by decide +kernel
theorem dX4_count_80 : decode cX4_count 80 = .ok (.invokevirtual 154, 3) := by decide +kernel
theorem dX4_count_83 : decode cX4_count 83 = .ok (.ireturn, 1) := by decide +kernel
theorem dX4_count_84 : decode cX4_count 84 = .ok (.aload_n 0, 1) := by decide +kernel
theorem dX4_count_85 : decode cX4_count 85 = .ok (.getfield 157, 3) := by decide +kernel
theorem dX4_count_88 : decode cX4_count 88 = .ok (.ireturn, 1) := by decide +kernel
theorem dX4_count_89 : decode cX4_count 89 = .ok (.aload_n 0, 1) := by decide +kernel
theorem dX4_count_90 : decode cX4_count 90 = .ok (.getfield 41, 3) := by decide +kernel
theorem dX4_count_93 : decode cX4_count 93 = .ok (.ireturn, 1) := by decide +kernel
theorem dX4_count_94 : decode cX4_count 94 = .ok (.bipush (-2), 2) := by decide +kernel
theorem dX4_count_96 : decode cX4_count 96 = .ok (.ireturn, 1) := by decide +kernel
set_option maxRecDepth 20000 in
theorem ggX4_whose_X4_within : GoodIn wsX4_whose wsX4_within := goodIn_r _ [5] (by decide +kernel) (by decide +kernel)
set_option maxRecDepth 20000 in
theorem gX4_whose_X4_within : GoodIn wsX4_whose (va_wsS RX4 49 yX4_within wsX4_within) := goodIn_app (goodIn_of _ (by decide +kernel)) ggX4_whose_X4_within
theorem dX4_whose_0 : decode cX4_whose 0 = .ok (.iload_n 1, 1) := by decide +kernel
theorem dX4_whose_1 : decode cX4_whose 1 = .ok (.iconst 0, 1) := by decide +kernel
theorem dX4_whose_2 : decode cX4_whose 2 = .ok (.aload_n 0, 1) := by decide +kernel
theorem dX4_whose_3 : decode cX4_whose 3 = .ok (.getfield 7, 3) := by decide +kernel
theorem dX4_whose_6 : decode cX4_whose 6 = .ok (.iconst 2, 1) := by decide +kernel
theorem dX4_whose_7 : decode cX4_whose 7 = .ok (.iaload, 1) := by decide +kernel
theorem dX4_whose_8 : decode cX4_whose 8 = .ok (.iconst 1, 1) := by decide +kernel
theorem dX4_whose_9 : decode cX4_whose 9 = .ok (.isub, 1) := by decide +kernel
theorem dX4_whose_10 : decode cX4_whose 10 = .ok (.invokestatic 49, 3) := by decide +kernel
theorem dX4_whose_13 : decode cX4_whose 13 = .ok (.ifCond .eq 14, 3) := by decide +kernel
theorem dX4_whose_16 : decode cX4_whose 16 = .ok (.aload_n 0, 1) := by decide +kernel
theorem dX4_whose_17 : decode cX4_whose 17 = .ok (.getfield 7, 3) := by decide +kernel
theorem dX4_whose_20 : decode cX4_whose 20 = .ok (.iconst 3, 1) := by decide +kernel
theorem dX4_whose_21 : decode cX4_whose 21 = .ok (.iload_n 1, 1) := by decide +kernel
theorem dX4_whose_22 : decode cX4_whose 22 = .ok (.iadd, 1) := by decide +kernel
theorem dX4_whose_23 : decode cX4_whose 23 = .ok (.iaload, 1) := by decide +kernel
theorem dX4_whose_24 : decode cX4_whose 24 = .ok (.goto 4, 3) := by decide +kernel
theorem dX4_whose_27 : decode cX4_whose 27 = .ok (.iconst (-1), 1) := by decide +kernel
theorem dX4_whose_28 : decode cX4_whose 28 = .ok (.ireturn, 1) := by decide +kernel
set_option maxRecDepth 20000 in
theorem ggX4_whyNoOrder_X4_within : GoodIn wsX4_whyNoOrder wsX4_within := goodIn_r _ [4] (by decide +kernel) (by decide +kernel)
set_option maxRecDepth 20000 in
theorem gX4_whyNoOrder_X4_within : GoodIn wsX4_whyNoOrder (va_wsS RX4 49 yX4_within wsX4_within) := goodIn_app (goodIn_of _ (by decide +kernel)) ggX4_whyNoOrder_X4_within
set_option maxRecDepth 20000 in
theorem ggX4_whyNoOrder_X4_isThere : GoodIn wsX4_whyNoOrder wsX4_isThere := goodIn_r _ [8, 9, 10, 11, 3, 12, 13, 1, 2, 4, 14, 15, 16, 17, 18, 19, 20, 21, 22, 23, 24, 25, 26, 27, 28, 29, 30] (by decide +kernel) (by decide +kernel)
set_option maxRecDepth 20000 in
theorem gX4_whyNoOrder_X4_isThere : GoodIn wsX4_whyNoOrder (wsV RX4 131 RX4 yX4_isThere wsX4_isThere) := goodIn_app (goodIn_of _ (by decide +kernel)) ggX4_whyNoOrder_X4_isThere
theorem dX4_whyNoOrder_0 : decode cX4_whyNoOrder 0 = .ok (.iload_n 1, 1) := by decide +kernel
theorem dX4_whyNoOrder_1 : decode cX4_whyNoOrder 1 = .ok (.iconst 0, 1) := by decide +kernel
theorem dX4_whyNoOrder_2 : decode cX4_whyNoOrder 2 = .ok (.iconst 1, 1) := by decide +kernel
theorem dX4_whyNoOrder_3 : decode cX4_whyNoOrder 3 = .ok (.invokestatic 49, 3) := by decide +kernel
theorem dX4_whyNoOrder_6 : decode cX4_whyNoOrder 6 = .ok (.ifCond .eq 12, 3) := by decide +kernel
theorem dX4_whyNoOrder_9 : decode cX4_whyNoOrder 9 = .ok (.iload_n 3, 1) := by decide +kernel
theorem dX4_whyNoOrder_10 : decode cX4_whyNoOrder 10 = .ok (.iconst 0, 1) := by decide +kernel
theorem dX4_whyNoOrder_11 : decode cX4_whyNoOrder 11 = .ok (.iconst 1, 1) := by decide +kernel
theorem dX4_whyNoOrder_12 : decode cX4_whyNoOrder 12 = .ok (.invokestatic 49, 3) := by decide +kernel
theorem dX4_whyNoOrder_15 : decode cX4_whyNoOrder 15 = .ok (.ifCond .ne 6, 3) := by decide +kernel
theorem dX4_whyNoOrder_18 : decode cX4_whyNoOrder 18 = .ok (.bipush (-2), 2) := by decide +kernel
theorem dX4_whyNoOrder_20 : decode cX4_whyNoOrder 20 = .ok (.ireturn, 1) := by decide +kernel
theorem dX4_whyNoOrder_21 : decode cX4_whyNoOrder 21 = .ok (.aload_n 0, 1) := by decide +kernel
theorem dX4_whyNoOrder_22 : decode cX4_whyNoOrder 22 = .ok (.iload_n 1, 1) := by decide +kernel
theorem dX4_whyNoOrder_23 : decode cX4_whyNoOrder 23 = .ok (.iload_n 2, 1) := by decide +kernel
theorem dX4_whyNoOrder_24 : decode cX4_whyNoOrder 24 = .ok (.invokevirtual 131, 3) := by decide +kernel
theorem dX4_whyNoOrder_27 : decode cX4_whyNoOrder 27 = .ok (.ifCond .eq 17, 3) := by decide +kernel
theorem dX4_whyNoOrder_30 : decode cX4_whyNoOrder 30 = .ok (.aload_n 0, 1) := by decide +kernel
theorem dX4_whyNoOrder_31 : decode cX4_whyNoOrder 31 = .ok (.iload_n 3, 1) := by decide +kernel
theorem dX4_whyNoOrder_32 : decode cX4_whyNoOrder 32 = .ok (.iload 4, 2) := by decide +kernel
theorem dX4_whyNoOrder_34 : decode cX4_whyNoOrder 34 = .ok (.invokevirtual 131, 3) := by decide +kernel
theorem dX4_whyNoOrder_37 : decode cX4_whyNoOrder 37 = .ok (.ifCond .eq 7, 3) := by decide +kernel
theorem dX4_whyNoOrder_40 : decode cX4_whyNoOrder 40 = .ok (.iconst 0, 1) := by decide +kernel
theorem dX4_whyNoOrder_41 : decode cX4_whyNoOrder 41 = .ok (.goto 4, 3) := by decide +kernel
theorem dX4_whyNoOrder_44 : decode cX4_whyNoOrder 44 = .ok (.iconst (-1), 1) := by decide +kernel
theorem dX4_whyNoOrder_45 : decode cX4_whyNoOrder 45 = .ok (.ireturn, 1) := by decide +kernel
set_option maxRecDepth 20000 in
theorem ggX4_order_X4_whyNoOrder : GoodIn wsX4_order wsX4_whyNoOrder := goodIn_r _ [6, 7, 8, 5, 9, 10, 11, 12, 13, 14, 15, 16, 17, 1, 18, 19, 20, 21, 34, 35, 36, 37, 38, 39, 40, 41, 42, 43, 44, 45, 46] (by decide +kernel) (by decide +kernel)
set_option maxRecDepth 20000 in
theorem gX4_order_X4_whyNoOrder : GoodIn wsX4_order (wsV RX4 160 RX4 yX4_whyNoOrder wsX4_whyNoOrder) := goodIn_app (goodIn_of _ (by decide +kernel)) ggX4_order_X4_whyNoOrder
set_option maxRecDepth 20000 in
theorem ggX4_order_X4_placeOf : GoodIn wsX4_order wsX4_placeOf := goodIn_r _ [24, 25, 26, 5, 27, 28, 29, 30] (by decide +kernel) (by decide +kernel)
set_option maxRecDepth 20000 in
theorem gX4_order_X4_placeOf : GoodIn wsX4_order (va_wsS RX4 134 yX4_placeOf wsX4_placeOf) := goodIn_app (goodIn_of _ (by decide +kernel)) ggX4_order_X4_placeOf
set_option maxRecDepth 20000 in
theorem ggX4_order_X4_orderOf : GoodIn wsX4_order wsX4_orderOf := goodIn_r _ [33] (by decide +kernel) (by decide +kernel)
set_option maxRecDepth 20000 in
theorem gX4_order_X4_orderOf : GoodIn wsX4_order (va_wsS RX4 138 yX4_orderOf wsX4_orderOf) := goodIn_app (goodIn_of _ (by decide +kernel)) ggX4_order_X4_orderOf
theorem dX4_order_0 : decode cX4_order 0 = .ok (.aload_n 0, 1) := by decide +kernel
theorem dX4_order_1 : decode cX4_order 1 = .ok (.iload_n 1, 1) := by decide +kernel
theorem dX4_order_2 : decode cX4_order 2 = .ok (.iload_n 2, 1) := by decide +kernel
theorem dX4_order_3 : decode cX4_order 3 = .ok (.iload_n 3, 1) := by decide +kernel
theorem dX4_order_4 : decode cX4_order 4 = .ok (.iload 4, 2) := by decide +kernel
theorem dX4_order_6 : decode cX4_order 6 = .ok (.invokevirtual 160, 3) := by decide +kernel
theorem dX4_order_9 : decode cX4_order 9 = .ok (.istore 5, 2) := by decide +kernel
theorem dX4_order_11 : decode cX4_order 11 = .ok (.iload 5, 2) := by decide +kernel
theorem dX4_order_13 : decode cX4_order 13 = .ok (.ifCond .ge 6, 3) := by decide +kernel
theorem dX4_order_16 : decode cX4_order 16 = .ok (.iload 5, 2) := by decide +kernel
theorem dX4_order_18 : decode cX4_order 18 = .ok (.ireturn, 1) := by decide +kernel
theorem dX4_order_19 : decode cX4_order 19 = .ok (.aload_n 0, 1) := by decide +kernel
theorem dX4_order_20 : decode cX4_order 20 = .ok (.getfield 7, 3) := by decide +kernel
theorem dX4_order_23 : decode cX4_order 23 = .ok (.iload_n 1, 1) := by decide +kernel
theorem dX4_order_24 : decode cX4_order 24 = .ok (.iload_n 2, 1) := by decide +kernel
theorem dX4_order_25 : decode cX4_order 25 = .ok (.invokestatic 134, 3) := by decide +kernel
theorem dX4_order_28 : decode cX4_order 28 = .ok (.aload_n 0, 1) := by decide +kernel
theorem dX4_order_29 : decode cX4_order 29 = .ok (.getfield 7, 3) := by decide +kernel
theorem dX4_order_32 : decode cX4_order 32 = .ok (.iload_n 3, 1) := by decide +kernel
theorem dX4_order_33 : decode cX4_order 33 = .ok (.iload 4, 2) := by decide +kernel
theorem dX4_order_35 : decode cX4_order 35 = .ok (.invokestatic 134, 3) := by decide +kernel
theorem dX4_order_38 : decode cX4_order 38 = .ok (.invokestatic 138, 3) := by decide +kernel
theorem dX4_order_41 : decode cX4_order 41 = .ok (.ireturn, 1) := by decide +kernel
set_option maxRecDepth 20000 in
theorem ggX4_more_X4_whyNoOrder : GoodIn wsX4_more wsX4_whyNoOrder := goodIn_r _ [6, 7, 8, 5, 9, 10, 11, 12, 13, 14, 15, 16, 17, 1, 18, 19, 20, 21, 34, 35, 36, 37, 38, 39, 40, 41, 42, 43, 44, 45, 46] (by decide +kernel) (by decide +kernel)
set_option maxRecDepth 20000 in
theorem gX4_more_X4_whyNoOrder : GoodIn wsX4_more (wsV RX4 160 RX4 yX4_whyNoOrder wsX4_whyNoOrder) := goodIn_app (goodIn_of _ (by decide +kernel)) ggX4_more_X4_whyNoOrder
set_option maxRecDepth 20000 in
theorem ggX4_more_X4_placeOf : GoodIn wsX4_more wsX4_placeOf := goodIn_r _ [24, 25, 26, 5, 27, 28, 29, 30] (by decide +kernel) (by decide +kernel)
set_option maxRecDepth 20000 in
theorem gX4_more_X4_placeOf : GoodIn wsX4_more (va_wsS RX4 134 yX4_placeOf wsX4_placeOf) := goodIn_app (goodIn_of _ (by decide +kernel)) ggX4_more_X4_placeOf
set_option maxRecDepth 20000 in
theorem ggX4_more_X4_bits : GoodIn wsX4_more wsX4_bits := goodIn_r _ [33] (by decide +kernel) (by decide +kernel)
set_option maxRecDepth 20000 in
theorem gX4_more_X4_bits : GoodIn wsX4_more (va_wsS RX4 67 yX4_bits wsX4_bits) := goodIn_app (goodIn_of _ (by decide +kernel)) ggX4_more_X4_bits
theorem dX4_more_0 : decode cX4_more 0 = .ok (.aload_n 0, 1) := by decide +kernel
theorem dX4_more_1 : decode cX4_more 1 = .ok (.iload_n 1, 1) := by decide +kernel
theorem dX4_more_2 : decode cX4_more 2 = .ok (.iload_n 2, 1) := by decide +kernel
theorem dX4_more_3 : decode cX4_more 3 = .ok (.iload_n 3, 1) := by decide +kernel
theorem dX4_more_4 : decode cX4_more 4 = .ok (.iload 4, 2) := by decide +kernel
theorem dX4_more_6 : decode cX4_more 6 = .ok (.invokevirtual 160, 3) := by decide +kernel
theorem dX4_more_9 : decode cX4_more 9 = .ok (.istore 5, 2) := by decide +kernel
theorem dX4_more_11 : decode cX4_more 11 = .ok (.iload 5, 2) := by decide +kernel
theorem dX4_more_13 : decode cX4_more 13 = .ok (.ifCond .ge 6, 3) := by decide +kernel
theorem dX4_more_16 : decode cX4_more 16 = .ok (.iload 5, 2) := by decide +kernel
theorem dX4_more_18 : decode cX4_more 18 = .ok (.ireturn, 1) := by decide +kernel
theorem dX4_more_19 : decode cX4_more 19 = .ok (.iload_n 1, 1) := by decide +kernel
theorem dX4_more_20 : decode cX4_more 20 = .ok (.iload_n 2, 1) := by decide +kernel
theorem dX4_more_21 : decode cX4_more 21 = .ok (.invokestatic 134, 3) := by decide +kernel
theorem dX4_more_24 : decode cX4_more 24 = .ok (.istore 6, 2) := by decide +kernel
theorem dX4_more_26 : decode cX4_more 26 = .ok (.iload_n 3, 1) := by decide +kernel
theorem dX4_more_27 : decode cX4_more 27 = .ok (.iload 4, 2) := by decide +kernel
theorem dX4_more_29 : decode cX4_more 29 = .ok (.invokestatic 134, 3) := by decide +kernel
theorem dX4_more_32 : decode cX4_more 32 = .ok (.istore 7, 2) := by decide +kernel
theorem dX4_more_34 : decode cX4_more 34 = .ok (.iconst 0, 1) := by decide +kernel
theorem dX4_more_35 : decode cX4_more 35 = .ok (.istore 8, 2) := by decide +kernel
theorem dX4_more_37 : decode cX4_more 37 = .ok (.bipush 17, 2) := by decide +kernel
theorem dX4_more_39 : decode cX4_more 39 = .ok (.istore 9, 2) := by decide +kernel
theorem dX4_more_41 : decode cX4_more 41 = .ok (.iload 9, 2) := by decide +kernel
theorem dX4_more_43 : decode cX4_more 43 = .ok (.bipush 21, 2) := by decide +kernel
theorem dX4_more_45 : decode cX4_more 45 = .ok (.if_icmp .ge 40, 3) := by decide +kernel
theorem dX4_more_48 : decode cX4_more 48 = .ok (.iload 8, 2) := by decide +kernel
theorem dX4_more_50 : decode cX4_more 50 = .ok (.aload_n 0, 1) := by decide +kernel
theorem dX4_more_51 : decode cX4_more 51 = .ok (.getfield 7, 3) := by decide +kernel
theorem dX4_more_54 : decode cX4_more 54 = .ok (.iload 6, 2) := by decide +kernel
theorem dX4_more_56 : decode cX4_more 56 = .ok (.iload 9, 2) := by decide +kernel
theorem dX4_more_58 : decode cX4_more 58 = .ok (.iadd, 1) := by decide +kernel
theorem dX4_more_59 : decode cX4_more 59 = .ok (.iaload, 1) := by decide +kernel
theorem dX4_more_60 : decode cX4_more 60 = .ok (.aload_n 0, 1) := by decide +kernel
theorem dX4_more_61 : decode cX4_more 61 = .ok (.getfield 7, 3) := by decide +kernel
theorem dX4_more_64 : decode cX4_more 64 = .ok (.iload 7, 2) := by decide +kernel
theorem dX4_more_66 : decode cX4_more 66 = .ok (.iload 9, 2) := by decide +kernel
theorem dX4_more_68 : decode cX4_more 68 = .ok (.iadd, 1) := by decide +kernel
theorem dX4_more_69 : decode cX4_more 69 = .ok (.iaload, 1) := by decide +kernel
theorem dX4_more_70 : decode cX4_more 70 = .ok (.iconst (-1), 1) := by decide +kernel
theorem dX4_more_71 : decode cX4_more 71 = .ok (.ixor, 1) := by decide +kernel
theorem dX4_more_72 : decode cX4_more 72 = .ok (.iand, 1) := by decide +kernel
theorem dX4_more_73 : decode cX4_more 73 = .ok (.invokestatic 67, 3) := by decide +kernel
theorem dX4_more_76 : decode cX4_more 76 = .ok (.iadd, 1) := by decide +kernel
theorem dX4_more_77 : decode cX4_more 77 = .ok (.istore 8, 2) := by decide +kernel
theorem dX4_more_79 : decode cX4_more 79 = .ok (.iinc 9 1, 3) := by decide +kernel
theorem dX4_more_82 : decode cX4_more 82 = .ok (.goto (-41), 3) := by decide +kernel
theorem dX4_more_85 : decode cX4_more 85 = .ok (.iload 8, 2) := by decide +kernel
theorem dX4_more_87 : decode cX4_more 87 = .ok (.ireturn, 1) := by decide +kernel
set_option maxRecDepth 20000 in
theorem ggX4_orderToPad_X4_isHelper : GoodIn wsX4_orderToPad wsX4_isHelper := goodIn_r _ [7, 1, 8, 9, 6, 10, 29, 30, 31, 32, 33, 34, 35, 36, 37, 38, 39, 40, 41] (by decide +kernel) (by decide +kernel)
set_option maxRecDepth 20000 in
theorem gX4_orderToPad_X4_isHelper : GoodIn wsX4_orderToPad (wsV RX4 53 RX4 yX4_isHelper wsX4_isHelper) := goodIn_app (goodIn_of _ (by decide +kernel)) ggX4_orderToPad_X4_isHelper
set_option maxRecDepth 20000 in
theorem ggX4_orderToPad_X4_findFault : GoodIn wsX4_orderToPad wsX4_findFault := goodIn_r _ [14, 15, 16, 2, 17, 18, 19, 20, 6, 21, 22, 8, 9, 10, 29, 30, 31, 32, 33, 34, 35, 36, 37, 38, 39, 40, 41] (by decide +kernel) (by decide +kernel)
set_option maxRecDepth 20000 in
theorem gX4_orderToPad_X4_findFault : GoodIn wsX4_orderToPad (wsV RX4 164 RX4 yX4_findFault wsX4_findFault) := goodIn_app (goodIn_of _ (by decide +kernel)) ggX4_orderToPad_X4_findFault
set_option maxRecDepth 20000 in
theorem ggX4_orderToPad_X4_helperAt : GoodIn wsX4_orderToPad wsX4_helperAt := goodIn_r _ [25] (by decide +kernel) (by decide +kernel)
set_option maxRecDepth 20000 in
theorem gX4_orderToPad_X4_helperAt : GoodIn wsX4_orderToPad (va_wsS RX4 60 yX4_helperAt wsX4_helperAt) := goodIn_app (goodIn_of _ (by decide +kernel)) ggX4_orderToPad_X4_helperAt
set_option maxRecDepth 20000 in
theorem ggX4_orderToPad_X4_orderOf : GoodIn wsX4_orderToPad wsX4_orderOf := goodIn_r _ [28] (by decide +kernel) (by decide +kernel)
set_option maxRecDepth 20000 in
theorem gX4_orderToPad_X4_orderOf : GoodIn wsX4_orderToPad (va_wsS RX4 138 yX4_orderOf wsX4_orderOf) := goodIn_app (goodIn_of _ (by decide +kernel)) ggX4_orderToPad_X4_orderOf
theorem dX4_orderToPad_0 : decode cX4_orderToPad 0 = .ok (.aload_n 0, 1) := by decide +kernel
theorem dX4_orderToPad_1 : decode cX4_orderToPad 1 = .ok (.iload_n 1, 1) := by decide +kernel
theorem dX4_orderToPad_2 : decode cX4_orderToPad 2 = .ok (.invokevirtual 53, 3) := by decide +kernel
theorem dX4_orderToPad_5 : decode cX4_orderToPad 5 = .ok (.ifCond .ne 5, 3) := by decide +kernel
theorem dX4_orderToPad_8 : decode cX4_orderToPad 8 = .ok (.iconst (-1), 1) := by decide +kernel
theorem dX4_orderToPad_9 : decode cX4_orderToPad 9 = .ok (.ireturn, 1) := by decide +kernel
theorem dX4_orderToPad_10 : decode cX4_orderToPad 10 = .ok (.aload_n 0, 1) := by decide +kernel
theorem dX4_orderToPad_11 : decode cX4_orderToPad 11 = .ok (.invokevirtual 164, 3) := by decide +kernel
theorem dX4_orderToPad_14 : decode cX4_orderToPad 14 = .ok (.bipush (-6), 2) := by decide +kernel
theorem dX4_orderToPad_16 : decode cX4_orderToPad 16 = .ok (.if_icmp .ne 22, 3) := by decide +kernel
theorem dX4_orderToPad_19 : decode cX4_orderToPad 19 = .ok (.aload_n 0, 1) := by decide +kernel
theorem dX4_orderToPad_20 : decode cX4_orderToPad 20 = .ok (.getfield 7, 3) := by decide +kernel
theorem dX4_orderToPad_23 : decode cX4_orderToPad 23 = .ok (.iload_n 1, 1) := by decide +kernel
theorem dX4_orderToPad_24 : decode cX4_orderToPad 24 = .ok (.invokestatic 60, 3) := by decide +kernel
theorem dX4_orderToPad_27 : decode cX4_orderToPad 27 = .ok (.aload_n 0, 1) := by decide +kernel
theorem dX4_orderToPad_28 : decode cX4_orderToPad 28 = .ok (.getfield 28, 3) := by decide +kernel
theorem dX4_orderToPad_31 : decode cX4_orderToPad 31 = .ok (.iconst 0, 1) := by decide +kernel
theorem dX4_orderToPad_32 : decode cX4_orderToPad 32 = .ok (.invokestatic 138, 3) := by decide +kernel
theorem dX4_orderToPad_35 : decode cX4_orderToPad 35 = .ok (.goto 5, 3) := by decide +kernel
theorem dX4_orderToPad_38 : decode cX4_orderToPad 38 = .ok (.bipush (-3), 2) := by decide +kernel
theorem dX4_orderToPad_40 : decode cX4_orderToPad 40 = .ok (.ireturn, 1) := by decide +kernel
set_option maxRecDepth 20000 in
theorem ggX4_printed_X4_isHelper : GoodIn wsX4_printed wsX4_isHelper := goodIn_r _ [7, 8, 9, 10, 6, 11, 30, 31, 32, 33, 34, 35, 36, 37, 38, 39, 40, 41, 42] (by decide +kernel) (by decide +kernel)
set_option maxRecDepth 20000 in
theorem gX4_printed_X4_isHelper : GoodIn wsX4_printed (wsV RX4 53 RX4 yX4_isHelper wsX4_isHelper) := goodIn_app (goodIn_of _ (by decide +kernel)) ggX4_printed_X4_isHelper
set_option maxRecDepth 20000 in
theorem ggX4_printed_X4_helperAt : GoodIn wsX4_printed wsX4_helperAt := goodIn_r _ [14] (by decide +kernel) (by decide +kernel)
set_option maxRecDepth 20000 in
theorem gX4_printed_X4_helperAt : GoodIn wsX4_printed (va_wsS RX4 60 yX4_helperAt wsX4_helperAt) := goodIn_app (goodIn_of _ (by decide +kernel)) ggX4_printed_X4_helperAt
set_option maxRecDepth 20000 in
theorem ggX4_printed_X4_print : GoodIn wsX4_printed wsX4_print := goodIn_r _ [18, 1, 8, 19, 20, 6, 21, 22, 23, 24, 25, 2, 26, 27, 28, 29, 30, 31, 32, 33, 34, 35, 36, 37, 38, 39, 40, 41, 42] (by decide +kernel) (by decide +kernel)
set_option maxRecDepth 20000 in
theorem gX4_printed_X4_print : GoodIn wsX4_printed (wsV RX4 128 RX4 yX4_print wsX4_print) := goodIn_app (goodIn_of _ (by decide +kernel)) ggX4_printed_X4_print
set_option maxRecDepth 20000 in
theorem ggX4_printed_X4_within : GoodIn wsX4_printed wsX4_within := goodIn_r _ [11] (by decide +kernel) (by decide +kernel)
set_option maxRecDepth 20000 in
theorem gX4_printed_X4_within : GoodIn wsX4_printed (va_wsS RX4 49 yX4_within wsX4_within) := goodIn_app (goodIn_of _ (by decide +kernel)) ggX4_printed_X4_within
theorem dX4_printed_0 : decode cX4_printed 0 = .ok (.aload_n 0, 1) := by decide +kernel
theorem dX4_printed_1 : decode cX4_printed 1 = .ok (.iload_n 1, 1) := by decide +kernel
theorem dX4_printed_2 : decode cX4_printed 2 = .ok (.invokevirtual 53, 3) := by decide +kernel
theorem dX4_printed_5 : decode cX4_printed 5 = .ok (.ifCond .ne 5, 3) := by decide +kernel
theorem dX4_printed_8 : decode cX4_printed 8 = .ok (.iconst (-1), 1) := by decide +kernel
theorem dX4_printed_9 : decode cX4_printed 9 = .ok (.ireturn, 1) := by decide +kernel
theorem dX4_printed_10 : decode cX4_printed 10 = .ok (.aload_n 0, 1) := by decide +kernel
theorem dX4_printed_11 : decode cX4_printed 11 = .ok (.iload_n 1, 1) := by decide +kernel
theorem dX4_printed_12 : decode cX4_printed 12 = .ok (.invokestatic 60, 3) := by decide +kernel
theorem dX4_printed_15 : decode cX4_printed 15 = .ok (.invokevirtual 128, 3) := by decide +kernel
theorem dX4_printed_18 : decode cX4_printed 18 = .ok (.iload_n 2, 1) := by decide +kernel
theorem dX4_printed_19 : decode cX4_printed 19 = .ok (.iconst 0, 1) := by decide +kernel
theorem dX4_printed_20 : decode cX4_printed 20 = .ok (.aload_n 0, 1) := by decide +kernel
theorem dX4_printed_21 : decode cX4_printed 21 = .ok (.getfield 78, 3) := by decide +kernel
theorem dX4_printed_24 : decode cX4_printed 24 = .ok (.iconst 1, 1) := by decide +kernel
theorem dX4_printed_25 : decode cX4_printed 25 = .ok (.isub, 1) := by decide +kernel
theorem dX4_printed_26 : decode cX4_printed 26 = .ok (.invokestatic 49, 3) := by decide +kernel
theorem dX4_printed_29 : decode cX4_printed 29 = .ok (.ifCond .eq 12, 3) := by decide +kernel
theorem dX4_printed_32 : decode cX4_printed 32 = .ok (.aload_n 0, 1) := by decide +kernel
theorem dX4_printed_33 : decode cX4_printed 33 = .ok (.getfield 37, 3) := by decide +kernel
theorem dX4_printed_36 : decode cX4_printed 36 = .ok (.iload_n 2, 1) := by decide +kernel
theorem dX4_printed_37 : decode cX4_printed 37 = .ok (.iaload, 1) := by decide +kernel
theorem dX4_printed_38 : decode cX4_printed 38 = .ok (.goto 4, 3) := by decide +kernel
theorem dX4_printed_41 : decode cX4_printed 41 = .ok (.iconst (-1), 1) := by decide +kernel
theorem dX4_printed_42 : decode cX4_printed 42 = .ok (.ireturn, 1) := by decide +kernel
set_option maxRecDepth 20000 in
theorem ggX4_ifReceive_X4_isHelper : GoodIn wsX4_ifReceive wsX4_isHelper := goodIn_r _ [7, 1, 8, 9, 6, 10, 48, 49, 50, 51, 52, 53, 54, 55, 56, 57, 58, 59, 60] (by decide +kernel) (by decide +kernel)
set_option maxRecDepth 20000 in
theorem gX4_ifReceive_X4_isHelper : GoodIn wsX4_ifReceive (wsV RX4 53 RX4 yX4_isHelper wsX4_isHelper) := goodIn_app (goodIn_of _ (by decide +kernel)) ggX4_ifReceive_X4_isHelper
set_option maxRecDepth 20000 in
theorem ggX4_ifReceive_X4_isMessage : GoodIn wsX4_ifReceive wsX4_isMessage := goodIn_r _ [14, 1, 8, 9, 6, 10, 48, 49, 50, 51, 52, 53, 54, 55, 56, 57, 58, 59, 60] (by decide +kernel) (by decide +kernel)
set_option maxRecDepth 20000 in
theorem gX4_ifReceive_X4_isMessage : GoodIn wsX4_ifReceive (wsV RX4 57 RX4 yX4_isMessage wsX4_isMessage) := goodIn_app (goodIn_of _ (by decide +kernel)) ggX4_ifReceive_X4_isMessage
set_option maxRecDepth 20000 in
theorem ggX4_ifReceive_X4_helperAt : GoodIn wsX4_ifReceive wsX4_helperAt := goodIn_r _ [17] (by decide +kernel) (by decide +kernel)
set_option maxRecDepth 20000 in
theorem gX4_ifReceive_X4_helperAt : GoodIn wsX4_ifReceive (va_wsS RX4 60 yX4_helperAt wsX4_helperAt) := goodIn_app (goodIn_of _ (by decide +kernel)) ggX4_ifReceive_X4_helperAt
set_option maxRecDepth 20000 in
theorem ggX4_ifReceive_X4_moves : GoodIn wsX4_ifReceive wsX4_moves := goodIn_r _ [20] (by decide +kernel) (by decide +kernel)
set_option maxRecDepth 20000 in
theorem gX4_ifReceive_X4_moves : GoodIn wsX4_ifReceive (va_wsS RX4 45 yX4_moves wsX4_moves) := goodIn_app (goodIn_of _ (by decide +kernel)) ggX4_ifReceive_X4_moves
set_option maxRecDepth 20000 in
theorem ggX4_ifReceive_X4_messageAt : GoodIn wsX4_ifReceive wsX4_messageAt := goodIn_r _ [23] (by decide +kernel) (by decide +kernel)
set_option maxRecDepth 20000 in
theorem gX4_ifReceive_X4_messageAt : GoodIn wsX4_ifReceive (va_wsS RX4 64 yX4_messageAt wsX4_messageAt) := goodIn_app (goodIn_of _ (by decide +kernel)) ggX4_ifReceive_X4_messageAt
set_option maxRecDepth 20000 in
theorem ggX4_ifReceive_X4_takeOver : GoodIn wsX4_ifReceive wsX4_takeOver := goodIn_r _ [26] (by decide +kernel) (by decide +kernel)
set_option maxRecDepth 20000 in
theorem gX4_ifReceive_X4_takeOver : GoodIn wsX4_ifReceive (va_wsS RX4 95 yX4_takeOver wsX4_takeOver) := goodIn_app (goodIn_of _ (by decide +kernel)) ggX4_ifReceive_X4_takeOver
set_option maxRecDepth 20000 in
theorem ggX4_ifReceive_X4_raise : GoodIn wsX4_ifReceive wsX4_raise := goodIn_r _ [29, 30, 31, 6, 32] (by decide +kernel) (by decide +kernel)
set_option maxRecDepth 20000 in
theorem gX4_ifReceive_X4_raise : GoodIn wsX4_ifReceive (va_wsS RX4 99 yX4_raise wsX4_raise) := goodIn_app (goodIn_of _ (by decide +kernel)) ggX4_ifReceive_X4_raise
set_option maxRecDepth 20000 in
theorem ggX4_ifReceive_X4_knownMany : GoodIn wsX4_ifReceive wsX4_knownMany := goodIn_r _ [35, 36, 37, 6, 38] (by decide +kernel) (by decide +kernel)
set_option maxRecDepth 20000 in
theorem gX4_ifReceive_X4_knownMany : GoodIn wsX4_ifReceive (va_wsS RX4 118 yX4_knownMany wsX4_knownMany) := goodIn_app (goodIn_of _ (by decide +kernel)) ggX4_ifReceive_X4_knownMany
set_option maxRecDepth 20000 in
theorem ggX4_ifReceive_X4_orderOf : GoodIn wsX4_ifReceive wsX4_orderOf := goodIn_r _ [41] (by decide +kernel) (by decide +kernel)
set_option maxRecDepth 20000 in
theorem gX4_ifReceive_X4_orderOf : GoodIn wsX4_ifReceive (va_wsS RX4 138 yX4_orderOf wsX4_orderOf) := goodIn_app (goodIn_of _ (by decide +kernel)) ggX4_ifReceive_X4_orderOf
set_option maxRecDepth 20000 in
theorem ggX4_ifReceive_X4_knots : GoodIn wsX4_ifReceive wsX4_knots := goodIn_r _ [44, 45, 46, 6, 47] (by decide +kernel) (by decide +kernel)
set_option maxRecDepth 20000 in
theorem gX4_ifReceive_X4_knots : GoodIn wsX4_ifReceive (va_wsS RX4 125 yX4_knots wsX4_knots) := goodIn_app (goodIn_of _ (by decide +kernel)) ggX4_ifReceive_X4_knots
theorem dX4_ifReceive_0 : decode cX4_ifReceive 0 = .ok (.aload_n 0, 1) := by decide +kernel
theorem dX4_ifReceive_1 : decode cX4_ifReceive 1 = .ok (.iload_n 1, 1) := by decide +kernel
theorem dX4_ifReceive_2 : decode cX4_ifReceive 2 = .ok (.invokevirtual 53, 3) := by decide +kernel
theorem dX4_ifReceive_5 : decode cX4_ifReceive 5 = .ok (.ifCond .eq 11, 3) := by decide +kernel
theorem dX4_ifReceive_8 : decode cX4_ifReceive 8 = .ok (.aload_n 0, 1) := by decide +kernel
theorem dX4_ifReceive_9 : decode cX4_ifReceive 9 = .ok (.iload_n 2, 1) := by decide +kernel
theorem dX4_ifReceive_10 : decode cX4_ifReceive 10 = .ok (.invokevirtual 57, 3) := by decide +kernel
theorem dX4_ifReceive_13 : decode cX4_ifReceive 13 = .ok (.ifCond .ne 5, 3) := by decide +kernel
theorem dX4_ifReceive_16 : decode cX4_ifReceive 16 = .ok (.iconst (-1), 1) := by decide +kernel
theorem dX4_ifReceive_17 : decode cX4_ifReceive 17 = .ok (.ireturn, 1) := by decide +kernel
theorem dX4_ifReceive_18 : decode cX4_ifReceive 18 = .ok (.aload_n 0, 1) := by decide +kernel
theorem dX4_ifReceive_19 : decode cX4_ifReceive 19 = .ok (.getfield 7, 3) := by decide +kernel
theorem dX4_ifReceive_22 : decode cX4_ifReceive 22 = .ok (.iload_n 1, 1) := by decide +kernel
theorem dX4_ifReceive_23 : decode cX4_ifReceive 23 = .ok (.invokestatic 60, 3) := by decide +kernel
theorem dX4_ifReceive_26 : decode cX4_ifReceive 26 = .ok (.aload_n 0, 1) := by decide +kernel
theorem dX4_ifReceive_27 : decode cX4_ifReceive 27 = .ok (.getfield 25, 3) := by decide +kernel
theorem dX4_ifReceive_30 : decode cX4_ifReceive 30 = .ok (.iconst 0, 1) := by decide +kernel
theorem dX4_ifReceive_31 : decode cX4_ifReceive 31 = .ok (.bipush 21, 2) := by decide +kernel
theorem dX4_ifReceive_33 : decode cX4_ifReceive 33 = .ok (.invokestatic 45, 3) := by decide +kernel
theorem dX4_ifReceive_36 : decode cX4_ifReceive 36 = .ok (.aload_n 0, 1) := by decide +kernel
theorem dX4_ifReceive_37 : decode cX4_ifReceive 37 = .ok (.getfield 25, 3) := by decide +kernel
theorem dX4_ifReceive_40 : decode cX4_ifReceive 40 = .ok (.iconst 0, 1) := by decide +kernel
theorem dX4_ifReceive_41 : decode cX4_ifReceive 41 = .ok (.aload_n 0, 1) := by decide +kernel
theorem dX4_ifReceive_42 : decode cX4_ifReceive 42 = .ok (.getfield 7, 3) := by decide +kernel
theorem dX4_ifReceive_45 : decode cX4_ifReceive 45 = .ok (.iload_n 2, 1) := by decide +kernel
theorem dX4_ifReceive_46 : decode cX4_ifReceive 46 = .ok (.invokestatic 64, 3) := by decide +kernel
theorem dX4_ifReceive_49 : decode cX4_ifReceive 49 = .ok (.invokestatic 95, 3) := by decide +kernel
theorem dX4_ifReceive_52 : decode cX4_ifReceive 52 = .ok (.aload_n 0, 1) := by decide +kernel
theorem dX4_ifReceive_53 : decode cX4_ifReceive 53 = .ok (.getfield 25, 3) := by decide +kernel
theorem dX4_ifReceive_56 : decode cX4_ifReceive 56 = .ok (.iconst 0, 1) := by decide +kernel
theorem dX4_ifReceive_57 : decode cX4_ifReceive 57 = .ok (.invokestatic 99, 3) := by decide +kernel
theorem dX4_ifReceive_60 : decode cX4_ifReceive 60 = .ok (.iload_n 3, 1) := by decide +kernel
theorem dX4_ifReceive_61 : decode cX4_ifReceive 61 = .ok (.tableswitch 76 0 2 #[27, 50, 67], 27) := by decide +kernel
theorem dX4_ifReceive_88 : decode cX4_ifReceive 88 = .ok (.aload_n 0, 1) := by decide +kernel
theorem dX4_ifReceive_89 : decode cX4_ifReceive 89 = .ok (.getfield 25, 3) := by decide +kernel
theorem dX4_ifReceive_92 : decode cX4_ifReceive 92 = .ok (.iconst 0, 1) := by decide +kernel
theorem dX4_ifReceive_93 : decode cX4_ifReceive 93 = .ok (.invokestatic 118, 3) := by decide +kernel
theorem dX4_ifReceive_96 : decode cX4_ifReceive 96 = .ok (.iconst 1, 1) := by decide +kernel
theorem dX4_ifReceive_97 : decode cX4_ifReceive 97 = .ok (.iadd, 1) := by decide +kernel
theorem dX4_ifReceive_98 : decode cX4_ifReceive 98 = .ok (.aload_n 0, 1) := by decide +kernel
theorem dX4_ifReceive_99 : decode cX4_ifReceive 99 = .ok (.getfield 7, 3) := by decide +kernel
theorem dX4_ifReceive_102 : decode cX4_ifReceive 102 = .ok (.iload_n 1, 1) := by decide +kernel
theorem dX4_ifReceive_103 : decode cX4_ifReceive 103 = .ok (.invokestatic 60, 3) := by decide +kernel
theorem dX4_ifReceive_106 : decode cX4_ifReceive 106 = .ok (.invokestatic 118, 3) := by decide +kernel
theorem dX4_ifReceive_109 : decode cX4_ifReceive 109 = .ok (.isub, 1) := by decide +kernel
theorem dX4_ifReceive_110 : decode cX4_ifReceive 110 = .ok (.ireturn, 1) := by decide +kernel
theorem dX4_ifReceive_111 : decode cX4_ifReceive 111 = .ok (.aload_n 0, 1) := by decide +kernel
theorem dX4_ifReceive_112 : decode cX4_ifReceive 112 = .ok (.getfield 25, 3) := by decide +kernel
theorem dX4_ifReceive_115 : decode cX4_ifReceive 115 = .ok (.iconst 0, 1) := by decide +kernel
theorem dX4_ifReceive_116 : decode cX4_ifReceive 116 = .ok (.aload_n 0, 1) := by decide +kernel
theorem dX4_ifReceive_117 : decode cX4_ifReceive 117 = .ok (.getfield 7, 3) := by decide +kernel
theorem dX4_ifReceive_120 : decode cX4_ifReceive 120 = .ok (.iload_n 2, 1) := by decide +kernel
theorem dX4_ifReceive_121 : decode cX4_ifReceive 121 = .ok (.invokestatic 64, 3) := by decide +kernel
theorem dX4_ifReceive_124 : decode cX4_ifReceive 124 = .ok (.invokestatic 138, 3) := by decide +kernel
theorem dX4_ifReceive_127 : decode cX4_ifReceive 127 = .ok (.ireturn, 1) := by decide +kernel
theorem dX4_ifReceive_128 : decode cX4_ifReceive 128 = .ok (.aload_n 0, 1) := by decide +kernel
theorem dX4_ifReceive_129 : decode cX4_ifReceive 129 = .ok (.getfield 25, 3) := by decide +kernel
theorem dX4_ifReceive_132 : decode cX4_ifReceive 132 = .ok (.iconst 0, 1) := by decide +kernel
theorem dX4_ifReceive_133 : decode cX4_ifReceive 133 = .ok (.invokestatic 125, 3) := by decide +kernel
theorem dX4_ifReceive_136 : decode cX4_ifReceive 136 = .ok (.ireturn, 1) := by decide +kernel
theorem dX4_ifReceive_137 : decode cX4_ifReceive 137 = .ok (.bipush (-2), 2) := by decide +kernel
theorem dX4_ifReceive_139 : decode cX4_ifReceive 139 = .ok (.ireturn, 1) := by decide +kernel
set_option maxRecDepth 20000 in
theorem ggX4_laggard_X4_within : GoodIn wsX4_laggard wsX4_within := goodIn_r _ [5] (by decide +kernel) (by decide +kernel)
set_option maxRecDepth 20000 in
theorem gX4_laggard_X4_within : GoodIn wsX4_laggard (va_wsS RX4 49 yX4_within wsX4_within) := goodIn_app (goodIn_of _ (by decide +kernel)) ggX4_laggard_X4_within
set_option maxRecDepth 20000 in
theorem ggX4_laggard_X4_helperAt : GoodIn wsX4_laggard wsX4_helperAt := goodIn_r _ [8] (by decide +kernel) (by decide +kernel)
set_option maxRecDepth 20000 in
theorem gX4_laggard_X4_helperAt : GoodIn wsX4_laggard (va_wsS RX4 60 yX4_helperAt wsX4_helperAt) := goodIn_app (goodIn_of _ (by decide +kernel)) ggX4_laggard_X4_helperAt
set_option maxRecDepth 20000 in
theorem ggX4_laggard_X4_knownMany : GoodIn wsX4_laggard wsX4_knownMany := goodIn_r _ [11, 12, 13, 4, 14] (by decide +kernel) (by decide +kernel)
set_option maxRecDepth 20000 in
theorem gX4_laggard_X4_knownMany : GoodIn wsX4_laggard (va_wsS RX4 118 yX4_knownMany wsX4_knownMany) := goodIn_app (goodIn_of _ (by decide +kernel)) ggX4_laggard_X4_knownMany
set_option maxRecDepth 20000 in
theorem ggX4_laggard_X4_isHelper : GoodIn wsX4_laggard wsX4_isHelper := goodIn_r _ [18, 1, 2, 3, 4, 5, 19, 20, 21, 22, 23, 24, 25, 26, 27, 28, 29, 30, 31] (by decide +kernel) (by decide +kernel)
set_option maxRecDepth 20000 in
theorem gX4_laggard_X4_isHelper : GoodIn wsX4_laggard (wsV RX4 53 RX4 yX4_isHelper wsX4_isHelper) := goodIn_app (goodIn_of _ (by decide +kernel)) ggX4_laggard_X4_isHelper
theorem dX4_laggard_0 : decode cX4_laggard 0 = .ok (.iload_n 1, 1) := by decide +kernel
theorem dX4_laggard_1 : decode cX4_laggard 1 = .ok (.iconst 0, 1) := by decide +kernel
theorem dX4_laggard_2 : decode cX4_laggard 2 = .ok (.iconst 1, 1) := by decide +kernel
theorem dX4_laggard_3 : decode cX4_laggard 3 = .ok (.invokestatic 49, 3) := by decide +kernel
theorem dX4_laggard_6 : decode cX4_laggard 6 = .ok (.ifCond .ne 6, 3) := by decide +kernel
theorem dX4_laggard_9 : decode cX4_laggard 9 = .ok (.bipush (-2), 2) := by decide +kernel
theorem dX4_laggard_11 : decode cX4_laggard 11 = .ok (.ireturn, 1) := by decide +kernel
theorem dX4_laggard_12 : decode cX4_laggard 12 = .ok (.bipush (-6), 2) := by decide +kernel
theorem dX4_laggard_14 : decode cX4_laggard 14 = .ok (.istore_n 2, 1) := by decide +kernel
theorem dX4_laggard_15 : decode cX4_laggard 15 = .ok (.iconst 0, 1) := by decide +kernel
theorem dX4_laggard_16 : decode cX4_laggard 16 = .ok (.istore_n 3, 1) := by decide +kernel
theorem dX4_laggard_17 : decode cX4_laggard 17 = .ok (.iconst 0, 1) := by decide +kernel
theorem dX4_laggard_18 : decode cX4_laggard 18 = .ok (.istore 4, 2) := by decide +kernel
theorem dX4_laggard_20 : decode cX4_laggard 20 = .ok (.iload 4, 2) := by decide +kernel
theorem dX4_laggard_22 : decode cX4_laggard 22 = .ok (.bipush 8, 2) := by decide +kernel
theorem dX4_laggard_24 : decode cX4_laggard 24 = .ok (.if_icmp .ge 75, 3) := by decide +kernel
theorem dX4_laggard_27 : decode cX4_laggard 27 = .ok (.aload_n 0, 1) := by decide +kernel
theorem dX4_laggard_28 : decode cX4_laggard 28 = .ok (.getfield 7, 3) := by decide +kernel
theorem dX4_laggard_31 : decode cX4_laggard 31 = .ok (.iload 4, 2) := by decide +kernel
theorem dX4_laggard_33 : decode cX4_laggard 33 = .ok (.invokestatic 60, 3) := by decide +kernel
theorem dX4_laggard_36 : decode cX4_laggard 36 = .ok (.invokestatic 118, 3) := by decide +kernel
theorem dX4_laggard_39 : decode cX4_laggard 39 = .ok (.istore 5, 2) := by decide +kernel
theorem dX4_laggard_41 : decode cX4_laggard 41 = .ok (.aload_n 0, 1) := by decide +kernel
theorem dX4_laggard_42 : decode cX4_laggard 42 = .ok (.iload 4, 2) := by decide +kernel
theorem dX4_laggard_44 : decode cX4_laggard 44 = .ok (.invokevirtual 53, 3) := by decide +kernel
theorem dX4_laggard_47 : decode cX4_laggard 47 = .ok (.ifCond .eq 19, 3) := by decide +kernel
theorem dX4_laggard_50 : decode cX4_laggard 50 = .ok (.iload_n 2, 1) := by decide +kernel
theorem dX4_laggard_51 : decode cX4_laggard 51 = .ok (.bipush (-6), 2) := by decide +kernel
theorem dX4_laggard_53 : decode cX4_laggard 53 = .ok (.if_icmp .eq 9, 3) := by decide +kernel
theorem dX4_laggard_56 : decode cX4_laggard 56 = .ok (.iload 5, 2) := by decide +kernel
theorem dX4_laggard_58 : decode cX4_laggard 58 = .ok (.iload_n 3, 1) := by decide +kernel
theorem dX4_laggard_59 : decode cX4_laggard 59 = .ok (.if_icmp .ge 7, 3) := by decide +kernel
theorem dX4_laggard_62 : decode cX4_laggard 62 = .ok (.iconst 1, 1) := by decide +kernel
theorem dX4_laggard_63 : decode cX4_laggard 63 = .ok (.goto 4, 3) := by decide +kernel
theorem dX4_laggard_66 : decode cX4_laggard 66 = .ok (.iconst 0, 1) := by decide +kernel
theorem dX4_laggard_67 : decode cX4_laggard 67 = .ok (.istore 6, 2) := by decide +kernel
theorem dX4_laggard_69 : decode cX4_laggard 69 = .ok (.iload 6, 2) := by decide +kernel
theorem dX4_laggard_71 : decode cX4_laggard 71 = .ok (.ifCond .eq 8, 3) := by decide +kernel
theorem dX4_laggard_74 : decode cX4_laggard 74 = .ok (.iload 4, 2) := by decide +kernel
theorem dX4_laggard_76 : decode cX4_laggard 76 = .ok (.goto 4, 3) := by decide +kernel
theorem dX4_laggard_79 : decode cX4_laggard 79 = .ok (.iload_n 2, 1) := by decide +kernel
theorem dX4_laggard_80 : decode cX4_laggard 80 = .ok (.istore_n 2, 1) := by decide +kernel
theorem dX4_laggard_81 : decode cX4_laggard 81 = .ok (.iload 6, 2) := by decide +kernel
theorem dX4_laggard_83 : decode cX4_laggard 83 = .ok (.ifCond .eq 8, 3) := by decide +kernel
theorem dX4_laggard_86 : decode cX4_laggard 86 = .ok (.iload 5, 2) := by decide +kernel
theorem dX4_laggard_88 : decode cX4_laggard 88 = .ok (.goto 4, 3) := by decide +kernel
theorem dX4_laggard_91 : decode cX4_laggard 91 = .ok (.iload_n 3, 1) := by decide +kernel
theorem dX4_laggard_92 : decode cX4_laggard 92 = .ok (.istore_n 3, 1) := by decide +kernel
theorem dX4_laggard_93 : decode cX4_laggard 93 = .ok (.iinc 4 1, 3) := by decide +kernel
theorem dX4_laggard_96 : decode cX4_laggard 96 = .ok (.goto (-76), 3) := by decide +kernel
theorem dX4_laggard_99 : decode cX4_laggard 99 = .ok (.iload_n 1, 1) := by decide +kernel
theorem dX4_laggard_100 : decode cX4_laggard 100 = .ok (.ifCond .ne 7, 3) := by decide +kernel
theorem dX4_laggard_103 : decode cX4_laggard 103 = .ok (.iload_n 2, 1) := by decide +kernel
theorem dX4_laggard_104 : decode cX4_laggard 104 = .ok (.goto 11, 3) := by decide +kernel
theorem dX4_laggard_107 : decode cX4_laggard 107 = .ok (.aload_n 0, 1) := by decide +kernel
theorem dX4_laggard_108 : decode cX4_laggard 108 = .ok (.getfield 7, 3) := by decide +kernel
theorem dX4_laggard_111 : decode cX4_laggard 111 = .ok (.iconst 2, 1) := by decide +kernel
theorem dX4_laggard_112 : decode cX4_laggard 112 = .ok (.iaload, 1) := by decide +kernel
theorem dX4_laggard_113 : decode cX4_laggard 113 = .ok (.iload_n 3, 1) := by decide +kernel
theorem dX4_laggard_114 : decode cX4_laggard 114 = .ok (.isub, 1) := by decide +kernel
theorem dX4_laggard_115 : decode cX4_laggard 115 = .ok (.ireturn, 1) := by decide +kernel
set_option maxRecDepth 20000 in
theorem ggX4_put_X4_within : GoodIn wsX4_put wsX4_within := goodIn_r _ [7] (by decide +kernel) (by decide +kernel)
set_option maxRecDepth 20000 in
theorem gX4_put_X4_within : GoodIn wsX4_put (va_wsS RX4 49 yX4_within wsX4_within) := goodIn_app (goodIn_of _ (by decide +kernel)) ggX4_put_X4_within
theorem dX4_put_0 : decode cX4_put 0 = .ok (.iconst 0, 1) := by decide +kernel
theorem dX4_put_1 : decode cX4_put 1 = .ok (.istore_n 3, 1) := by decide +kernel
theorem dX4_put_2 : decode cX4_put 2 = .ok (.lload_n 1, 1) := by decide +kernel
theorem dX4_put_3 : decode cX4_put 3 = .ok (.lstore 4, 2) := by decide +kernel
theorem dX4_put_5 : decode cX4_put 5 = .ok (.iconst 1, 1) := by decide +kernel
theorem dX4_put_6 : decode cX4_put 6 = .ok (.istore 6, 2) := by decide +kernel
theorem dX4_put_8 : decode cX4_put 8 = .ok (.iload_n 3, 1) := by decide +kernel
theorem dX4_put_9 : decode cX4_put 9 = .ok (.bipush 8, 2) := by decide +kernel
theorem dX4_put_11 : decode cX4_put 11 = .ok (.if_icmp .ge 56, 3) := by decide +kernel
theorem dX4_put_14 : decode cX4_put 14 = .ok (.lload 4, 2) := by decide +kernel
theorem dX4_put_16 : decode cX4_put 16 = .ok (.ldc2_w 167, 3) := by decide +kernel
theorem dX4_put_19 : decode cX4_put 19 = .ok (.land, 1) := by decide +kernel
theorem dX4_put_20 : decode cX4_put 20 = .ok (.lconst 0, 1) := by decide +kernel
theorem dX4_put_21 : decode cX4_put 21 = .ok (.lcmp, 1) := by decide +kernel
theorem dX4_put_22 : decode cX4_put 22 = .ok (.ifCond .eq 45, 3) := by decide +kernel
theorem dX4_put_25 : decode cX4_put 25 = .ok (.iload 6, 2) := by decide +kernel
theorem dX4_put_27 : decode cX4_put 27 = .ok (.ifCond .eq 24, 3) := by decide +kernel
theorem dX4_put_30 : decode cX4_put 30 = .ok (.lload 4, 2) := by decide +kernel
theorem dX4_put_32 : decode cX4_put 32 = .ok (.ldc2_w 167, 3) := by decide +kernel
theorem dX4_put_35 : decode cX4_put 35 = .ok (.land, 1) := by decide +kernel
theorem dX4_put_36 : decode cX4_put 36 = .ok (.l2i, 1) := by decide +kernel
theorem dX4_put_37 : decode cX4_put 37 = .ok (.bipush 33, 2) := by decide +kernel
theorem dX4_put_39 : decode cX4_put 39 = .ok (.bipush 126, 2) := by decide +kernel
theorem dX4_put_41 : decode cX4_put 41 = .ok (.invokestatic 49, 3) := by decide +kernel
theorem dX4_put_44 : decode cX4_put 44 = .ok (.ifCond .eq 7, 3) := by decide +kernel
theorem dX4_put_47 : decode cX4_put 47 = .ok (.iconst 1, 1) := by decide +kernel
theorem dX4_put_48 : decode cX4_put 48 = .ok (.goto 4, 3) := by decide +kernel
theorem dX4_put_51 : decode cX4_put 51 = .ok (.iconst 0, 1) := by decide +kernel
theorem dX4_put_52 : decode cX4_put 52 = .ok (.istore 6, 2) := by decide +kernel
theorem dX4_put_54 : decode cX4_put 54 = .ok (.lload 4, 2) := by decide +kernel
theorem dX4_put_56 : decode cX4_put 56 = .ok (.bipush 8, 2) := by decide +kernel
theorem dX4_put_58 : decode cX4_put 58 = .ok (.lushr, 1) := by decide +kernel
theorem dX4_put_59 : decode cX4_put 59 = .ok (.lstore 4, 2) := by decide +kernel
theorem dX4_put_61 : decode cX4_put 61 = .ok (.iinc 3 1, 3) := by decide +kernel
theorem dX4_put_64 : decode cX4_put 64 = .ok (.goto (-56), 3) := by decide +kernel
theorem dX4_put_67 : decode cX4_put 67 = .ok (.iload_n 3, 1) := by decide +kernel
theorem dX4_put_68 : decode cX4_put 68 = .ok (.ifCond .eq 15, 3) := by decide +kernel
theorem dX4_put_71 : decode cX4_put 71 = .ok (.iload 6, 2) := by decide +kernel
theorem dX4_put_73 : decode cX4_put 73 = .ok (.ifCond .eq 10, 3) := by decide +kernel
theorem dX4_put_76 : decode cX4_put 76 = .ok (.lload 4, 2) := by decide +kernel
theorem dX4_put_78 : decode cX4_put 78 = .ok (.lconst 0, 1) := by decide +kernel
theorem dX4_put_79 : decode cX4_put 79 = .ok (.lcmp, 1) := by decide +kernel
theorem dX4_put_80 : decode cX4_put 80 = .ok (.ifCond .eq 6, 3) := by decide +kernel
theorem dX4_put_83 : decode cX4_put 83 = .ok (.bipush (-2), 2) := by decide +kernel
theorem dX4_put_85 : decode cX4_put 85 = .ok (.ireturn, 1) := by decide +kernel
theorem dX4_put_86 : decode cX4_put 86 = .ok (.aload_n 0, 1) := by decide +kernel
theorem dX4_put_87 : decode cX4_put 87 = .ok (.getfield 157, 3) := by decide +kernel
theorem dX4_put_90 : decode cX4_put 90 = .ok (.iload_n 3, 1) := by decide +kernel
theorem dX4_put_91 : decode cX4_put 91 = .ok (.iadd, 1) := by decide +kernel
theorem dX4_put_92 : decode cX4_put 92 = .ok (.bipush 64, 2) := by decide +kernel
theorem dX4_put_94 : decode cX4_put 94 = .ok (.if_icmp .le 6, 3) := by decide +kernel
theorem dX4_put_97 : decode cX4_put 97 = .ok (.bipush (-4), 2) := by decide +kernel
theorem dX4_put_99 : decode cX4_put 99 = .ok (.ireturn, 1) := by decide +kernel
theorem dX4_put_100 : decode cX4_put 100 = .ok (.iload_n 3, 1) := by decide +kernel
theorem dX4_put_101 : decode cX4_put 101 = .ok (.iconst 1, 1) := by decide +kernel
theorem dX4_put_102 : decode cX4_put 102 = .ok (.isub, 1) := by decide +kernel
theorem dX4_put_103 : decode cX4_put 103 = .ok (.istore 7, 2) := by decide +kernel
theorem dX4_put_105 : decode cX4_put 105 = .ok (.iload 7, 2) := by decide +kernel
theorem dX4_put_107 : decode cX4_put 107 = .ok (.ifCond .lt 40, 3) := by decide +kernel
theorem dX4_put_110 : decode cX4_put 110 = .ok (.aload_n 0, 1) := by decide +kernel
theorem dX4_put_111 : decode cX4_put 111 = .ok (.getfield 22, 3) := by decide +kernel
theorem dX4_put_114 : decode cX4_put 114 = .ok (.aload_n 0, 1) := by decide +kernel
theorem dX4_put_115 : decode cX4_put 115 = .ok (.getfield 157, 3) := by decide +kernel
theorem dX4_put_118 : decode cX4_put 118 = .ok (.lload_n 1, 1) := by decide +kernel
theorem dX4_put_119 : decode cX4_put 119 = .ok (.bipush 8, 2) := by decide +kernel
theorem dX4_put_121 : decode cX4_put 121 = .ok (.iload 7, 2) := by decide +kernel
theorem dX4_put_123 : decode cX4_put 123 = .ok (.imul, 1) := by decide +kernel
theorem dX4_put_124 : decode cX4_put 124 = .ok (.lushr, 1) := by decide +kernel
theorem dX4_put_125 : decode cX4_put 125 = .ok (.ldc2_w 167, 3) := by decide +kernel
theorem dX4_put_128 : decode cX4_put 128 = .ok (.land, 1) := by decide +kernel
theorem dX4_put_129 : decode cX4_put 129 = .ok (.l2i, 1) := by decide +kernel
theorem dX4_put_130 : decode cX4_put 130 = .ok (.iastore, 1) := by decide +kernel
theorem dX4_put_131 : decode cX4_put 131 = .ok (.aload_n 0, 1) := by decide +kernel
theorem dX4_put_132 : decode cX4_put 132 = .ok (.dup, 1) := by decide +kernel
theorem dX4_put_133 : decode cX4_put 133 = .ok (.getfield 157, 3) := by decide +kernel
theorem dX4_put_136 : decode cX4_put 136 = .ok (.iconst 1, 1) := by decide +kernel
theorem dX4_put_137 : decode cX4_put 137 = .ok (.iadd, 1) := by decide +kernel
theorem dX4_put_138 : decode cX4_put 138 = .ok (.putfield 157, 3) := by decide +kernel
theorem dX4_put_141 : decode cX4_put 141 = .ok (.iinc 7 (-1), 3) := by decide +kernel
theorem dX4_put_144 : decode cX4_put 144 = .ok (.goto (-39), 3) := by decide +kernel
theorem dX4_put_147 : decode cX4_put 147 = .ok (.aload_n 0, 1) := by decide +kernel
theorem dX4_put_148 : decode cX4_put 148 = .ok (.getfield 157, 3) := by decide +kernel
theorem dX4_put_151 : decode cX4_put 151 = .ok (.ireturn, 1) := by decide +kernel
theorem dX4_wipe_0 : decode cX4_wipe 0 = .ok (.aload_n 0, 1) := by decide +kernel
theorem dX4_wipe_1 : decode cX4_wipe 1 = .ok (.getfield 157, 3) := by decide +kernel
theorem dX4_wipe_4 : decode cX4_wipe 4 = .ok (.istore_n 1, 1) := by decide +kernel
theorem dX4_wipe_5 : decode cX4_wipe 5 = .ok (.aload_n 0, 1) := by decide +kernel
theorem dX4_wipe_6 : decode cX4_wipe 6 = .ok (.iconst 0, 1) := by decide +kernel
theorem dX4_wipe_7 : decode cX4_wipe 7 = .ok (.putfield 157, 3) := by decide +kernel
theorem dX4_wipe_10 : decode cX4_wipe 10 = .ok (.iload_n 1, 1) := by decide +kernel
theorem dX4_wipe_11 : decode cX4_wipe 11 = .ok (.ireturn, 1) := by decide +kernel
theorem dX4_character_0 : decode cX4_character 0 = .ok (.iload_n 1, 1) := by decide +kernel
theorem dX4_character_1 : decode cX4_character 1 = .ok (.aload_n 0, 1) := by decide +kernel
theorem dX4_character_2 : decode cX4_character 2 = .ok (.getfield 157, 3) := by decide +kernel
theorem dX4_character_5 : decode cX4_character 5 = .ok (.if_icmp .ge 12, 3) := by decide +kernel
theorem dX4_character_8 : decode cX4_character 8 = .ok (.aload_n 0, 1) := by decide +kernel
theorem dX4_character_9 : decode cX4_character 9 = .ok (.getfield 22, 3) := by decide +kernel
theorem dX4_character_12 : decode cX4_character 12 = .ok (.iload_n 1, 1) := by decide +kernel
theorem dX4_character_13 : decode cX4_character 13 = .ok (.iaload, 1) := by decide +kernel
theorem dX4_character_14 : decode cX4_character 14 = .ok (.goto 4, 3) := by decide +kernel
theorem dX4_character_17 : decode cX4_character 17 = .ok (.iconst (-1), 1) := by decide +kernel
theorem dX4_character_18 : decode cX4_character 18 = .ok (.ireturn, 1) := by decide +kernel
set_option maxRecDepth 20000 in
theorem ggX4_findFault_X4_character : GoodIn wsX4_findFault wsX4_character := goodIn_r _ [9, 4, 10, 14, 15, 16, 17, 18, 19, 20, 21, 22, 23, 24, 25, 26] (by decide +kernel) (by decide +kernel)
set_option maxRecDepth 20000 in
theorem gX4_findFault_X4_character : GoodIn wsX4_findFault (wsV RX4 169 RX4 yX4_character wsX4_character) := goodIn_app (goodIn_of _ (by decide +kernel)) ggX4_findFault_X4_character
set_option maxRecDepth 20000 in
theorem ggX4_findFault_X4_within : GoodIn wsX4_findFault wsX4_within := goodIn_r _ [13] (by decide +kernel) (by decide +kernel)
set_option maxRecDepth 20000 in
theorem gX4_findFault_X4_within : GoodIn wsX4_findFault (va_wsS RX4 49 yX4_within wsX4_within) := goodIn_app (goodIn_of _ (by decide +kernel)) ggX4_findFault_X4_within
theorem dX4_findFault_0 : decode cX4_findFault 0 = .ok (.iconst 0, 1) := by decide +kernel
theorem dX4_findFault_1 : decode cX4_findFault 1 = .ok (.istore_n 1, 1) := by decide +kernel
theorem dX4_findFault_2 : decode cX4_findFault 2 = .ok (.iconst 0, 1) := by decide +kernel
theorem dX4_findFault_3 : decode cX4_findFault 3 = .ok (.istore_n 2, 1) := by decide +kernel
theorem dX4_findFault_4 : decode cX4_findFault 4 = .ok (.bipush 16, 2) := by decide +kernel
theorem dX4_findFault_6 : decode cX4_findFault 6 = .ok (.istore_n 3, 1) := by decide +kernel
theorem dX4_findFault_7 : decode cX4_findFault 7 = .ok (.iconst 0, 1) := by decide +kernel
theorem dX4_findFault_8 : decode cX4_findFault 8 = .ok (.istore 4, 2) := by decide +kernel
theorem dX4_findFault_10 : decode cX4_findFault 10 = .ok (.iload_n 2, 1) := by decide +kernel
theorem dX4_findFault_11 : decode cX4_findFault 11 = .ok (.bipush 16, 2) := by decide +kernel
theorem dX4_findFault_13 : decode cX4_findFault 13 = .ok (.if_icmp .ge 255, 3) := by decide +kernel
theorem dX4_findFault_16 : decode cX4_findFault 16 = .ok (.iload_n 3, 1) := by decide +kernel
theorem dX4_findFault_17 : decode cX4_findFault 17 = .ok (.iconst 1, 1) := by decide +kernel
theorem dX4_findFault_18 : decode cX4_findFault 18 = .ok (.if_icmp .le 42, 3) := by decide +kernel
theorem dX4_findFault_21 : decode cX4_findFault 21 = .ok (.aload_n 0, 1) := by decide +kernel
theorem dX4_findFault_22 : decode cX4_findFault 22 = .ok (.iload_n 1, 1) := by decide +kernel
theorem dX4_findFault_23 : decode cX4_findFault 23 = .ok (.invokevirtual 169, 3) := by decide +kernel
theorem dX4_findFault_26 : decode cX4_findFault 26 = .ok (.bipush 40, 2) := by decide +kernel
theorem dX4_findFault_28 : decode cX4_findFault 28 = .ok (.if_icmp .ne 32, 3) := by decide +kernel
theorem dX4_findFault_31 : decode cX4_findFault 31 = .ok (.aload_n 0, 1) := by decide +kernel
theorem dX4_findFault_32 : decode cX4_findFault 32 = .ok (.getfield 31, 3) := by decide +kernel
theorem dX4_findFault_35 : decode cX4_findFault 35 = .ok (.iload 4, 2) := by decide +kernel
theorem dX4_findFault_37 : decode cX4_findFault 37 = .ok (.iload_n 3, 1) := by decide +kernel
theorem dX4_findFault_38 : decode cX4_findFault 38 = .ok (.iastore, 1) := by decide +kernel
theorem dX4_findFault_39 : decode cX4_findFault 39 = .ok (.aload_n 0, 1) := by decide +kernel
theorem dX4_findFault_40 : decode cX4_findFault 40 = .ok (.getfield 34, 3) := by decide +kernel
theorem dX4_findFault_43 : decode cX4_findFault 43 = .ok (.iload 4, 2) := by decide +kernel
theorem dX4_findFault_45 : decode cX4_findFault 45 = .ok (.iconst 0, 1) := by decide +kernel
theorem dX4_findFault_46 : decode cX4_findFault 46 = .ok (.iastore, 1) := by decide +kernel
theorem dX4_findFault_47 : decode cX4_findFault 47 = .ok (.iinc 4 1, 3) := by decide +kernel
theorem dX4_findFault_50 : decode cX4_findFault 50 = .ok (.iload_n 3, 1) := by decide +kernel
theorem dX4_findFault_51 : decode cX4_findFault 51 = .ok (.iconst 2, 1) := by decide +kernel
theorem dX4_findFault_52 : decode cX4_findFault 52 = .ok (.idiv, 1) := by decide +kernel
theorem dX4_findFault_53 : decode cX4_findFault 53 = .ok (.istore_n 3, 1) := by decide +kernel
theorem dX4_findFault_54 : decode cX4_findFault 54 = .ok (.iinc 1 1, 3) := by decide +kernel
theorem dX4_findFault_57 : decode cX4_findFault 57 = .ok (.goto (-41), 3) := by decide +kernel
theorem dX4_findFault_60 : decode cX4_findFault 60 = .ok (.aload_n 0, 1) := by decide +kernel
theorem dX4_findFault_61 : decode cX4_findFault 61 = .ok (.iload_n 1, 1) := by decide +kernel
theorem dX4_findFault_62 : decode cX4_findFault 62 = .ok (.invokevirtual 169, 3) := by decide +kernel
theorem dX4_findFault_65 : decode cX4_findFault 65 = .ok (.bipush 48, 2) := by decide +kernel
theorem dX4_findFault_67 : decode cX4_findFault 67 = .ok (.bipush 57, 2) := by decide +kernel
theorem dX4_findFault_69 : decode cX4_findFault 69 = .ok (.invokestatic 49, 3) := by decide +kernel
theorem dX4_findFault_72 : decode cX4_findFault 72 = .ok (.ifCond .ne 5, 3) := by decide +kernel
theorem dX4_findFault_75 : decode cX4_findFault 75 = .ok (.iload_n 1, 1) := by decide +kernel
theorem dX4_findFault_76 : decode cX4_findFault 76 = .ok (.ireturn, 1) := by decide +kernel
theorem dX4_findFault_77 : decode cX4_findFault 77 = .ok (.aload_n 0, 1) := by decide +kernel
theorem dX4_findFault_78 : decode cX4_findFault 78 = .ok (.iload_n 1, 1) := by decide +kernel
theorem dX4_findFault_79 : decode cX4_findFault 79 = .ok (.invokevirtual 169, 3) := by decide +kernel
theorem dX4_findFault_82 : decode cX4_findFault 82 = .ok (.bipush 48, 2) := by decide +kernel
theorem dX4_findFault_84 : decode cX4_findFault 84 = .ok (.isub, 1) := by decide +kernel
theorem dX4_findFault_85 : decode cX4_findFault 85 = .ok (.istore 5, 2) := by decide +kernel
theorem dX4_findFault_87 : decode cX4_findFault 87 = .ok (.iinc 1 1, 3) := by decide +kernel
theorem dX4_findFault_90 : decode cX4_findFault 90 = .ok (.iload 5, 2) := by decide +kernel
theorem dX4_findFault_92 : decode cX4_findFault 92 = .ok (.ifCond .le 60, 3) := by decide +kernel
theorem dX4_findFault_95 : decode cX4_findFault 95 = .ok (.aload_n 0, 1) := by decide +kernel
theorem dX4_findFault_96 : decode cX4_findFault 96 = .ok (.iload_n 1, 1) := by decide +kernel
theorem dX4_findFault_97 : decode cX4_findFault 97 = .ok (.invokevirtual 169, 3) := by decide +kernel
theorem dX4_findFault_100 : decode cX4_findFault 100 = .ok (.bipush 48, 2) := by decide +kernel
theorem dX4_findFault_102 : decode cX4_findFault 102 = .ok (.bipush 57, 2) := by decide +kernel
theorem dX4_findFault_104 : decode cX4_findFault 104 = .ok (.invokestatic 49, 3) := by decide +kernel
theorem dX4_findFault_107 : decode cX4_findFault 107 = .ok (.ifCond .eq 45, 3) := by decide +kernel
theorem dX4_findFault_110 : decode cX4_findFault 110 = .ok (.bipush 10, 2) := by decide +kernel
theorem dX4_findFault_112 : decode cX4_findFault 112 = .ok (.iload 5, 2) := by decide +kernel
theorem dX4_findFault_114 : decode cX4_findFault 114 = .ok (.imul, 1) := by decide +kernel
theorem dX4_findFault_115 : decode cX4_findFault 115 = .ok (.aload_n 0, 1) := by decide +kernel
theorem dX4_findFault_116 : decode cX4_findFault 116 = .ok (.iload_n 1, 1) := by decide +kernel
theorem dX4_findFault_117 : decode cX4_findFault 117 = .ok (.invokevirtual 169, 3) := by decide +kernel
theorem dX4_findFault_120 : decode cX4_findFault 120 = .ok (.iadd, 1) := by decide +kernel
theorem dX4_findFault_121 : decode cX4_findFault 121 = .ok (.bipush 48, 2) := by decide +kernel
theorem dX4_findFault_123 : decode cX4_findFault 123 = .ok (.isub, 1) := by decide +kernel
theorem dX4_findFault_124 : decode cX4_findFault 124 = .ok (.sipush 250, 3) := by decide +kernel
theorem dX4_findFault_127 : decode cX4_findFault 127 = .ok (.if_icmp .gt 25, 3) := by decide +kernel
theorem dX4_findFault_130 : decode cX4_findFault 130 = .ok (.bipush 10, 2) := by decide +kernel
theorem dX4_findFault_132 : decode cX4_findFault 132 = .ok (.iload 5, 2) := by decide +kernel
theorem dX4_findFault_134 : decode cX4_findFault 134 = .ok (.imul, 1) := by decide +kernel
theorem dX4_findFault_135 : decode cX4_findFault 135 = .ok (.aload_n 0, 1) := by decide +kernel
theorem dX4_findFault_136 : decode cX4_findFault 136 = .ok (.iload_n 1, 1) := by decide +kernel
theorem dX4_findFault_137 : decode cX4_findFault 137 = .ok (.invokevirtual 169, 3) := by decide +kernel
theorem dX4_findFault_140 : decode cX4_findFault 140 = .ok (.iadd, 1) := by decide +kernel
theorem dX4_findFault_141 : decode cX4_findFault 141 = .ok (.bipush 48, 2) := by decide +kernel
theorem dX4_findFault_143 : decode cX4_findFault 143 = .ok (.isub, 1) := by decide +kernel
theorem dX4_findFault_144 : decode cX4_findFault 144 = .ok (.istore 5, 2) := by decide +kernel
theorem dX4_findFault_146 : decode cX4_findFault 146 = .ok (.iinc 1 1, 3) := by decide +kernel
theorem dX4_findFault_149 : decode cX4_findFault 149 = .ok (.goto (-59), 3) := by decide +kernel
theorem dX4_findFault_152 : decode cX4_findFault 152 = .ok (.iconst 0, 1) := by decide +kernel
theorem dX4_findFault_153 : decode cX4_findFault 153 = .ok (.istore 6, 2) := by decide +kernel
theorem dX4_findFault_155 : decode cX4_findFault 155 = .ok (.iload 6, 2) := by decide +kernel
theorem dX4_findFault_157 : decode cX4_findFault 157 = .ok (.iload_n 3, 1) := by decide +kernel
theorem dX4_findFault_158 : decode cX4_findFault 158 = .ok (.if_icmp .ge 22, 3) := by decide +kernel
theorem dX4_findFault_161 : decode cX4_findFault 161 = .ok (.aload_n 0, 1) := by decide +kernel
theorem dX4_findFault_162 : decode cX4_findFault 162 = .ok (.getfield 28, 3) := by decide +kernel
theorem dX4_findFault_165 : decode cX4_findFault 165 = .ok (.iconst 1, 1) := by decide +kernel
theorem dX4_findFault_166 : decode cX4_findFault 166 = .ok (.iload_n 2, 1) := by decide +kernel
theorem dX4_findFault_167 : decode cX4_findFault 167 = .ok (.iadd, 1) := by decide +kernel
theorem dX4_findFault_168 : decode cX4_findFault 168 = .ok (.iload 6, 2) := by decide +kernel
theorem dX4_findFault_170 : decode cX4_findFault 170 = .ok (.iadd, 1) := by decide +kernel
theorem dX4_findFault_171 : decode cX4_findFault 171 = .ok (.iload 5, 2) := by decide +kernel
theorem dX4_findFault_173 : decode cX4_findFault 173 = .ok (.iastore, 1) := by decide +kernel
theorem dX4_findFault_174 : decode cX4_findFault 174 = .ok (.iinc 6 1, 3) := by decide +kernel
theorem dX4_findFault_177 : decode cX4_findFault 177 = .ok (.goto (-22), 3) := by decide +kernel
theorem dX4_findFault_180 : decode cX4_findFault 180 = .ok (.iload_n 2, 1) := by decide +kernel
theorem dX4_findFault_181 : decode cX4_findFault 181 = .ok (.iload_n 3, 1) := by decide +kernel
theorem dX4_findFault_182 : decode cX4_findFault 182 = .ok (.iadd, 1) := by decide +kernel
theorem dX4_findFault_183 : decode cX4_findFault 183 = .ok (.istore_n 2, 1) := by decide +kernel
theorem dX4_findFault_184 : decode cX4_findFault 184 = .ok (.iload 4, 2) := by decide +kernel
theorem dX4_findFault_186 : decode cX4_findFault 186 = .ok (.ifCond .le 37, 3) := by decide +kernel
theorem dX4_findFault_189 : decode cX4_findFault 189 = .ok (.aload_n 0, 1) := by decide +kernel
theorem dX4_findFault_190 : decode cX4_findFault 190 = .ok (.getfield 34, 3) := by decide +kernel
theorem dX4_findFault_193 : decode cX4_findFault 193 = .ok (.iload 4, 2) := by decide +kernel
theorem dX4_findFault_195 : decode cX4_findFault 195 = .ok (.iconst 1, 1) := by decide +kernel
theorem dX4_findFault_196 : decode cX4_findFault 196 = .ok (.isub, 1) := by decide +kernel
theorem dX4_findFault_197 : decode cX4_findFault 197 = .ok (.iaload, 1) := by decide +kernel
theorem dX4_findFault_198 : decode cX4_findFault 198 = .ok (.iconst 1, 1) := by decide +kernel
theorem dX4_findFault_199 : decode cX4_findFault 199 = .ok (.if_icmp .ne 24, 3) := by decide +kernel
theorem dX4_findFault_202 : decode cX4_findFault 202 = .ok (.aload_n 0, 1) := by decide +kernel
theorem dX4_findFault_203 : decode cX4_findFault 203 = .ok (.iload_n 1, 1) := by decide +kernel
theorem dX4_findFault_204 : decode cX4_findFault 204 = .ok (.invokevirtual 169, 3) := by decide +kernel
theorem dX4_findFault_207 : decode cX4_findFault 207 = .ok (.bipush 41, 2) := by decide +kernel
theorem dX4_findFault_209 : decode cX4_findFault 209 = .ok (.if_icmp .eq 5, 3) := by decide +kernel
theorem dX4_findFault_212 : decode cX4_findFault 212 = .ok (.iload_n 1, 1) := by decide +kernel
theorem dX4_findFault_213 : decode cX4_findFault 213 = .ok (.ireturn, 1) := by decide +kernel
theorem dX4_findFault_214 : decode cX4_findFault 214 = .ok (.iinc 1 1, 3) := by decide +kernel
theorem dX4_findFault_217 : decode cX4_findFault 217 = .ok (.iinc 4 (-1), 3) := by decide +kernel
theorem dX4_findFault_220 : decode cX4_findFault 220 = .ok (.goto (-36), 3) := by decide +kernel
theorem dX4_findFault_223 : decode cX4_findFault 223 = .ok (.iload 4, 2) := by decide +kernel
theorem dX4_findFault_225 : decode cX4_findFault 225 = .ok (.ifCond .le 40, 3) := by decide +kernel
theorem dX4_findFault_228 : decode cX4_findFault 228 = .ok (.aload_n 0, 1) := by decide +kernel
theorem dX4_findFault_229 : decode cX4_findFault 229 = .ok (.iload_n 1, 1) := by decide +kernel
theorem dX4_findFault_230 : decode cX4_findFault 230 = .ok (.invokevirtual 169, 3) := by decide +kernel
theorem dX4_findFault_233 : decode cX4_findFault 233 = .ok (.bipush 44, 2) := by decide +kernel
theorem dX4_findFault_235 : decode cX4_findFault 235 = .ok (.if_icmp .eq 5, 3) := by decide +kernel
theorem dX4_findFault_238 : decode cX4_findFault 238 = .ok (.iload_n 1, 1) := by decide +kernel
theorem dX4_findFault_239 : decode cX4_findFault 239 = .ok (.ireturn, 1) := by decide +kernel
theorem dX4_findFault_240 : decode cX4_findFault 240 = .ok (.iinc 1 1, 3) := by decide +kernel
theorem dX4_findFault_243 : decode cX4_findFault 243 = .ok (.aload_n 0, 1) := by decide +kernel
theorem dX4_findFault_244 : decode cX4_findFault 244 = .ok (.getfield 34, 3) := by decide +kernel
theorem dX4_findFault_247 : decode cX4_findFault 247 = .ok (.iload 4, 2) := by decide +kernel
theorem dX4_findFault_249 : decode cX4_findFault 249 = .ok (.iconst 1, 1) := by decide +kernel
theorem dX4_findFault_250 : decode cX4_findFault 250 = .ok (.isub, 1) := by decide +kernel
theorem dX4_findFault_251 : decode cX4_findFault 251 = .ok (.iconst 1, 1) := by decide +kernel
theorem dX4_findFault_252 : decode cX4_findFault 252 = .ok (.iastore, 1) := by decide +kernel
theorem dX4_findFault_253 : decode cX4_findFault 253 = .ok (.aload_n 0, 1) := by decide +kernel
theorem dX4_findFault_254 : decode cX4_findFault 254 = .ok (.getfield 31, 3) := by decide +kernel
theorem dX4_findFault_257 : decode cX4_findFault 257 = .ok (.iload 4, 2) := by decide +kernel
theorem dX4_findFault_259 : decode cX4_findFault 259 = .ok (.iconst 1, 1) := by decide +kernel
theorem dX4_findFault_260 : decode cX4_findFault 260 = .ok (.isub, 1) := by decide +kernel
theorem dX4_findFault_261 : decode cX4_findFault 261 = .ok (.iaload, 1) := by decide +kernel
theorem dX4_findFault_262 : decode cX4_findFault 262 = .ok (.iconst 2, 1) := by decide +kernel
theorem dX4_findFault_263 : decode cX4_findFault 263 = .ok (.idiv, 1) := by decide +kernel
theorem dX4_findFault_264 : decode cX4_findFault 264 = .ok (.istore_n 3, 1) := by decide +kernel
theorem dX4_findFault_265 : decode cX4_findFault 265 = .ok (.goto (-255), 3) := by decide +kernel
theorem dX4_findFault_268 : decode cX4_findFault 268 = .ok (.iload_n 1, 1) := by decide +kernel
theorem dX4_findFault_269 : decode cX4_findFault 269 = .ok (.aload_n 0, 1) := by decide +kernel
theorem dX4_findFault_270 : decode cX4_findFault 270 = .ok (.getfield 157, 3) := by decide +kernel
theorem dX4_findFault_273 : decode cX4_findFault 273 = .ok (.if_icmp .ne 8, 3) := by decide +kernel
theorem dX4_findFault_276 : decode cX4_findFault 276 = .ok (.bipush (-6), 2) := by decide +kernel
theorem dX4_findFault_278 : decode cX4_findFault 278 = .ok (.goto 4, 3) := by decide +kernel
theorem dX4_findFault_281 : decode cX4_findFault 281 = .ok (.iload_n 1, 1) := by decide +kernel
theorem dX4_findFault_282 : decode cX4_findFault 282 = .ok (.ireturn, 1) := by decide +kernel
set_option maxRecDepth 20000 in
theorem ggX4_fault_X4_findFault : GoodIn wsX4_fault wsX4_findFault := goodIn_r _ [5, 6, 7, 8, 9, 10, 11, 12, 4, 13, 14, 15, 16, 17, 18, 19, 20, 21, 22, 23, 24, 25, 26, 27, 28, 29, 30] (by decide +kernel) (by decide +kernel)
set_option maxRecDepth 20000 in
theorem gX4_fault_X4_findFault : GoodIn wsX4_fault (wsV RX4 164 RX4 yX4_findFault wsX4_findFault) := goodIn_app (goodIn_of _ (by decide +kernel)) ggX4_fault_X4_findFault
theorem dX4_fault_0 : decode cX4_fault 0 = .ok (.aload_n 0, 1) := by decide +kernel
theorem dX4_fault_1 : decode cX4_fault 1 = .ok (.invokevirtual 164, 3) := by decide +kernel
theorem dX4_fault_4 : decode cX4_fault 4 = .ok (.ireturn, 1) := by decide +kernel
set_option maxRecDepth 20000 in
theorem ggX4_undo_X4_moves : GoodIn wsX4_undo wsX4_moves := goodIn_r _ [7] (by decide +kernel) (by decide +kernel)
set_option maxRecDepth 20000 in
theorem gX4_undo_X4_moves : GoodIn wsX4_undo (va_wsS RX4 45 yX4_moves wsX4_moves) := goodIn_app (goodIn_of _ (by decide +kernel)) ggX4_undo_X4_moves
theorem dX4_undo_0 : decode cX4_undo 0 = .ok (.aload_n 0, 1) := by decide +kernel
theorem dX4_undo_1 : decode cX4_undo 1 = .ok (.getfield 41, 3) := by decide +kernel
theorem dX4_undo_4 : decode cX4_undo 4 = .ok (.ifCond .ne 6, 3) := by decide +kernel
theorem dX4_undo_7 : decode cX4_undo 7 = .ok (.bipush (-5), 2) := by decide +kernel
theorem dX4_undo_9 : decode cX4_undo 9 = .ok (.ireturn, 1) := by decide +kernel
theorem dX4_undo_10 : decode cX4_undo 10 = .ok (.aload_n 0, 1) := by decide +kernel
theorem dX4_undo_11 : decode cX4_undo 11 = .ok (.dup, 1) := by decide +kernel
theorem dX4_undo_12 : decode cX4_undo 12 = .ok (.getfield 41, 3) := by decide +kernel
theorem dX4_undo_15 : decode cX4_undo 15 = .ok (.iconst 1, 1) := by decide +kernel
theorem dX4_undo_16 : decode cX4_undo 16 = .ok (.isub, 1) := by decide +kernel
theorem dX4_undo_17 : decode cX4_undo 17 = .ok (.putfield 41, 3) := by decide +kernel
theorem dX4_undo_20 : decode cX4_undo 20 = .ok (.aload_n 0, 1) := by decide +kernel
theorem dX4_undo_21 : decode cX4_undo 21 = .ok (.getfield 13, 3) := by decide +kernel
theorem dX4_undo_24 : decode cX4_undo 24 = .ok (.aload_n 0, 1) := by decide +kernel
theorem dX4_undo_25 : decode cX4_undo 25 = .ok (.getfield 41, 3) := by decide +kernel
theorem dX4_undo_28 : decode cX4_undo 28 = .ok (.sipush 459, 3) := by decide +kernel
theorem dX4_undo_31 : decode cX4_undo 31 = .ok (.imul, 1) := by decide +kernel
theorem dX4_undo_32 : decode cX4_undo 32 = .ok (.aload_n 0, 1) := by decide +kernel
theorem dX4_undo_33 : decode cX4_undo 33 = .ok (.getfield 7, 3) := by decide +kernel
theorem dX4_undo_36 : decode cX4_undo 36 = .ok (.iconst 0, 1) := by decide +kernel
theorem dX4_undo_37 : decode cX4_undo 37 = .ok (.sipush 459, 3) := by decide +kernel
theorem dX4_undo_40 : decode cX4_undo 40 = .ok (.invokestatic 45, 3) := by decide +kernel
theorem dX4_undo_43 : decode cX4_undo 43 = .ok (.aload_n 0, 1) := by decide +kernel
theorem dX4_undo_44 : decode cX4_undo 44 = .ok (.getfield 41, 3) := by decide +kernel
theorem dX4_undo_47 : decode cX4_undo 47 = .ok (.ireturn, 1) := by decide +kernel
set_option maxRecDepth 20000 in
theorem ggX4_save_X4_within : GoodIn wsX4_save wsX4_within := goodIn_r _ [7] (by decide +kernel) (by decide +kernel)
set_option maxRecDepth 20000 in
theorem gX4_save_X4_within : GoodIn wsX4_save (va_wsS RX4 49 yX4_within wsX4_within) := goodIn_app (goodIn_of _ (by decide +kernel)) ggX4_save_X4_within
set_option maxRecDepth 20000 in
theorem ggX4_save_X4_moves : GoodIn wsX4_save wsX4_moves := goodIn_r _ [10] (by decide +kernel) (by decide +kernel)
set_option maxRecDepth 20000 in
theorem gX4_save_X4_moves : GoodIn wsX4_save (va_wsS RX4 45 yX4_moves wsX4_moves) := goodIn_app (goodIn_of _ (by decide +kernel)) ggX4_save_X4_moves
theorem dX4_save_0 : decode cX4_save 0 = .ok (.iload_n 1, 1) := by decide +kernel
theorem dX4_save_1 : decode cX4_save 1 = .ok (.iconst 0, 1) := by decide +kernel
theorem dX4_save_2 : decode cX4_save 2 = .ok (.iconst 1, 1) := by decide +kernel
