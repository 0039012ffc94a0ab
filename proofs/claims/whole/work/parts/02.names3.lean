theorem dX7_clash_1 : decode cX7_clash 1 = .ok (.invokestatic 164, 3) := by decide +kernel
theorem dX7_clash_4 : decode cX7_clash 4 = .ok (.ifCond .eq 12, 3) := by decide +kernel
theorem dX7_clash_7 : decode cX7_clash 7 = .ok (.iload_n 2, 1) := by decide +kernel
theorem dX7_clash_8 : decode cX7_clash 8 = .ok (.iconst 0, 1) := by decide +kernel
theorem dX7_clash_9 : decode cX7_clash 9 = .ok (.iconst 2, 1) := by decide +kernel
theorem dX7_clash_10 : decode cX7_clash 10 = .ok (.invokestatic 49, 3) := by decide +kernel
theorem dX7_clash_13 : decode cX7_clash 13 = .ok (.ifCond .ne 6, 3) := by decide +kernel
theorem dX7_clash_16 : decode cX7_clash 16 = .ok (.bipush (-2), 2) := by decide +kernel
theorem dX7_clash_18 : decode cX7_clash 18 = .ok (.ireturn, 1) := by decide +kernel
theorem dX7_clash_19 : decode cX7_clash 19 = .ok (.aload_n 0, 1) := by decide +kernel
theorem dX7_clash_20 : decode cX7_clash 20 = .ok (.getfield 34, 3) := by decide +kernel
theorem dX7_clash_23 : decode cX7_clash 23 = .ok (.aload_n 0, 1) := by decide +kernel
theorem dX7_clash_24 : decode cX7_clash 24 = .ok (.getfield 12, 3) := by decide +kernel
theorem dX7_clash_27 : decode cX7_clash 27 = .ok (.invokevirtual 183, 3) := by decide +kernel
theorem dX7_clash_30 : decode cX7_clash 30 = .ok (.sipush 301, 3) := by decide +kernel
theorem dX7_clash_33 : decode cX7_clash 33 = .ok (.istore_n 3, 1) := by decide +kernel
theorem dX7_clash_34 : decode cX7_clash 34 = .ok (.bipush (-6), 2) := by decide +kernel
theorem dX7_clash_36 : decode cX7_clash 36 = .ok (.istore 4, 2) := by decide +kernel
theorem dX7_clash_38 : decode cX7_clash 38 = .ok (.bipush (-6), 2) := by decide +kernel
theorem dX7_clash_40 : decode cX7_clash 40 = .ok (.istore 5, 2) := by decide +kernel
theorem dX7_clash_42 : decode cX7_clash 42 = .ok (.iconst 0, 1) := by decide +kernel
theorem dX7_clash_43 : decode cX7_clash 43 = .ok (.istore 6, 2) := by decide +kernel
theorem dX7_clash_45 : decode cX7_clash 45 = .ok (.iload 6, 2) := by decide +kernel
theorem dX7_clash_47 : decode cX7_clash 47 = .ok (.bipush 10, 2) := by decide +kernel
theorem dX7_clash_49 : decode cX7_clash 49 = .ok (.if_icmp .ge 64, 3) := by decide +kernel
theorem dX7_clash_52 : decode cX7_clash 52 = .ok (.iload 6, 2) := by decide +kernel
theorem dX7_clash_54 : decode cX7_clash 54 = .ok (.iconst 1, 1) := by decide +kernel
theorem dX7_clash_55 : decode cX7_clash 55 = .ok (.iadd, 1) := by decide +kernel
theorem dX7_clash_56 : decode cX7_clash 56 = .ok (.istore 7, 2) := by decide +kernel
theorem dX7_clash_58 : decode cX7_clash 58 = .ok (.iload 7, 2) := by decide +kernel
theorem dX7_clash_60 : decode cX7_clash 60 = .ok (.bipush 10, 2) := by decide +kernel
theorem dX7_clash_62 : decode cX7_clash 62 = .ok (.if_icmp .ge 45, 3) := by decide +kernel
theorem dX7_clash_65 : decode cX7_clash 65 = .ok (.aload_n 0, 1) := by decide +kernel
theorem dX7_clash_66 : decode cX7_clash 66 = .ok (.getfield 34, 3) := by decide +kernel
theorem dX7_clash_69 : decode cX7_clash 69 = .ok (.aload_n 0, 1) := by decide +kernel
theorem dX7_clash_70 : decode cX7_clash 70 = .ok (.getfield 12, 3) := by decide +kernel
theorem dX7_clash_73 : decode cX7_clash 73 = .ok (.iload 6, 2) := by decide +kernel
theorem dX7_clash_75 : decode cX7_clash 75 = .ok (.iload 7, 2) := by decide +kernel
theorem dX7_clash_77 : decode cX7_clash 77 = .ok (.iload_n 1, 1) := by decide +kernel
theorem dX7_clash_78 : decode cX7_clash 78 = .ok (.iload_n 3, 1) := by decide +kernel
theorem dX7_clash_79 : decode cX7_clash 79 = .ok (.invokevirtual 187, 3) := by decide +kernel
theorem dX7_clash_82 : decode cX7_clash 82 = .ok (.istore 8, 2) := by decide +kernel
theorem dX7_clash_84 : decode cX7_clash 84 = .ok (.iload 8, 2) := by decide +kernel
theorem dX7_clash_86 : decode cX7_clash 86 = .ok (.iload_n 3, 1) := by decide +kernel
theorem dX7_clash_87 : decode cX7_clash 87 = .ok (.if_icmp .ge 14, 3) := by decide +kernel
theorem dX7_clash_90 : decode cX7_clash 90 = .ok (.iload 8, 2) := by decide +kernel
theorem dX7_clash_92 : decode cX7_clash 92 = .ok (.istore_n 3, 1) := by decide +kernel
theorem dX7_clash_93 : decode cX7_clash 93 = .ok (.iload 6, 2) := by decide +kernel
theorem dX7_clash_95 : decode cX7_clash 95 = .ok (.istore 4, 2) := by decide +kernel
theorem dX7_clash_97 : decode cX7_clash 97 = .ok (.iload 7, 2) := by decide +kernel
theorem dX7_clash_99 : decode cX7_clash 99 = .ok (.istore 5, 2) := by decide +kernel
theorem dX7_clash_101 : decode cX7_clash 101 = .ok (.iinc 7 1, 3) := by decide +kernel
theorem dX7_clash_104 : decode cX7_clash 104 = .ok (.goto (-46), 3) := by decide +kernel
theorem dX7_clash_107 : decode cX7_clash 107 = .ok (.iinc 6 1, 3) := by decide +kernel
theorem dX7_clash_110 : decode cX7_clash 110 = .ok (.goto (-65), 3) := by decide +kernel
theorem dX7_clash_113 : decode cX7_clash 113 = .ok (.iload_n 3, 1) := by decide +kernel
theorem dX7_clash_114 : decode cX7_clash 114 = .ok (.sipush 300, 3) := by decide +kernel
theorem dX7_clash_117 : decode cX7_clash 117 = .ok (.if_icmp .le 6, 3) := by decide +kernel
theorem dX7_clash_120 : decode cX7_clash 120 = .ok (.bipush (-6), 2) := by decide +kernel
theorem dX7_clash_122 : decode cX7_clash 122 = .ok (.ireturn, 1) := by decide +kernel
theorem dX7_clash_123 : decode cX7_clash 123 = .ok (.iload_n 2, 1) := by decide +kernel
theorem dX7_clash_124 : decode cX7_clash 124 = .ok (.ifCond .ne 7, 3) := by decide +kernel
theorem dX7_clash_127 : decode cX7_clash 127 = .ok (.iload_n 3, 1) := by decide +kernel
theorem dX7_clash_128 : decode cX7_clash 128 = .ok (.goto 15, 3) := by decide +kernel
theorem dX7_clash_131 : decode cX7_clash 131 = .ok (.iload_n 2, 1) := by decide +kernel
theorem dX7_clash_132 : decode cX7_clash 132 = .ok (.iconst 1, 1) := by decide +kernel
theorem dX7_clash_133 : decode cX7_clash 133 = .ok (.if_icmp .ne 8, 3) := by decide +kernel
theorem dX7_clash_136 : decode cX7_clash 136 = .ok (.iload 4, 2) := by decide +kernel
theorem dX7_clash_138 : decode cX7_clash 138 = .ok (.goto 5, 3) := by decide +kernel
theorem dX7_clash_141 : decode cX7_clash 141 = .ok (.iload 5, 2) := by decide +kernel
theorem dX7_clash_143 : decode cX7_clash 143 = .ok (.ireturn, 1) := by decide +kernel
set_option maxRecDepth 20000 in
theorem ggX7_often_X7_isBar : GoodIn wsX7_often wsX7_isBar := goodIn_r _ [6, 7, 8, 5, 9] (by decide +kernel) (by decide +kernel)
set_option maxRecDepth 20000 in
theorem gX7_often_X7_isBar : GoodIn wsX7_often (va_wsS RX7 45 yX7_isBar wsX7_isBar) := goodIn_app (goodIn_of _ (by decide +kernel)) ggX7_often_X7_isBar
set_option maxRecDepth 20000 in
theorem ggX7_often_X2_trace : GoodIn wsX7_often wsX2_trace := goodIn_r _ [14, 15, 16, 17, 18, 19, 20, 21, 22, 23, 24, 25, 26, 27, 28, 29, 30, 31, 32, 33, 34, 35, 36, 37, 38, 39, 71, 72, 73, 74, 75, 76, 77, 78, 79, 80, 81, 82] (by decide +kernel) (by decide +kernel)
set_option maxRecDepth 20000 in
theorem gX7_often_X2_trace : GoodIn wsX7_often (wsV RX7 167 RX2 yX2_trace wsX2_trace) := goodIn_app (goodIn_of _ (by decide +kernel)) ggX7_often_X2_trace
set_option maxRecDepth 20000 in
theorem ggX7_often_X2_strikesOf : GoodIn wsX7_often wsX2_strikesOf := goodIn_r _ [43, 44, 45, 46, 13, 47, 16, 17, 48, 49, 50, 23, 51, 52, 36, 37, 38, 53, 54, 55, 56, 57, 58, 15, 59, 60, 61, 62, 63, 64, 72, 73, 74, 75, 76, 77, 78, 71] (by decide +kernel) (by decide +kernel)
set_option maxRecDepth 20000 in
theorem gX7_often_X2_strikesOf : GoodIn wsX7_often (wsV RX7 191 RX2 yX2_strikesOf wsX2_strikesOf) := goodIn_app (goodIn_of _ (by decide +kernel)) ggX7_often_X2_strikesOf
theorem dX7_often_0 : decode cX7_often 0 = .ok (.iload_n 1, 1) := by decide +kernel
theorem dX7_often_1 : decode cX7_often 1 = .ok (.invokestatic 45, 3) := by decide +kernel
theorem dX7_often_4 : decode cX7_often 4 = .ok (.ifCond .eq 10, 3) := by decide +kernel
theorem dX7_often_7 : decode cX7_often 7 = .ok (.iload_n 2, 1) := by decide +kernel
theorem dX7_often_8 : decode cX7_often 8 = .ok (.invokestatic 45, 3) := by decide +kernel
theorem dX7_often_11 : decode cX7_often 11 = .ok (.ifCond .ne 5, 3) := by decide +kernel
theorem dX7_often_14 : decode cX7_often 14 = .ok (.iconst (-1), 1) := by decide +kernel
theorem dX7_often_15 : decode cX7_often 15 = .ok (.ireturn, 1) := by decide +kernel
theorem dX7_often_16 : decode cX7_often 16 = .ok (.iload_n 1, 1) := by decide +kernel
theorem dX7_often_17 : decode cX7_often 17 = .ok (.iload_n 2, 1) := by decide +kernel
theorem dX7_often_18 : decode cX7_often 18 = .ok (.if_icmp .ne 6, 3) := by decide +kernel
theorem dX7_often_21 : decode cX7_often 21 = .ok (.bipush (-2), 2) := by decide +kernel
theorem dX7_often_23 : decode cX7_often 23 = .ok (.ireturn, 1) := by decide +kernel
theorem dX7_often_24 : decode cX7_often 24 = .ok (.aload_n 0, 1) := by decide +kernel
theorem dX7_often_25 : decode cX7_often 25 = .ok (.getfield 34, 3) := by decide +kernel
theorem dX7_often_28 : decode cX7_often 28 = .ok (.aload_n 0, 1) := by decide +kernel
theorem dX7_often_29 : decode cX7_often 29 = .ok (.getfield 12, 3) := by decide +kernel
theorem dX7_often_32 : decode cX7_often 32 = .ok (.iload_n 1, 1) := by decide +kernel
theorem dX7_often_33 : decode cX7_often 33 = .ok (.invokevirtual 167, 3) := by decide +kernel
theorem dX7_often_36 : decode cX7_often 36 = .ok (.aload_n 0, 1) := by decide +kernel
theorem dX7_often_37 : decode cX7_often 37 = .ok (.getfield 34, 3) := by decide +kernel
theorem dX7_often_40 : decode cX7_often 40 = .ok (.aload_n 0, 1) := by decide +kernel
theorem dX7_often_41 : decode cX7_often 41 = .ok (.getfield 12, 3) := by decide +kernel
theorem dX7_often_44 : decode cX7_often 44 = .ok (.iload_n 2, 1) := by decide +kernel
theorem dX7_often_45 : decode cX7_often 45 = .ok (.invokevirtual 167, 3) := by decide +kernel
theorem dX7_often_48 : decode cX7_often 48 = .ok (.aload_n 0, 1) := by decide +kernel
theorem dX7_often_49 : decode cX7_often 49 = .ok (.getfield 34, 3) := by decide +kernel
theorem dX7_often_52 : decode cX7_often 52 = .ok (.aload_n 0, 1) := by decide +kernel
theorem dX7_often_53 : decode cX7_often 53 = .ok (.getfield 12, 3) := by decide +kernel
theorem dX7_often_56 : decode cX7_often 56 = .ok (.iload_n 1, 1) := by decide +kernel
theorem dX7_often_57 : decode cX7_often 57 = .ok (.iload_n 2, 1) := by decide +kernel
theorem dX7_often_58 : decode cX7_often 58 = .ok (.invokevirtual 191, 3) := by decide +kernel
theorem dX7_often_61 : decode cX7_often 61 = .ok (.ireturn, 1) := by decide +kernel
set_option maxRecDepth 20000 in
theorem ggX7_hands_X7_within : GoodIn wsX7_hands wsX7_within := goodIn_r _ [8] (by decide +kernel) (by decide +kernel)
set_option maxRecDepth 20000 in
theorem gX7_hands_X7_within : GoodIn wsX7_hands (va_wsS RX7 49 yX7_within wsX7_within) := goodIn_app (goodIn_of _ (by decide +kernel)) ggX7_hands_X7_within
set_option maxRecDepth 20000 in
theorem ggX7_hands_X1_gather : GoodIn wsX7_hands wsX1_gather := goodIn_r _ [13, 14, 15, 16, 17, 18, 19, 20, 21, 22, 23, 24, 25, 26, 27, 28, 29, 30, 31, 32, 33, 34, 35, 36, 37, 38, 39, 40, 41, 42, 43, 44, 45, 46, 47, 48, 49, 50, 51, 52, 53, 54, 55, 56, 57, 58, 59, 60, 61, 62, 63, 64, 65, 66, 67, 68, 69, 70, 71, 72, 73, 74, 75, 76, 77, 78, 79, 80, 81, 82, 83, 84, 12, 85, 86, 87, 88, 89, 90, 91, 92, 93, 94, 95, 96, 97, 98, 99, 100, 101, 102, 131, 132, 133, 134, 124, 125, 126, 127, 128, 129, 130, 135, 136, 137, 138, 139, 140, 141, 142, 143, 144] (by decide +kernel) (by decide +kernel)
set_option maxRecDepth 20000 in
theorem gX7_hands_X1_gather : GoodIn wsX7_hands (wsV RX7 157 RX1 yX1_gather wsX1_gather) := goodIn_app (goodIn_of _ (by decide +kernel)) ggX7_hands_X1_gather
set_option maxRecDepth 20000 in
theorem ggX7_hands_X1_doableCount : GoodIn wsX7_hands wsX1_doableCount := goodIn_r _ [106, 15, 16, 124, 125, 126, 127, 128, 129, 130] (by decide +kernel) (by decide +kernel)
set_option maxRecDepth 20000 in
theorem gX7_hands_X1_doableCount : GoodIn wsX7_hands (wsV RX7 198 RX1 yX1_doableCount wsX1_doableCount) := goodIn_app (goodIn_of _ (by decide +kernel)) ggX7_hands_X1_doableCount
set_option maxRecDepth 20000 in
theorem ggX7_hands_X1_mostAtOnce : GoodIn wsX7_hands wsX1_mostAtOnce := goodIn_r _ [110, 15, 90, 93, 111, 112, 52, 113, 114, 115, 116, 12, 117, 16, 17, 124, 125, 126, 127, 128, 129, 130, 131, 132, 133, 134, 139, 140, 141, 142] (by decide +kernel) (by decide +kernel)
set_option maxRecDepth 20000 in
theorem gX7_hands_X1_mostAtOnce : GoodIn wsX7_hands (wsV RX7 201 RX1 yX1_mostAtOnce wsX1_mostAtOnce) := goodIn_app (goodIn_of _ (by decide +kernel)) ggX7_hands_X1_mostAtOnce
theorem dX7_hands_0 : decode cX7_hands 0 = .ok (.iload_n 1, 1) := by decide +kernel
theorem dX7_hands_1 : decode cX7_hands 1 = .ok (.iconst 0, 1) := by decide +kernel
theorem dX7_hands_2 : decode cX7_hands 2 = .ok (.iconst 2, 1) := by decide +kernel
theorem dX7_hands_3 : decode cX7_hands 3 = .ok (.invokestatic 49, 3) := by decide +kernel
theorem dX7_hands_6 : decode cX7_hands 6 = .ok (.ifCond .ne 6, 3) := by decide +kernel
theorem dX7_hands_9 : decode cX7_hands 9 = .ok (.bipush (-2), 2) := by decide +kernel
theorem dX7_hands_11 : decode cX7_hands 11 = .ok (.ireturn, 1) := by decide +kernel
theorem dX7_hands_12 : decode cX7_hands 12 = .ok (.aload_n 0, 1) := by decide +kernel
theorem dX7_hands_13 : decode cX7_hands 13 = .ok (.getfield 41, 3) := by decide +kernel
theorem dX7_hands_16 : decode cX7_hands 16 = .ok (.aload_n 0, 1) := by decide +kernel
theorem dX7_hands_17 : decode cX7_hands 17 = .ok (.getfield 12, 3) := by decide +kernel
theorem dX7_hands_20 : decode cX7_hands 20 = .ok (.aload_n 0, 1) := by decide +kernel
theorem dX7_hands_21 : decode cX7_hands 21 = .ok (.getfield 34, 3) := by decide +kernel
theorem dX7_hands_24 : decode cX7_hands 24 = .ok (.invokevirtual 157, 3) := by decide +kernel
theorem dX7_hands_27 : decode cX7_hands 27 = .ok (.iload_n 1, 1) := by decide +kernel
theorem dX7_hands_28 : decode cX7_hands 28 = .ok (.ifCond .ne 13, 3) := by decide +kernel
theorem dX7_hands_31 : decode cX7_hands 31 = .ok (.aload_n 0, 1) := by decide +kernel
theorem dX7_hands_32 : decode cX7_hands 32 = .ok (.getfield 41, 3) := by decide +kernel
theorem dX7_hands_35 : decode cX7_hands 35 = .ok (.getfield 195, 3) := by decide +kernel
theorem dX7_hands_38 : decode cX7_hands 38 = .ok (.goto 29, 3) := by decide +kernel
theorem dX7_hands_41 : decode cX7_hands 41 = .ok (.iload_n 1, 1) := by decide +kernel
theorem dX7_hands_42 : decode cX7_hands 42 = .ok (.iconst 1, 1) := by decide +kernel
theorem dX7_hands_43 : decode cX7_hands 43 = .ok (.if_icmp .ne 13, 3) := by decide +kernel
theorem dX7_hands_46 : decode cX7_hands 46 = .ok (.aload_n 0, 1) := by decide +kernel
theorem dX7_hands_47 : decode cX7_hands 47 = .ok (.getfield 41, 3) := by decide +kernel
theorem dX7_hands_50 : decode cX7_hands 50 = .ok (.invokevirtual 198, 3) := by decide +kernel
theorem dX7_hands_53 : decode cX7_hands 53 = .ok (.goto 14, 3) := by decide +kernel
theorem dX7_hands_56 : decode cX7_hands 56 = .ok (.aload_n 0, 1) := by decide +kernel
theorem dX7_hands_57 : decode cX7_hands 57 = .ok (.getfield 41, 3) := by decide +kernel
theorem dX7_hands_60 : decode cX7_hands 60 = .ok (.aload_n 0, 1) := by decide +kernel
theorem dX7_hands_61 : decode cX7_hands 61 = .ok (.getfield 12, 3) := by decide +kernel
theorem dX7_hands_64 : decode cX7_hands 64 = .ok (.invokevirtual 201, 3) := by decide +kernel
theorem dX7_hands_67 : decode cX7_hands 67 = .ok (.ireturn, 1) := by decide +kernel
set_option maxRecDepth 20000 in
theorem ggX7_crew_X7_within : GoodIn wsX7_crew wsX7_within := goodIn_r _ [7] (by decide +kernel) (by decide +kernel)
set_option maxRecDepth 20000 in
theorem gX7_crew_X7_within : GoodIn wsX7_crew (va_wsS RX7 49 yX7_within wsX7_within) := goodIn_app (goodIn_of _ (by decide +kernel)) ggX7_crew_X7_within
set_option maxRecDepth 20000 in
theorem ggX7_crew_X1_gather : GoodIn wsX7_crew wsX1_gather := goodIn_r _ [12, 13, 14, 15, 16, 17, 18, 19, 20, 21, 22, 23, 24, 25, 26, 27, 28, 29, 30, 31, 32, 33, 34, 35, 36, 37, 38, 39, 40, 41, 42, 43, 44, 45, 46, 47, 48, 49, 50, 51, 52, 53, 54, 55, 56, 57, 58, 59, 60, 61, 62, 63, 64, 65, 66, 67, 68, 69, 70, 71, 72, 73, 74, 75, 76, 77, 78, 79, 80, 81, 82, 83, 11, 84, 85, 86, 87, 88, 89, 90, 91, 92, 93, 94, 95, 96, 97, 98, 99, 100, 101, 116, 117, 118, 119, 120, 121, 122, 123, 124, 125, 126, 127, 128, 129, 130, 131, 132, 133, 134, 135, 136] (by decide +kernel) (by decide +kernel)
set_option maxRecDepth 20000 in
theorem gX7_crew_X1_gather : GoodIn wsX7_crew (wsV RX7 157 RX1 yX1_gather wsX1_gather) := goodIn_app (goodIn_of _ (by decide +kernel)) ggX7_crew_X1_gather
set_option maxRecDepth 20000 in
theorem ggX7_crew_X1_turn : GoodIn wsX7_crew wsX1_turn := goodIn_r _ [105, 14, 101, 106, 107, 108, 11, 109, 89, 92, 120, 121, 122, 123, 124, 125, 126, 116, 117, 118, 119, 131, 132, 133, 134] (by decide +kernel) (by decide +kernel)
set_option maxRecDepth 20000 in
theorem gX7_crew_X1_turn : GoodIn wsX7_crew (wsV RX7 205 RX1 yX1_turn wsX1_turn) := goodIn_app (goodIn_of _ (by decide +kernel)) ggX7_crew_X1_turn
theorem dX7_crew_0 : decode cX7_crew 0 = .ok (.iload_n 1, 1) := by decide +kernel
theorem dX7_crew_1 : decode cX7_crew 1 = .ok (.iconst 0, 1) := by decide +kernel
theorem dX7_crew_2 : decode cX7_crew 2 = .ok (.bipush 9, 2) := by decide +kernel
theorem dX7_crew_4 : decode cX7_crew 4 = .ok (.invokestatic 49, 3) := by decide +kernel
theorem dX7_crew_7 : decode cX7_crew 7 = .ok (.ifCond .ne 6, 3) := by decide +kernel
theorem dX7_crew_10 : decode cX7_crew 10 = .ok (.bipush (-2), 2) := by decide +kernel
theorem dX7_crew_12 : decode cX7_crew 12 = .ok (.ireturn, 1) := by decide +kernel
theorem dX7_crew_13 : decode cX7_crew 13 = .ok (.aload_n 0, 1) := by decide +kernel
theorem dX7_crew_14 : decode cX7_crew 14 = .ok (.getfield 41, 3) := by decide +kernel
theorem dX7_crew_17 : decode cX7_crew 17 = .ok (.aload_n 0, 1) := by decide +kernel
theorem dX7_crew_18 : decode cX7_crew 18 = .ok (.getfield 12, 3) := by decide +kernel
theorem dX7_crew_21 : decode cX7_crew 21 = .ok (.aload_n 0, 1) := by decide +kernel
theorem dX7_crew_22 : decode cX7_crew 22 = .ok (.getfield 34, 3) := by decide +kernel
theorem dX7_crew_25 : decode cX7_crew 25 = .ok (.invokevirtual 157, 3) := by decide +kernel
theorem dX7_crew_28 : decode cX7_crew 28 = .ok (.aload_n 0, 1) := by decide +kernel
theorem dX7_crew_29 : decode cX7_crew 29 = .ok (.getfield 41, 3) := by decide +kernel
theorem dX7_crew_32 : decode cX7_crew 32 = .ok (.aload_n 0, 1) := by decide +kernel
theorem dX7_crew_33 : decode cX7_crew 33 = .ok (.getfield 12, 3) := by decide +kernel
theorem dX7_crew_36 : decode cX7_crew 36 = .ok (.iload_n 1, 1) := by decide +kernel
theorem dX7_crew_37 : decode cX7_crew 37 = .ok (.iload_n 2, 1) := by decide +kernel
theorem dX7_crew_38 : decode cX7_crew 38 = .ok (.invokevirtual 205, 3) := by decide +kernel
theorem dX7_crew_41 : decode cX7_crew 41 = .ok (.ireturn, 1) := by decide +kernel
set_option maxRecDepth 20000 in
theorem ggX7_image_X7_within : GoodIn wsX7_image wsX7_within := goodIn_r _ [7] (by decide +kernel) (by decide +kernel)
set_option maxRecDepth 20000 in
theorem gX7_image_X7_within : GoodIn wsX7_image (va_wsS RX7 49 yX7_within wsX7_within) := goodIn_app (goodIn_of _ (by decide +kernel)) ggX7_image_X7_within
set_option maxRecDepth 20000 in
theorem ggX7_image_X6_copyFrom : GoodIn wsX7_image wsX6_copyFrom := goodIn_r _ [12, 13, 14, 15, 16, 17, 18, 19, 20, 21, 22, 23, 24, 25, 26, 27, 28, 29, 30, 31, 32, 33, 34, 35, 36, 37, 38, 39, 40, 41, 42, 43, 44, 45, 52, 53, 54, 55, 56, 57, 58, 59, 60, 61, 62, 63, 64] (by decide +kernel) (by decide +kernel)
set_option maxRecDepth 20000 in
theorem gX7_image_X6_copyFrom : GoodIn wsX7_image (wsV RX7 208 RX6 yX6_copyFrom wsX6_copyFrom) := goodIn_app (goodIn_of _ (by decide +kernel)) ggX7_image_X6_copyFrom
theorem dX7_image_0 : decode cX7_image 0 = .ok (.iload_n 1, 1) := by decide +kernel
theorem dX7_image_1 : decode cX7_image 1 = .ok (.iconst 0, 1) := by decide +kernel
theorem dX7_image_2 : decode cX7_image 2 = .ok (.iconst 1, 1) := by decide +kernel
theorem dX7_image_3 : decode cX7_image 3 = .ok (.invokestatic 49, 3) := by decide +kernel
theorem dX7_image_6 : decode cX7_image 6 = .ok (.ifCond .ne 6, 3) := by decide +kernel
theorem dX7_image_9 : decode cX7_image 9 = .ok (.bipush (-2), 2) := by decide +kernel
theorem dX7_image_11 : decode cX7_image 11 = .ok (.ireturn, 1) := by decide +kernel
theorem dX7_image_12 : decode cX7_image 12 = .ok (.aload_n 0, 1) := by decide +kernel
theorem dX7_image_13 : decode cX7_image 13 = .ok (.getfield 16, 3) := by decide +kernel
theorem dX7_image_16 : decode cX7_image 16 = .ok (.iload_n 1, 1) := by decide +kernel
theorem dX7_image_17 : decode cX7_image 17 = .ok (.aaload, 1) := by decide +kernel
theorem dX7_image_18 : decode cX7_image 18 = .ok (.aload_n 0, 1) := by decide +kernel
theorem dX7_image_19 : decode cX7_image 19 = .ok (.getfield 12, 3) := by decide +kernel
theorem dX7_image_22 : decode cX7_image 22 = .ok (.invokevirtual 208, 3) := by decide +kernel
theorem dX7_image_25 : decode cX7_image 25 = .ok (.aload_n 0, 1) := by decide +kernel
theorem dX7_image_26 : decode cX7_image 26 = .ok (.dup, 1) := by decide +kernel
theorem dX7_image_27 : decode cX7_image 27 = .ok (.getfield 20, 3) := by decide +kernel
theorem dX7_image_30 : decode cX7_image 30 = .ok (.iconst 1, 1) := by decide +kernel
theorem dX7_image_31 : decode cX7_image 31 = .ok (.iload_n 1, 1) := by decide +kernel
theorem dX7_image_32 : decode cX7_image 32 = .ok (.ishl, 1) := by decide +kernel
theorem dX7_image_33 : decode cX7_image 33 = .ok (.ior, 1) := by decide +kernel
theorem dX7_image_34 : decode cX7_image 34 = .ok (.putfield 20, 3) := by decide +kernel
theorem dX7_image_37 : decode cX7_image 37 = .ok (.iconst 1, 1) := by decide +kernel
theorem dX7_image_38 : decode cX7_image 38 = .ok (.ireturn, 1) := by decide +kernel
set_option maxRecDepth 20000 in
theorem ggX7_restore_X7_within : GoodIn wsX7_restore wsX7_within := goodIn_r _ [7] (by decide +kernel) (by decide +kernel)
set_option maxRecDepth 20000 in
theorem gX7_restore_X7_within : GoodIn wsX7_restore (va_wsS RX7 49 yX7_within wsX7_within) := goodIn_app (goodIn_of _ (by decide +kernel)) ggX7_restore_X7_within
set_option maxRecDepth 20000 in
theorem ggX7_restore_X6_copyFrom : GoodIn wsX7_restore wsX6_copyFrom := goodIn_r _ [12, 13, 14, 15, 16, 17, 18, 19, 20, 21, 22, 23, 24, 25, 26, 27, 28, 29, 30, 31, 32, 33, 34, 35, 36, 37, 38, 39, 40, 41, 42, 43, 44, 45, 52, 53, 54, 55, 56, 57, 58, 59, 60, 61, 62, 63, 64] (by decide +kernel) (by decide +kernel)
set_option maxRecDepth 20000 in
theorem gX7_restore_X6_copyFrom : GoodIn wsX7_restore (wsV RX7 208 RX6 yX6_copyFrom wsX6_copyFrom) := goodIn_app (goodIn_of _ (by decide +kernel)) ggX7_restore_X6_copyFrom
theorem dX7_restore_0 : decode cX7_restore 0 = .ok (.iload_n 1, 1) := by decide +kernel
theorem dX7_restore_1 : decode cX7_restore 1 = .ok (.iconst 0, 1) := by decide +kernel
theorem dX7_restore_2 : decode cX7_restore 2 = .ok (.iconst 1, 1) := by decide +kernel
theorem dX7_restore_3 : decode cX7_restore 3 = .ok (.invokestatic 49, 3) := by decide +kernel
theorem dX7_restore_6 : decode cX7_restore 6 = .ok (.ifCond .ne 6, 3) := by decide +kernel
theorem dX7_restore_9 : decode cX7_restore 9 = .ok (.bipush (-2), 2) := by decide +kernel
theorem dX7_restore_11 : decode cX7_restore 11 = .ok (.ireturn, 1) := by decide +kernel
theorem dX7_restore_12 : decode cX7_restore 12 = .ok (.aload_n 0, 1) := by decide +kernel
theorem dX7_restore_13 : decode cX7_restore 13 = .ok (.getfield 20, 3) := by decide +kernel
theorem dX7_restore_16 : decode cX7_restore 16 = .ok (.iload_n 1, 1) := by decide +kernel
theorem dX7_restore_17 : decode cX7_restore 17 = .ok (.ishr, 1) := by decide +kernel
theorem dX7_restore_18 : decode cX7_restore 18 = .ok (.iconst 1, 1) := by decide +kernel
theorem dX7_restore_19 : decode cX7_restore 19 = .ok (.iand, 1) := by decide +kernel
theorem dX7_restore_20 : decode cX7_restore 20 = .ok (.ifCond .ne 6, 3) := by decide +kernel
theorem dX7_restore_23 : decode cX7_restore 23 = .ok (.bipush (-3), 2) := by decide +kernel
theorem dX7_restore_25 : decode cX7_restore 25 = .ok (.ireturn, 1) := by decide +kernel
theorem dX7_restore_26 : decode cX7_restore 26 = .ok (.aload_n 0, 1) := by decide +kernel
theorem dX7_restore_27 : decode cX7_restore 27 = .ok (.getfield 12, 3) := by decide +kernel
theorem dX7_restore_30 : decode cX7_restore 30 = .ok (.aload_n 0, 1) := by decide +kernel
theorem dX7_restore_31 : decode cX7_restore 31 = .ok (.getfield 16, 3) := by decide +kernel
theorem dX7_restore_34 : decode cX7_restore 34 = .ok (.iload_n 1, 1) := by decide +kernel
theorem dX7_restore_35 : decode cX7_restore 35 = .ok (.aaload, 1) := by decide +kernel
theorem dX7_restore_36 : decode cX7_restore 36 = .ok (.invokevirtual 208, 3) := by decide +kernel
theorem dX7_restore_39 : decode cX7_restore 39 = .ok (.iconst 1, 1) := by decide +kernel
theorem dX7_restore_40 : decode cX7_restore 40 = .ok (.ireturn, 1) := by decide +kernel
set_option maxRecDepth 20000 in
theorem ggX7_count_X6_evenBars : GoodIn wsX7_count wsX6_evenBars := goodIn_r _ [9, 10, 11, 12, 13, 14, 15, 16, 17, 18, 19, 20, 21, 22, 23, 24, 25, 26, 27, 28, 29, 91, 92, 93, 94, 95, 96, 97, 98, 99] (by decide +kernel) (by decide +kernel)
set_option maxRecDepth 20000 in
theorem gX7_count_X6_evenBars : GoodIn wsX7_count (wsV RX7 211 RX6 yX6_evenBars wsX6_evenBars) := goodIn_app (goodIn_of _ (by decide +kernel)) ggX7_count_X6_evenBars
set_option maxRecDepth 20000 in
theorem ggX7_count_X6_nearPairs : GoodIn wsX7_count wsX6_nearPairs := goodIn_r _ [33, 34, 35, 36, 8, 37, 38, 20, 21, 22, 10, 39, 91, 92, 93, 94, 95, 96, 97] (by decide +kernel) (by decide +kernel)
set_option maxRecDepth 20000 in
theorem gX7_count_X6_nearPairs : GoodIn wsX7_count (wsV RX7 214 RX6 yX6_nearPairs wsX6_nearPairs) := goodIn_app (goodIn_of _ (by decide +kernel)) ggX7_count_X6_nearPairs
set_option maxRecDepth 20000 in
theorem ggX7_count_X7_lastEnd : GoodIn wsX7_count wsX7_lastEnd := goodIn_r _ [44, 45, 1, 2, 46, 47, 21, 48, 49, 50, 51, 52, 53, 54, 55, 56, 57, 58, 59, 60, 61, 62, 63, 64, 65, 8, 66, 67, 68, 69, 70, 71, 72, 73, 74, 75, 76, 77, 20, 22, 78, 79, 80, 81, 82, 83, 84, 85, 86, 87, 88, 89, 90, 91, 92, 93, 94, 100, 95, 96, 97, 101, 102, 103, 104] (by decide +kernel) (by decide +kernel)
set_option maxRecDepth 20000 in
theorem gX7_count_X7_lastEnd : GoodIn wsX7_count (wsV RX7 217 RX7 yX7_lastEnd wsX7_lastEnd) := goodIn_app (goodIn_of _ (by decide +kernel)) ggX7_count_X7_lastEnd
theorem dX7_count_0 : decode cX7_count 0 = .ok (.iload_n 1, 1) := by decide +kernel
theorem dX7_count_1 : decode cX7_count 1 = .ok (.tableswitch 81 0 5 #[39, 47, 55, 63, 71, 76], 39) := by decide +kernel
theorem dX7_count_40 : decode cX7_count 40 = .ok (.aload_n 0, 1) := by decide +kernel
theorem dX7_count_41 : decode cX7_count 41 = .ok (.getfield 12, 3) := by decide +kernel
theorem dX7_count_44 : decode cX7_count 44 = .ok (.getfield 123, 3) := by decide +kernel
theorem dX7_count_47 : decode cX7_count 47 = .ok (.ireturn, 1) := by decide +kernel
theorem dX7_count_48 : decode cX7_count 48 = .ok (.aload_n 0, 1) := by decide +kernel
theorem dX7_count_49 : decode cX7_count 49 = .ok (.getfield 12, 3) := by decide +kernel
theorem dX7_count_52 : decode cX7_count 52 = .ok (.getfield 57, 3) := by decide +kernel
theorem dX7_count_55 : decode cX7_count 55 = .ok (.ireturn, 1) := by decide +kernel
theorem dX7_count_56 : decode cX7_count 56 = .ok (.aload_n 0, 1) := by decide +kernel
theorem dX7_count_57 : decode cX7_count 57 = .ok (.getfield 12, 3) := by decide +kernel
theorem dX7_count_60 : decode cX7_count 60 = .ok (.invokevirtual 211, 3) := by decide +kernel
theorem dX7_count_63 : decode cX7_count 63 = .ok (.ireturn, 1) := by decide +kernel
theorem dX7_count_64 : decode cX7_count 64 = .ok (.aload_n 0, 1) := by decide +kernel
theorem dX7_count_65 : decode cX7_count 65 = .ok (.getfield 12, 3) := by decide +kernel
theorem dX7_count_68 : decode cX7_count 68 = .ok (.invokevirtual 214, 3) := by decide +kernel
theorem dX7_count_71 : decode cX7_count 71 = .ok (.ireturn, 1) := by decide +kernel
theorem dX7_count_72 : decode cX7_count 72 = .ok (.aload_n 0, 1) := by decide +kernel
theorem dX7_count_73 : decode cX7_count 73 = .ok (.invokevirtual 217, 3) := by decide +kernel
theorem dX7_count_76 : decode cX7_count 76 = .ok (.ireturn, 1) := by decide +kernel
theorem dX7_count_77 : decode cX7_count 77 = .ok (.aload_n 0, 1) := by decide +kernel
theorem dX7_count_78 : decode cX7_count 78 = .ok (.getfield 20, 3) := by decide +kernel
theorem dX7_count_81 : decode cX7_count 81 = .ok (.ireturn, 1) := by decide +kernel
theorem dX7_count_82 : decode cX7_count 82 = .ok (.bipush (-2), 2) := by decide +kernel
theorem dX7_count_84 : decode cX7_count 84 = .ok (.ireturn, 1) := by decide +kernel
theorem dX7_within_0 : decode cX7_within 0 = .ok (.iload_n 0, 1) := by decide +kernel
theorem dX7_within_1 : decode cX7_within 1 = .ok (.iload_n 1, 1) := by decide +kernel
theorem dX7_within_2 : decode cX7_within 2 = .ok (.if_icmp .lt 12, 3) := by decide +kernel
theorem dX7_within_5 : decode cX7_within 5 = .ok (.iload_n 0, 1) := by decide +kernel
theorem dX7_within_6 : decode cX7_within 6 = .ok (.iload_n 2, 1) := by decide +kernel
theorem dX7_within_7 : decode cX7_within 7 = .ok (.if_icmp .gt 7, 3) := by decide +kernel
theorem dX7_within_10 : decode cX7_within 10 = .ok (.iconst 1, 1) := by decide +kernel
theorem dX7_within_11 : decode cX7_within 11 = .ok (.goto 4, 3) := by decide +kernel
theorem dX7_within_14 : decode cX7_within 14 = .ok (.iconst 0, 1) := by decide +kernel
theorem dX7_within_15 : decode cX7_within 15 = .ok (.ireturn, 1) := by decide +kernel
set_option maxRecDepth 20000 in
theorem ggX7_isBar_X7_within : GoodIn wsX7_isBar wsX7_within := goodIn_r _ [4] (by decide +kernel) (by decide +kernel)
set_option maxRecDepth 20000 in
theorem gX7_isBar_X7_within : GoodIn wsX7_isBar (va_wsS RX7 49 yX7_within wsX7_within) := goodIn_app (goodIn_of _ (by decide +kernel)) ggX7_isBar_X7_within
theorem dX7_isBar_0 : decode cX7_isBar 0 = .ok (.iload_n 0, 1) := by decide +kernel
theorem dX7_isBar_1 : decode cX7_isBar 1 = .ok (.iconst 0, 1) := by decide +kernel
theorem dX7_isBar_2 : decode cX7_isBar 2 = .ok (.bipush 9, 2) := by decide +kernel
theorem dX7_isBar_4 : decode cX7_isBar 4 = .ok (.invokestatic 49, 3) := by decide +kernel
theorem dX7_isBar_7 : decode cX7_isBar 7 = .ok (.ireturn, 1) := by decide +kernel
set_option maxRecDepth 20000 in
theorem ggX7_isTime_X7_within : GoodIn wsX7_isTime wsX7_within := goodIn_r _ [4] (by decide +kernel) (by decide +kernel)
set_option maxRecDepth 20000 in
theorem gX7_isTime_X7_within : GoodIn wsX7_isTime (va_wsS RX7 49 yX7_within wsX7_within) := goodIn_app (goodIn_of _ (by decide +kernel)) ggX7_isTime_X7_within
theorem dX7_isTime_0 : decode cX7_isTime 0 = .ok (.iload_n 0, 1) := by decide +kernel
theorem dX7_isTime_1 : decode cX7_isTime 1 = .ok (.iconst 0, 1) := by decide +kernel
theorem dX7_isTime_2 : decode cX7_isTime 2 = .ok (.sipush 300, 3) := by decide +kernel
theorem dX7_isTime_5 : decode cX7_isTime 5 = .ok (.invokestatic 49, 3) := by decide +kernel
theorem dX7_isTime_8 : decode cX7_isTime 8 = .ok (.ireturn, 1) := by decide +kernel
set_option maxRecDepth 20000 in
theorem ggX7_isMove_X7_within : GoodIn wsX7_isMove wsX7_within := goodIn_r _ [6] (by decide +kernel) (by decide +kernel)
set_option maxRecDepth 20000 in
theorem gX7_isMove_X7_within : GoodIn wsX7_isMove (va_wsS RX7 49 yX7_within wsX7_within) := goodIn_app (goodIn_of _ (by decide +kernel)) ggX7_isMove_X7_within
theorem dX7_isMove_0 : decode cX7_isMove 0 = .ok (.iload_n 1, 1) := by decide +kernel
theorem dX7_isMove_1 : decode cX7_isMove 1 = .ok (.iconst 0, 1) := by decide +kernel
theorem dX7_isMove_2 : decode cX7_isMove 2 = .ok (.aload_n 0, 1) := by decide +kernel
theorem dX7_isMove_3 : decode cX7_isMove 3 = .ok (.getfield 12, 3) := by decide +kernel
theorem dX7_isMove_6 : decode cX7_isMove 6 = .ok (.getfield 123, 3) := by decide +kernel
theorem dX7_isMove_9 : decode cX7_isMove 9 = .ok (.iconst 1, 1) := by decide +kernel
theorem dX7_isMove_10 : decode cX7_isMove 10 = .ok (.isub, 1) := by decide +kernel
theorem dX7_isMove_11 : decode cX7_isMove 11 = .ok (.invokestatic 49, 3) := by decide +kernel
theorem dX7_isMove_14 : decode cX7_isMove 14 = .ok (.ireturn, 1) := by decide +kernel
set_option maxRecDepth 20000 in
theorem ggX7_flownBy_X2_trace : GoodIn wsX7_flownBy wsX2_trace := goodIn_r _ [12, 13, 14, 15, 16, 17, 18, 19, 20, 21, 22, 23, 24, 25, 26, 27, 28, 29, 30, 31, 32, 33, 34, 35, 36, 37, 58, 50, 51, 52, 53, 59, 60, 61, 54, 55, 56, 57] (by decide +kernel) (by decide +kernel)
set_option maxRecDepth 20000 in
theorem gX7_flownBy_X2_trace : GoodIn wsX7_flownBy (wsV RX7 167 RX2 yX2_trace wsX2_trace) := goodIn_app (goodIn_of _ (by decide +kernel)) ggX7_flownBy_X2_trace
set_option maxRecDepth 20000 in
theorem ggX7_flownBy_X2_endOf : GoodIn wsX7_flownBy wsX2_endOf := goodIn_r _ [41, 16, 42, 17, 13, 43, 18, 19, 20, 21, 22, 23, 24, 25, 26, 50, 51, 52, 53, 54, 55, 56, 57, 58] (by decide +kernel) (by decide +kernel)
set_option maxRecDepth 20000 in
theorem gX7_flownBy_X2_endOf : GoodIn wsX7_flownBy (wsV RX7 220 RX2 yX2_endOf wsX2_endOf) := goodIn_app (goodIn_of _ (by decide +kernel)) ggX7_flownBy_X2_endOf
theorem dX7_flownBy_0 : decode cX7_flownBy 0 = .ok (.aload_n 0, 1) := by decide +kernel
theorem dX7_flownBy_1 : decode cX7_flownBy 1 = .ok (.getfield 12, 3) := by decide +kernel
theorem dX7_flownBy_4 : decode cX7_flownBy 4 = .ok (.getfield 136, 3) := by decide +kernel
theorem dX7_flownBy_7 : decode cX7_flownBy 7 = .ok (.iload_n 1, 1) := by decide +kernel
theorem dX7_flownBy_8 : decode cX7_flownBy 8 = .ok (.aaload, 1) := by decide +kernel
theorem dX7_flownBy_9 : decode cX7_flownBy 9 = .ok (.astore_n 3, 1) := by decide +kernel
theorem dX7_flownBy_10 : decode cX7_flownBy 10 = .ok (.aload_n 0, 1) := by decide +kernel
theorem dX7_flownBy_11 : decode cX7_flownBy 11 = .ok (.getfield 34, 3) := by decide +kernel
theorem dX7_flownBy_14 : decode cX7_flownBy 14 = .ok (.aload_n 0, 1) := by decide +kernel
theorem dX7_flownBy_15 : decode cX7_flownBy 15 = .ok (.getfield 12, 3) := by decide +kernel
theorem dX7_flownBy_18 : decode cX7_flownBy 18 = .ok (.aload_n 3, 1) := by decide +kernel
theorem dX7_flownBy_19 : decode cX7_flownBy 19 = .ok (.getfield 145, 3) := by decide +kernel
theorem dX7_flownBy_22 : decode cX7_flownBy 22 = .ok (.invokevirtual 167, 3) := by decide +kernel
theorem dX7_flownBy_25 : decode cX7_flownBy 25 = .ok (.aload_n 0, 1) := by decide +kernel
theorem dX7_flownBy_26 : decode cX7_flownBy 26 = .ok (.getfield 34, 3) := by decide +kernel
theorem dX7_flownBy_29 : decode cX7_flownBy 29 = .ok (.aload_n 0, 1) := by decide +kernel
theorem dX7_flownBy_30 : decode cX7_flownBy 30 = .ok (.getfield 12, 3) := by decide +kernel
theorem dX7_flownBy_33 : decode cX7_flownBy 33 = .ok (.iload_n 1, 1) := by decide +kernel
theorem dX7_flownBy_34 : decode cX7_flownBy 34 = .ok (.invokevirtual 220, 3) := by decide +kernel
theorem dX7_flownBy_37 : decode cX7_flownBy 37 = .ok (.istore 4, 2) := by decide +kernel
theorem dX7_flownBy_39 : decode cX7_flownBy 39 = .ok (.aload_n 0, 1) := by decide +kernel
theorem dX7_flownBy_40 : decode cX7_flownBy 40 = .ok (.getfield 34, 3) := by decide +kernel
theorem dX7_flownBy_43 : decode cX7_flownBy 43 = .ok (.getfield 171, 3) := by decide +kernel
theorem dX7_flownBy_46 : decode cX7_flownBy 46 = .ok (.aload_n 3, 1) := by decide +kernel
theorem dX7_flownBy_47 : decode cX7_flownBy 47 = .ok (.getfield 145, 3) := by decide +kernel
theorem dX7_flownBy_50 : decode cX7_flownBy 50 = .ok (.aaload, 1) := by decide +kernel
theorem dX7_flownBy_51 : decode cX7_flownBy 51 = .ok (.iload 4, 2) := by decide +kernel
theorem dX7_flownBy_53 : decode cX7_flownBy 53 = .ok (.iaload, 1) := by decide +kernel
theorem dX7_flownBy_54 : decode cX7_flownBy 54 = .ok (.istore 5, 2) := by decide +kernel
theorem dX7_flownBy_56 : decode cX7_flownBy 56 = .ok (.iload_n 2, 1) := by decide +kernel
theorem dX7_flownBy_57 : decode cX7_flownBy 57 = .ok (.tableswitch 51 4 6 #[27, 30, 48], 27) := by decide +kernel
theorem dX7_flownBy_84 : decode cX7_flownBy 84 = .ok (.iload 4, 2) := by decide +kernel
theorem dX7_flownBy_86 : decode cX7_flownBy 86 = .ok (.ireturn, 1) := by decide +kernel
theorem dX7_flownBy_87 : decode cX7_flownBy 87 = .ok (.aload_n 0, 1) := by decide +kernel
theorem dX7_flownBy_88 : decode cX7_flownBy 88 = .ok (.getfield 34, 3) := by decide +kernel
theorem dX7_flownBy_91 : decode cX7_flownBy 91 = .ok (.getfield 171, 3) := by decide +kernel
theorem dX7_flownBy_94 : decode cX7_flownBy 94 = .ok (.aload_n 3, 1) := by decide +kernel
theorem dX7_flownBy_95 : decode cX7_flownBy 95 = .ok (.getfield 145, 3) := by decide +kernel
theorem dX7_flownBy_98 : decode cX7_flownBy 98 = .ok (.aaload, 1) := by decide +kernel
theorem dX7_flownBy_99 : decode cX7_flownBy 99 = .ok (.aload_n 3, 1) := by decide +kernel
theorem dX7_flownBy_100 : decode cX7_flownBy 100 = .ok (.getfield 140, 3) := by decide +kernel
theorem dX7_flownBy_103 : decode cX7_flownBy 103 = .ok (.iaload, 1) := by decide +kernel
theorem dX7_flownBy_104 : decode cX7_flownBy 104 = .ok (.ireturn, 1) := by decide +kernel
theorem dX7_flownBy_105 : decode cX7_flownBy 105 = .ok (.iload 5, 2) := by decide +kernel
theorem dX7_flownBy_107 : decode cX7_flownBy 107 = .ok (.ireturn, 1) := by decide +kernel
theorem dX7_flownBy_108 : decode cX7_flownBy 108 = .ok (.iload 5, 2) := by decide +kernel
theorem dX7_flownBy_110 : decode cX7_flownBy 110 = .ok (.aload_n 3, 1) := by decide +kernel
theorem dX7_flownBy_111 : decode cX7_flownBy 111 = .ok (.getfield 148, 3) := by decide +kernel
theorem dX7_flownBy_114 : decode cX7_flownBy 114 = .ok (.if_icmp .eq 7, 3) := by decide +kernel
theorem dX7_flownBy_117 : decode cX7_flownBy 117 = .ok (.iconst 1, 1) := by decide +kernel
theorem dX7_flownBy_118 : decode cX7_flownBy 118 = .ok (.goto 4, 3) := by decide +kernel
theorem dX7_flownBy_121 : decode cX7_flownBy 121 = .ok (.iconst 0, 1) := by decide +kernel
theorem dX7_flownBy_122 : decode cX7_flownBy 122 = .ok (.ireturn, 1) := by decide +kernel
set_option maxRecDepth 20000 in
theorem ggX7_lastEnd_X2_traceAll : GoodIn wsX7_lastEnd wsX2_traceAll := goodIn_r _ [12, 13, 14, 15, 11, 16, 17, 18, 19, 20, 21, 22, 23, 24, 25, 26, 27, 28, 29, 30, 31, 32, 33, 34, 35, 36, 37, 38, 6, 39, 40, 57, 53, 54, 55, 56, 58, 59, 60, 61, 62, 63, 64] (by decide +kernel) (by decide +kernel)
set_option maxRecDepth 20000 in
theorem gX7_lastEnd_X2_traceAll : GoodIn wsX7_lastEnd (wsV RX7 183 RX2 yX2_traceAll wsX2_traceAll) := goodIn_app (goodIn_of _ (by decide +kernel)) ggX7_lastEnd_X2_traceAll
set_option maxRecDepth 20000 in
theorem ggX7_lastEnd_X2_endOf : GoodIn wsX7_lastEnd wsX2_endOf := goodIn_r _ [44, 20, 45, 21, 17, 46, 22, 23, 24, 25, 26, 27, 28, 29, 30, 53, 54, 55, 56, 61, 62, 63, 64, 57] (by decide +kernel) (by decide +kernel)
set_option maxRecDepth 20000 in
theorem gX7_lastEnd_X2_endOf : GoodIn wsX7_lastEnd (wsV RX7 220 RX2 yX2_endOf wsX2_endOf) := goodIn_app (goodIn_of _ (by decide +kernel)) ggX7_lastEnd_X2_endOf
theorem dX7_lastEnd_0 : decode cX7_lastEnd 0 = .ok (.aload_n 0, 1) := by decide +kernel
theorem dX7_lastEnd_1 : decode cX7_lastEnd 1 = .ok (.getfield 34, 3) := by decide +kernel
theorem dX7_lastEnd_4 : decode cX7_lastEnd 4 = .ok (.aload_n 0, 1) := by decide +kernel
theorem dX7_lastEnd_5 : decode cX7_lastEnd 5 = .ok (.getfield 12, 3) := by decide +kernel
theorem dX7_lastEnd_8 : decode cX7_lastEnd 8 = .ok (.invokevirtual 183, 3) := by decide +kernel
theorem dX7_lastEnd_11 : decode cX7_lastEnd 11 = .ok (.bipush (-6), 2) := by decide +kernel
theorem dX7_lastEnd_13 : decode cX7_lastEnd 13 = .ok (.istore_n 1, 1) := by decide +kernel
theorem dX7_lastEnd_14 : decode cX7_lastEnd 14 = .ok (.iconst 0, 1) := by decide +kernel
theorem dX7_lastEnd_15 : decode cX7_lastEnd 15 = .ok (.istore_n 2, 1) := by decide +kernel
theorem dX7_lastEnd_16 : decode cX7_lastEnd 16 = .ok (.iload_n 2, 1) := by decide +kernel
theorem dX7_lastEnd_17 : decode cX7_lastEnd 17 = .ok (.aload_n 0, 1) := by decide +kernel
theorem dX7_lastEnd_18 : decode cX7_lastEnd 18 = .ok (.getfield 12, 3) := by decide +kernel
theorem dX7_lastEnd_21 : decode cX7_lastEnd 21 = .ok (.getfield 123, 3) := by decide +kernel
theorem dX7_lastEnd_24 : decode cX7_lastEnd 24 = .ok (.if_icmp .ge 26, 3) := by decide +kernel
theorem dX7_lastEnd_27 : decode cX7_lastEnd 27 = .ok (.iload_n 1, 1) := by decide +kernel
theorem dX7_lastEnd_28 : decode cX7_lastEnd 28 = .ok (.aload_n 0, 1) := by decide +kernel
theorem dX7_lastEnd_29 : decode cX7_lastEnd 29 = .ok (.getfield 34, 3) := by decide +kernel
theorem dX7_lastEnd_32 : decode cX7_lastEnd 32 = .ok (.aload_n 0, 1) := by decide +kernel
theorem dX7_lastEnd_33 : decode cX7_lastEnd 33 = .ok (.getfield 12, 3) := by decide +kernel
theorem dX7_lastEnd_36 : decode cX7_lastEnd 36 = .ok (.iload_n 2, 1) := by decide +kernel
theorem dX7_lastEnd_37 : decode cX7_lastEnd 37 = .ok (.invokevirtual 220, 3) := by decide +kernel
theorem dX7_lastEnd_40 : decode cX7_lastEnd 40 = .ok (.invokestatic 224, 3) := by decide +kernel
theorem dX7_lastEnd_43 : decode cX7_lastEnd 43 = .ok (.istore_n 1, 1) := by decide +kernel
theorem dX7_lastEnd_44 : decode cX7_lastEnd 44 = .ok (.iinc 2 1, 3) := by decide +kernel
theorem dX7_lastEnd_47 : decode cX7_lastEnd 47 = .ok (.goto (-31), 3) := by decide +kernel
theorem dX7_lastEnd_50 : decode cX7_lastEnd 50 = .ok (.iload_n 1, 1) := by decide +kernel
theorem dX7_lastEnd_51 : decode cX7_lastEnd 51 = .ok (.ireturn, 1) := by decide +kernel
theorem dX8_init_0 : decode cX8_init 0 = .ok (.aload_n 0, 1) := by decide +kernel
theorem dX8_init_1 : decode cX8_init 1 = .ok (.invokespecial 1, 3) := by decide +kernel
theorem dX8_init_4 : decode cX8_init 4 = .ok (.aload_n 0, 1) := by decide +kernel
theorem dX8_init_5 : decode cX8_init 5 = .ok (.sipush 212, 3) := by decide +kernel
theorem dX8_init_8 : decode cX8_init 8 = .ok (.newarray .int, 2) := by decide +kernel
theorem dX8_init_10 : decode cX8_init 10 = .ok (.putfield 7, 3) := by decide +kernel
theorem dX8_init_13 : decode cX8_init 13 = .ok (.aload_n 0, 1) := by decide +kernel
theorem dX8_init_14 : decode cX8_init 14 = .ok (.sipush 424, 3) := by decide +kernel
theorem dX8_init_17 : decode cX8_init 17 = .ok (.newarray .int, 2) := by decide +kernel
theorem dX8_init_19 : decode cX8_init 19 = .ok (.putfield 13, 3) := by decide +kernel
theorem dX8_init_22 : decode cX8_init 22 = .ok (.aload_n 0, 1) := by decide +kernel
theorem dX8_init_23 : decode cX8_init 23 = .ok (.iconst 2, 1) := by decide +kernel
theorem dX8_init_24 : decode cX8_init 24 = .ok (.newarray .boolean, 2) := by decide +kernel
theorem dX8_init_26 : decode cX8_init 26 = .ok (.putfield 16, 3) := by decide +kernel
theorem dX8_init_29 : decode cX8_init 29 = .ok (.aload_n 0, 1) := by decide +kernel
theorem dX8_init_30 : decode cX8_init 30 = .ok (.sipush 4096, 3) := by decide +kernel
theorem dX8_init_33 : decode cX8_init 33 = .ok (.newarray .int, 2) := by decide +kernel
theorem dX8_init_35 : decode cX8_init 35 = .ok (.putfield 20, 3) := by decide +kernel
theorem dX8_init_38 : decode cX8_init 38 = .ok (.aload_n 0, 1) := by decide +kernel
theorem dX8_init_39 : decode cX8_init 39 = .ok (.sipush 301, 3) := by decide +kernel
theorem dX8_init_42 : decode cX8_init 42 = .ok (.newarray .int, 2) := by decide +kernel
theorem dX8_init_44 : decode cX8_init 44 = .ok (.putfield 23, 3) := by decide +kernel
theorem dX8_init_47 : decode cX8_init 47 = .ok (.aload_n 0, 1) := by decide +kernel
theorem dX8_init_48 : decode cX8_init 48 = .ok (.sipush 3010, 3) := by decide +kernel
theorem dX8_init_51 : decode cX8_init 51 = .ok (.newarray .int, 2) := by decide +kernel
theorem dX8_init_53 : decode cX8_init 53 = .ok (.putfield 26, 3) := by decide +kernel
theorem dX8_init_56 : decode cX8_init 56 = .ok (.aload_n 0, 1) := by decide +kernel
theorem dX8_init_57 : decode cX8_init 57 = .ok (.bipush 10, 2) := by decide +kernel
theorem dX8_init_59 : decode cX8_init 59 = .ok (.newarray .int, 2) := by decide +kernel
theorem dX8_init_61 : decode cX8_init 61 = .ok (.putfield 29, 3) := by decide +kernel
theorem dX8_init_64 : decode cX8_init 64 = .ok (.aload_n 0, 1) := by decide +kernel
theorem dX8_init_65 : decode cX8_init 65 = .ok (.bipush 10, 2) := by decide +kernel
theorem dX8_init_67 : decode cX8_init 67 = .ok (.newarray .int, 2) := by decide +kernel
theorem dX8_init_69 : decode cX8_init 69 = .ok (.putfield 32, 3) := by decide +kernel
theorem dX8_init_72 : decode cX8_init 72 = .ok (.aload_n 0, 1) := by decide +kernel
theorem dX8_init_73 : decode cX8_init 73 = .ok (.sipush 1024, 3) := by decide +kernel
theorem dX8_init_76 : decode cX8_init 76 = .ok (.newarray .boolean, 2) := by decide +kernel
theorem dX8_init_78 : decode cX8_init 78 = .ok (.putfield 35, 3) := by decide +kernel
theorem dX8_init_81 : decode cX8_init 81 = .ok (.aload_n 0, 1) := by decide +kernel
theorem dX8_init_82 : decode cX8_init 82 = .ok (.sipush 1024, 3) := by decide +kernel
theorem dX8_init_85 : decode cX8_init 85 = .ok (.newarray .int, 2) := by decide +kernel
theorem dX8_init_87 : decode cX8_init 87 = .ok (.putfield 38, 3) := by decide +kernel
theorem dX8_init_90 : decode cX8_init 90 = .ok (.aload_n 0, 1) := by decide +kernel
theorem dX8_init_91 : decode cX8_init 91 = .ok (.bipush 10, 2) := by decide +kernel
theorem dX8_init_93 : decode cX8_init 93 = .ok (.newarray .int, 2) := by decide +kernel
theorem dX8_init_95 : decode cX8_init 95 = .ok (.putfield 41, 3) := by decide +kernel
theorem dX8_init_98 : decode cX8_init 98 = .ok (.iconst 0, 1) := by decide +kernel
theorem dX8_init_99 : decode cX8_init 99 = .ok (.istore_n 1, 1) := by decide +kernel
theorem dX8_init_100 : decode cX8_init 100 = .ok (.iload_n 1, 1) := by decide +kernel
theorem dX8_init_101 : decode cX8_init 101 = .ok (.bipush 10, 2) := by decide +kernel
theorem dX8_init_103 : decode cX8_init 103 = .ok (.if_icmp .ge 19, 3) := by decide +kernel
theorem dX8_init_106 : decode cX8_init 106 = .ok (.aload_n 0, 1) := by decide +kernel
theorem dX8_init_107 : decode cX8_init 107 = .ok (.getfield 7, 3) := by decide +kernel
theorem dX8_init_110 : decode cX8_init 110 = .ok (.iconst 0, 1) := by decide +kernel
theorem dX8_init_111 : decode cX8_init 111 = .ok (.iload_n 1, 1) := by decide +kernel
theorem dX8_init_112 : decode cX8_init 112 = .ok (.iadd, 1) := by decide +kernel
theorem dX8_init_113 : decode cX8_init 113 = .ok (.bipush 60, 2) := by decide +kernel
theorem dX8_init_115 : decode cX8_init 115 = .ok (.iastore, 1) := by decide +kernel
theorem dX8_init_116 : decode cX8_init 116 = .ok (.iinc 1 1, 3) := by decide +kernel
theorem dX8_init_119 : decode cX8_init 119 = .ok (.goto (-19), 3) := by decide +kernel
theorem dX8_init_122 : decode cX8_init 122 = .ok (.aload_n 0, 1) := by decide +kernel
theorem dX8_init_123 : decode cX8_init 123 = .ok (.getfield 7, 3) := by decide +kernel
theorem dX8_init_126 : decode cX8_init 126 = .ok (.sipush 170, 3) := by decide +kernel
theorem dX8_init_129 : decode cX8_init 129 = .ok (.bipush 20, 2) := by decide +kernel
theorem dX8_init_131 : decode cX8_init 131 = .ok (.iastore, 1) := by decide +kernel
theorem dX8_init_132 : decode cX8_init 132 = .ok (.return_, 1) := by decide +kernel
theorem dX8_in_0 : decode cX8_in 0 = .ok (.iload_n 0, 1) := by decide +kernel
theorem dX8_in_1 : decode cX8_in 1 = .ok (.iload_n 1, 1) := by decide +kernel
theorem dX8_in_2 : decode cX8_in 2 = .ok (.if_icmp .lt 12, 3) := by decide +kernel
theorem dX8_in_5 : decode cX8_in 5 = .ok (.iload_n 0, 1) := by decide +kernel
theorem dX8_in_6 : decode cX8_in 6 = .ok (.iload_n 2, 1) := by decide +kernel
theorem dX8_in_7 : decode cX8_in 7 = .ok (.if_icmp .gt 7, 3) := by decide +kernel
theorem dX8_in_10 : decode cX8_in 10 = .ok (.iconst 1, 1) := by decide +kernel
theorem dX8_in_11 : decode cX8_in 11 = .ok (.goto 4, 3) := by decide +kernel
theorem dX8_in_14 : decode cX8_in 14 = .ok (.iconst 0, 1) := by decide +kernel
theorem dX8_in_15 : decode cX8_in 15 = .ok (.ireturn, 1) := by decide +kernel
set_option maxRecDepth 20000 in
theorem ggX8_isBar_X8_in : GoodIn wsX8_isBar wsX8_in := goodIn_r _ [4] (by decide +kernel) (by decide +kernel)
set_option maxRecDepth 20000 in
theorem gX8_isBar_X8_in : GoodIn wsX8_isBar (va_wsS RX8 44 yX8_in wsX8_in) := goodIn_app (goodIn_of _ (by decide +kernel)) ggX8_isBar_X8_in
theorem dX8_isBar_0 : decode cX8_isBar 0 = .ok (.iload_n 0, 1) := by decide +kernel
theorem dX8_isBar_1 : decode cX8_isBar 1 = .ok (.iconst 0, 1) := by decide +kernel
theorem dX8_isBar_2 : decode cX8_isBar 2 = .ok (.bipush 9, 2) := by decide +kernel
theorem dX8_isBar_4 : decode cX8_isBar 4 = .ok (.invokestatic 44, 3) := by decide +kernel
theorem dX8_isBar_7 : decode cX8_isBar 7 = .ok (.ireturn, 1) := by decide +kernel
set_option maxRecDepth 20000 in
theorem ggX8_isMove_X8_in : GoodIn wsX8_isMove wsX8_in := goodIn_r _ [5] (by decide +kernel) (by decide +kernel)
set_option maxRecDepth 20000 in
theorem gX8_isMove_X8_in : GoodIn wsX8_isMove (va_wsS RX8 44 yX8_in wsX8_in) := goodIn_app (goodIn_of _ (by decide +kernel)) ggX8_isMove_X8_in
theorem dX8_isMove_0 : decode cX8_isMove 0 = .ok (.iload_n 1, 1) := by decide +kernel
theorem dX8_isMove_1 : decode cX8_isMove 1 = .ok (.iconst 0, 1) := by decide +kernel
theorem dX8_isMove_2 : decode cX8_isMove 2 = .ok (.aload_n 0, 1) := by decide +kernel
theorem dX8_isMove_3 : decode cX8_isMove 3 = .ok (.getfield 7, 3) := by decide +kernel
theorem dX8_isMove_6 : decode cX8_isMove 6 = .ok (.sipush 211, 3) := by decide +kernel
theorem dX8_isMove_9 : decode cX8_isMove 9 = .ok (.iaload, 1) := by decide +kernel
theorem dX8_isMove_10 : decode cX8_isMove 10 = .ok (.iconst 1, 1) := by decide +kernel
theorem dX8_isMove_11 : decode cX8_isMove 11 = .ok (.isub, 1) := by decide +kernel
theorem dX8_isMove_12 : decode cX8_isMove 12 = .ok (.invokestatic 44, 3) := by decide +kernel
theorem dX8_isMove_15 : decode cX8_isMove 15 = .ok (.ireturn, 1) := by decide +kernel
theorem dX8_has_0 : decode cX8_has 0 = .ok (.iload_n 0, 1) := by decide +kernel
theorem dX8_has_1 : decode cX8_has 1 = .ok (.iload_n 1, 1) := by decide +kernel
theorem dX8_has_2 : decode cX8_has 2 = .ok (.ishr, 1) := by decide +kernel
theorem dX8_has_3 : decode cX8_has 3 = .ok (.iconst 1, 1) := by decide +kernel
theorem dX8_has_4 : decode cX8_has 4 = .ok (.iand, 1) := by decide +kernel
theorem dX8_has_5 : decode cX8_has 5 = .ok (.iconst 1, 1) := by decide +kernel
theorem dX8_has_6 : decode cX8_has 6 = .ok (.if_icmp .ne 7, 3) := by decide +kernel
theorem dX8_has_9 : decode cX8_has 9 = .ok (.iconst 1, 1) := by decide +kernel
theorem dX8_has_10 : decode cX8_has 10 = .ok (.goto 4, 3) := by decide +kernel
theorem dX8_has_13 : decode cX8_has 13 = .ok (.iconst 0, 1) := by decide +kernel
theorem dX8_has_14 : decode cX8_has 14 = .ok (.ireturn, 1) := by decide +kernel
theorem dX8_size_0 : decode cX8_size 0 = .ok (.iload_n 0, 1) := by decide +kernel
theorem dX8_size_1 : decode cX8_size 1 = .ok (.ifCond .ge 8, 3) := by decide +kernel
theorem dX8_size_4 : decode cX8_size 4 = .ok (.iload_n 0, 1) := by decide +kernel
theorem dX8_size_5 : decode cX8_size 5 = .ok (.ineg, 1) := by decide +kernel
theorem dX8_size_6 : decode cX8_size 6 = .ok (.goto 4, 3) := by decide +kernel
theorem dX8_size_9 : decode cX8_size 9 = .ok (.iload_n 0, 1) := by decide +kernel
theorem dX8_size_10 : decode cX8_size 10 = .ok (.ireturn, 1) := by decide +kernel
theorem dX8_many_0 : decode cX8_many 0 = .ok (.aload_n 0, 1) := by decide +kernel
theorem dX8_many_1 : decode cX8_many 1 = .ok (.getfield 7, 3) := by decide +kernel
theorem dX8_many_4 : decode cX8_many 4 = .ok (.bipush 30, 2) := by decide +kernel
theorem dX8_many_6 : decode cX8_many 6 = .ok (.bipush 10, 2) := by decide +kernel
theorem dX8_many_8 : decode cX8_many 8 = .ok (.iload_n 2, 1) := by decide +kernel
theorem dX8_many_9 : decode cX8_many 9 = .ok (.imul, 1) := by decide +kernel
theorem dX8_many_10 : decode cX8_many 10 = .ok (.iadd, 1) := by decide +kernel
theorem dX8_many_11 : decode cX8_many 11 = .ok (.iload_n 1, 1) := by decide +kernel
theorem dX8_many_12 : decode cX8_many 12 = .ok (.iadd, 1) := by decide +kernel
theorem dX8_many_13 : decode cX8_many 13 = .ok (.iaload, 1) := by decide +kernel
theorem dX8_many_14 : decode cX8_many 14 = .ok (.ireturn, 1) := by decide +kernel
theorem dX8_weight_0 : decode cX8_weight 0 = .ok (.aload_n 0, 1) := by decide +kernel
theorem dX8_weight_1 : decode cX8_weight 1 = .ok (.getfield 7, 3) := by decide +kernel
theorem dX8_weight_4 : decode cX8_weight 4 = .ok (.bipush 50, 2) := by decide +kernel
theorem dX8_weight_6 : decode cX8_weight 6 = .ok (.bipush 12, 2) := by decide +kernel
theorem dX8_weight_8 : decode cX8_weight 8 = .ok (.iload_n 1, 1) := by decide +kernel
theorem dX8_weight_9 : decode cX8_weight 9 = .ok (.imul, 1) := by decide +kernel
theorem dX8_weight_10 : decode cX8_weight 10 = .ok (.iadd, 1) := by decide +kernel
theorem dX8_weight_11 : decode cX8_weight 11 = .ok (.bipush 6, 2) := by decide +kernel
theorem dX8_weight_13 : decode cX8_weight 13 = .ok (.iload_n 2, 1) := by decide +kernel
theorem dX8_weight_14 : decode cX8_weight 14 = .ok (.imul, 1) := by decide +kernel
theorem dX8_weight_15 : decode cX8_weight 15 = .ok (.iadd, 1) := by decide +kernel
theorem dX8_weight_16 : decode cX8_weight 16 = .ok (.iload_n 3, 1) := by decide +kernel
theorem dX8_weight_17 : decode cX8_weight 17 = .ok (.iadd, 1) := by decide +kernel
theorem dX8_weight_18 : decode cX8_weight 18 = .ok (.iaload, 1) := by decide +kernel
theorem dX8_weight_19 : decode cX8_weight 19 = .ok (.ireturn, 1) := by decide +kernel
set_option maxRecDepth 20000 in
theorem ggX8_together_X8_many : GoodIn wsX8_together wsX8_many := goodIn_r _ [5, 6, 11, 12, 13, 14, 15, 16, 17, 18, 19, 20, 21, 22, 23] (by decide +kernel) (by decide +kernel)
set_option maxRecDepth 20000 in
theorem gX8_together_X8_many : GoodIn wsX8_together (wsV RX8 48 RX8 yX8_many wsX8_many) := goodIn_app (goodIn_of _ (by decide +kernel)) ggX8_together_X8_many
set_option maxRecDepth 20000 in
theorem ggX8_together_X8_weight : GoodIn wsX8_together wsX8_weight := goodIn_r _ [10, 6, 11, 12, 13, 14, 15, 16, 17, 18, 19, 20, 21, 22, 23] (by decide +kernel) (by decide +kernel)
set_option maxRecDepth 20000 in
theorem gX8_together_X8_weight : GoodIn wsX8_together (wsV RX8 52 RX8 yX8_weight wsX8_weight) := goodIn_app (goodIn_of _ (by decide +kernel)) ggX8_together_X8_weight
theorem dX8_together_0 : decode cX8_together 0 = .ok (.iconst 0, 1) := by decide +kernel
theorem dX8_together_1 : decode cX8_together 1 = .ok (.istore_n 3, 1) := by decide +kernel
theorem dX8_together_2 : decode cX8_together 2 = .ok (.iconst 0, 1) := by decide +kernel
theorem dX8_together_3 : decode cX8_together 3 = .ok (.istore 4, 2) := by decide +kernel
theorem dX8_together_5 : decode cX8_together 5 = .ok (.iload 4, 2) := by decide +kernel
theorem dX8_together_7 : decode cX8_together 7 = .ok (.aload_n 0, 1) := by decide +kernel
theorem dX8_together_8 : decode cX8_together 8 = .ok (.iload_n 1, 1) := by decide +kernel
theorem dX8_together_9 : decode cX8_together 9 = .ok (.iload_n 2, 1) := by decide +kernel
theorem dX8_together_10 : decode cX8_together 10 = .ok (.invokevirtual 48, 3) := by decide +kernel
theorem dX8_together_13 : decode cX8_together 13 = .ok (.if_icmp .ge 20, 3) := by decide +kernel
theorem dX8_together_16 : decode cX8_together 16 = .ok (.iload_n 3, 1) := by decide +kernel
theorem dX8_together_17 : decode cX8_together 17 = .ok (.aload_n 0, 1) := by decide +kernel
theorem dX8_together_18 : decode cX8_together 18 = .ok (.iload_n 1, 1) := by decide +kernel
theorem dX8_together_19 : decode cX8_together 19 = .ok (.iload_n 2, 1) := by decide +kernel
theorem dX8_together_20 : decode cX8_together 20 = .ok (.iload 4, 2) := by decide +kernel
theorem dX8_together_22 : decode cX8_together 22 = .ok (.invokevirtual 52, 3) := by decide +kernel
theorem dX8_together_25 : decode cX8_together 25 = .ok (.iadd, 1) := by decide +kernel
theorem dX8_together_26 : decode cX8_together 26 = .ok (.istore_n 3, 1) := by decide +kernel
theorem dX8_together_27 : decode cX8_together 27 = .ok (.iinc 4 1, 3) := by decide +kernel
theorem dX8_together_30 : decode cX8_together 30 = .ok (.goto (-25), 3) := by decide +kernel
theorem dX8_together_33 : decode cX8_together 33 = .ok (.iload_n 3, 1) := by decide +kernel
theorem dX8_together_34 : decode cX8_together 34 = .ok (.ireturn, 1) := by decide +kernel
set_option maxRecDepth 20000 in
theorem ggX8_isEven_X8_together : GoodIn wsX8_isEven wsX8_together := goodIn_r _ [6, 7, 8, 9, 5, 10, 1, 11, 12, 13, 14, 18, 19, 20, 21, 22, 23, 24, 25, 26, 27, 28, 29, 30] (by decide +kernel) (by decide +kernel)
set_option maxRecDepth 20000 in
theorem gX8_isEven_X8_together : GoodIn wsX8_isEven (wsV RX8 56 RX8 yX8_together wsX8_together) := goodIn_app (goodIn_of _ (by decide +kernel)) ggX8_isEven_X8_together
set_option maxRecDepth 20000 in
theorem ggX8_isEven_X8_size : GoodIn wsX8_isEven wsX8_size := goodIn_r _ [17] (by decide +kernel) (by decide +kernel)
set_option maxRecDepth 20000 in
theorem gX8_isEven_X8_size : GoodIn wsX8_isEven (va_wsS RX8 59 yX8_size wsX8_size) := goodIn_app (goodIn_of _ (by decide +kernel)) ggX8_isEven_X8_size
theorem dX8_isEven_0 : decode cX8_isEven 0 = .ok (.aload_n 0, 1) := by decide +kernel
theorem dX8_isEven_1 : decode cX8_isEven 1 = .ok (.iload_n 1, 1) := by decide +kernel
theorem dX8_isEven_2 : decode cX8_isEven 2 = .ok (.iconst 0, 1) := by decide +kernel
theorem dX8_isEven_3 : decode cX8_isEven 3 = .ok (.invokevirtual 56, 3) := by decide +kernel
theorem dX8_isEven_6 : decode cX8_isEven 6 = .ok (.aload_n 0, 1) := by decide +kernel
theorem dX8_isEven_7 : decode cX8_isEven 7 = .ok (.iload_n 1, 1) := by decide +kernel
theorem dX8_isEven_8 : decode cX8_isEven 8 = .ok (.iconst 1, 1) := by decide +kernel
theorem dX8_isEven_9 : decode cX8_isEven 9 = .ok (.invokevirtual 56, 3) := by decide +kernel
theorem dX8_isEven_12 : decode cX8_isEven 12 = .ok (.isub, 1) := by decide +kernel
theorem dX8_isEven_13 : decode cX8_isEven 13 = .ok (.invokestatic 59, 3) := by decide +kernel
theorem dX8_isEven_16 : decode cX8_isEven 16 = .ok (.aload_n 0, 1) := by decide +kernel
theorem dX8_isEven_17 : decode cX8_isEven 17 = .ok (.getfield 7, 3) := by decide +kernel
theorem dX8_isEven_20 : decode cX8_isEven 20 = .ok (.sipush 170, 3) := by decide +kernel
theorem dX8_isEven_23 : decode cX8_isEven 23 = .ok (.iaload, 1) := by decide +kernel
theorem dX8_isEven_24 : decode cX8_isEven 24 = .ok (.if_icmp .gt 7, 3) := by decide +kernel
theorem dX8_isEven_27 : decode cX8_isEven 27 = .ok (.iconst 1, 1) := by decide +kernel
theorem dX8_isEven_28 : decode cX8_isEven 28 = .ok (.goto 4, 3) := by decide +kernel
theorem dX8_isEven_31 : decode cX8_isEven 31 = .ok (.iconst 0, 1) := by decide +kernel
theorem dX8_isEven_32 : decode cX8_isEven 32 = .ok (.ireturn, 1) := by decide +kernel
set_option maxRecDepth 20000 in
theorem ggX8_set_X8_isBar : GoodIn wsX8_set wsX8_isBar := goodIn_r _ [5, 6, 7, 4, 8] (by decide +kernel) (by decide +kernel)
set_option maxRecDepth 20000 in
theorem gX8_set_X8_isBar : GoodIn wsX8_set (va_wsS RX8 63 yX8_isBar wsX8_isBar) := goodIn_app (goodIn_of _ (by decide +kernel)) ggX8_set_X8_isBar
set_option maxRecDepth 20000 in
theorem ggX8_set_X8_in : GoodIn wsX8_set wsX8_in := goodIn_r _ [8] (by decide +kernel) (by decide +kernel)
set_option maxRecDepth 20000 in
theorem gX8_set_X8_in : GoodIn wsX8_set (va_wsS RX8 44 yX8_in wsX8_in) := goodIn_app (goodIn_of _ (by decide +kernel)) ggX8_set_X8_in
theorem dX8_set_0 : decode cX8_set 0 = .ok (.iload_n 1, 1) := by decide +kernel
theorem dX8_set_1 : decode cX8_set 1 = .ok (.invokestatic 63, 3) := by decide +kernel
theorem dX8_set_4 : decode cX8_set 4 = .ok (.ifCond .ne 5, 3) := by decide +kernel
theorem dX8_set_7 : decode cX8_set 7 = .ok (.iconst (-1), 1) := by decide +kernel
theorem dX8_set_8 : decode cX8_set 8 = .ok (.ireturn, 1) := by decide +kernel
theorem dX8_set_9 : decode cX8_set 9 = .ok (.iload_n 2, 1) := by decide +kernel
theorem dX8_set_10 : decode cX8_set 10 = .ok (.iconst 0, 1) := by decide +kernel
theorem dX8_set_11 : decode cX8_set 11 = .ok (.iconst 3, 1) := by decide +kernel
theorem dX8_set_12 : decode cX8_set 12 = .ok (.invokestatic 44, 3) := by decide +kernel
theorem dX8_set_15 : decode cX8_set 15 = .ok (.ifCond .eq 41, 3) := by decide +kernel
theorem dX8_set_18 : decode cX8_set 18 = .ok (.iload_n 3, 1) := by decide +kernel
theorem dX8_set_19 : decode cX8_set 19 = .ok (.iconst 0, 1) := by decide +kernel
theorem dX8_set_20 : decode cX8_set 20 = .ok (.iload_n 2, 1) := by decide +kernel
theorem dX8_set_21 : decode cX8_set 21 = .ok (.ifCond .ne 8, 3) := by decide +kernel
theorem dX8_set_24 : decode cX8_set 24 = .ok (.bipush 60, 2) := by decide +kernel
theorem dX8_set_26 : decode cX8_set 26 = .ok (.goto 24, 3) := by decide +kernel
theorem dX8_set_29 : decode cX8_set 29 = .ok (.iload_n 2, 1) := by decide +kernel
theorem dX8_set_30 : decode cX8_set 30 = .ok (.iconst 1, 1) := by decide +kernel
theorem dX8_set_31 : decode cX8_set 31 = .ok (.if_icmp .ne 8, 3) := by decide +kernel
theorem dX8_set_34 : decode cX8_set 34 = .ok (.bipush 40, 2) := by decide +kernel
theorem dX8_set_36 : decode cX8_set 36 = .ok (.goto 14, 3) := by decide +kernel
theorem dX8_set_39 : decode cX8_set 39 = .ok (.iload_n 2, 1) := by decide +kernel
theorem dX8_set_40 : decode cX8_set 40 = .ok (.iconst 2, 1) := by decide +kernel
theorem dX8_set_41 : decode cX8_set 41 = .ok (.if_icmp .ne 7, 3) := by decide +kernel
theorem dX8_set_44 : decode cX8_set 44 = .ok (.iconst 3, 1) := by decide +kernel
theorem dX8_set_45 : decode cX8_set 45 = .ok (.goto 5, 3) := by decide +kernel
theorem dX8_set_48 : decode cX8_set 48 = .ok (.bipush 100, 2) := by decide +kernel
theorem dX8_set_50 : decode cX8_set 50 = .ok (.invokestatic 44, 3) := by decide +kernel
theorem dX8_set_53 : decode cX8_set 53 = .ok (.ifCond .ne 6, 3) := by decide +kernel
theorem dX8_set_56 : decode cX8_set 56 = .ok (.bipush (-2), 2) := by decide +kernel
theorem dX8_set_58 : decode cX8_set 58 = .ok (.ireturn, 1) := by decide +kernel
theorem dX8_set_59 : decode cX8_set 59 = .ok (.iload_n 2, 1) := by decide +kernel
theorem dX8_set_60 : decode cX8_set 60 = .ok (.iconst 3, 1) := by decide +kernel
theorem dX8_set_61 : decode cX8_set 61 = .ok (.if_icmp .ne 9, 3) := by decide +kernel
theorem dX8_set_64 : decode cX8_set 64 = .ok (.sipush 170, 3) := by decide +kernel
theorem dX8_set_67 : decode cX8_set 67 = .ok (.goto 9, 3) := by decide +kernel
theorem dX8_set_70 : decode cX8_set 70 = .ok (.bipush 10, 2) := by decide +kernel
theorem dX8_set_72 : decode cX8_set 72 = .ok (.iload_n 2, 1) := by decide +kernel
theorem dX8_set_73 : decode cX8_set 73 = .ok (.imul, 1) := by decide +kernel
theorem dX8_set_74 : decode cX8_set 74 = .ok (.iload_n 1, 1) := by decide +kernel
theorem dX8_set_75 : decode cX8_set 75 = .ok (.iadd, 1) := by decide +kernel
theorem dX8_set_76 : decode cX8_set 76 = .ok (.istore 4, 2) := by decide +kernel
theorem dX8_set_78 : decode cX8_set 78 = .ok (.aload_n 0, 1) := by decide +kernel
theorem dX8_set_79 : decode cX8_set 79 = .ok (.getfield 7, 3) := by decide +kernel
theorem dX8_set_82 : decode cX8_set 82 = .ok (.iload 4, 2) := by decide +kernel
theorem dX8_set_84 : decode cX8_set 84 = .ok (.iaload, 1) := by decide +kernel
theorem dX8_set_85 : decode cX8_set 85 = .ok (.istore 5, 2) := by decide +kernel
theorem dX8_set_87 : decode cX8_set 87 = .ok (.aload_n 0, 1) := by decide +kernel
theorem dX8_set_88 : decode cX8_set 88 = .ok (.getfield 7, 3) := by decide +kernel
theorem dX8_set_91 : decode cX8_set 91 = .ok (.iload 4, 2) := by decide +kernel
theorem dX8_set_93 : decode cX8_set 93 = .ok (.iload_n 3, 1) := by decide +kernel
theorem dX8_set_94 : decode cX8_set 94 = .ok (.iastore, 1) := by decide +kernel
theorem dX8_set_95 : decode cX8_set 95 = .ok (.iload 5, 2) := by decide +kernel
theorem dX8_set_97 : decode cX8_set 97 = .ok (.ireturn, 1) := by decide +kernel
set_option maxRecDepth 20000 in
theorem ggX8_load_X8_isBar : GoodIn wsX8_load wsX8_isBar := goodIn_r _ [5, 6, 7, 4, 8] (by decide +kernel) (by decide +kernel)
set_option maxRecDepth 20000 in
theorem gX8_load_X8_isBar : GoodIn wsX8_load (va_wsS RX8 63 yX8_isBar wsX8_isBar) := goodIn_app (goodIn_of _ (by decide +kernel)) ggX8_load_X8_isBar
set_option maxRecDepth 20000 in
theorem ggX8_load_X8_in : GoodIn wsX8_load wsX8_in := goodIn_r _ [8] (by decide +kernel) (by decide +kernel)
set_option maxRecDepth 20000 in
theorem gX8_load_X8_in : GoodIn wsX8_load (va_wsS RX8 44 yX8_in wsX8_in) := goodIn_app (goodIn_of _ (by decide +kernel)) ggX8_load_X8_in
set_option maxRecDepth 20000 in
theorem ggX8_load_X8_many : GoodIn wsX8_load wsX8_many := goodIn_r _ [12, 1, 13, 14, 15, 16, 17, 18, 19, 20, 21, 22, 23, 24, 25] (by decide +kernel) (by decide +kernel)
set_option maxRecDepth 20000 in
theorem gX8_load_X8_many : GoodIn wsX8_load (wsV RX8 48 RX8 yX8_many wsX8_many) := goodIn_app (goodIn_of _ (by decide +kernel)) ggX8_load_X8_many
theorem dX8_load_0 : decode cX8_load 0 = .ok (.iload_n 1, 1) := by decide +kernel
theorem dX8_load_1 : decode cX8_load 1 = .ok (.invokestatic 63, 3) := by decide +kernel
theorem dX8_load_4 : decode cX8_load 4 = .ok (.ifCond .ne 5, 3) := by decide +kernel
theorem dX8_load_7 : decode cX8_load 7 = .ok (.iconst (-1), 1) := by decide +kernel
theorem dX8_load_8 : decode cX8_load 8 = .ok (.ireturn, 1) := by decide +kernel
theorem dX8_load_9 : decode cX8_load 9 = .ok (.iload_n 2, 1) := by decide +kernel
theorem dX8_load_10 : decode cX8_load 10 = .ok (.iconst 0, 1) := by decide +kernel
theorem dX8_load_11 : decode cX8_load 11 = .ok (.iconst 1, 1) := by decide +kernel
theorem dX8_load_12 : decode cX8_load 12 = .ok (.invokestatic 44, 3) := by decide +kernel
theorem dX8_load_15 : decode cX8_load 15 = .ok (.ifCond .eq 13, 3) := by decide +kernel
theorem dX8_load_18 : decode cX8_load 18 = .ok (.iload_n 3, 1) := by decide +kernel
theorem dX8_load_19 : decode cX8_load 19 = .ok (.iconst 1, 1) := by decide +kernel
theorem dX8_load_20 : decode cX8_load 20 = .ok (.bipush 50, 2) := by decide +kernel
theorem dX8_load_22 : decode cX8_load 22 = .ok (.invokestatic 44, 3) := by decide +kernel
theorem dX8_load_25 : decode cX8_load 25 = .ok (.ifCond .ne 6, 3) := by decide +kernel
theorem dX8_load_28 : decode cX8_load 28 = .ok (.bipush (-2), 2) := by decide +kernel
theorem dX8_load_30 : decode cX8_load 30 = .ok (.ireturn, 1) := by decide +kernel
theorem dX8_load_31 : decode cX8_load 31 = .ok (.aload_n 0, 1) := by decide +kernel
theorem dX8_load_32 : decode cX8_load 32 = .ok (.iload_n 1, 1) := by decide +kernel
theorem dX8_load_33 : decode cX8_load 33 = .ok (.iload_n 2, 1) := by decide +kernel
theorem dX8_load_34 : decode cX8_load 34 = .ok (.invokevirtual 48, 3) := by decide +kernel
theorem dX8_load_37 : decode cX8_load 37 = .ok (.istore 4, 2) := by decide +kernel
theorem dX8_load_39 : decode cX8_load 39 = .ok (.iload 4, 2) := by decide +kernel
theorem dX8_load_41 : decode cX8_load 41 = .ok (.bipush 6, 2) := by decide +kernel
theorem dX8_load_43 : decode cX8_load 43 = .ok (.if_icmp .ne 6, 3) := by decide +kernel
theorem dX8_load_46 : decode cX8_load 46 = .ok (.bipush (-4), 2) := by decide +kernel
theorem dX8_load_48 : decode cX8_load 48 = .ok (.ireturn, 1) := by decide +kernel
theorem dX8_load_49 : decode cX8_load 49 = .ok (.aload_n 0, 1) := by decide +kernel
theorem dX8_load_50 : decode cX8_load 50 = .ok (.getfield 7, 3) := by decide +kernel
theorem dX8_load_53 : decode cX8_load 53 = .ok (.bipush 50, 2) := by decide +kernel
theorem dX8_load_55 : decode cX8_load 55 = .ok (.bipush 12, 2) := by decide +kernel
theorem dX8_load_57 : decode cX8_load 57 = .ok (.iload_n 1, 1) := by decide +kernel
theorem dX8_load_58 : decode cX8_load 58 = .ok (.imul, 1) := by decide +kernel
theorem dX8_load_59 : decode cX8_load 59 = .ok (.iadd, 1) := by decide +kernel
theorem dX8_load_60 : decode cX8_load 60 = .ok (.bipush 6, 2) := by decide +kernel
theorem dX8_load_62 : decode cX8_load 62 = .ok (.iload_n 2, 1) := by decide +kernel
theorem dX8_load_63 : decode cX8_load 63 = .ok (.imul, 1) := by decide +kernel
theorem dX8_load_64 : decode cX8_load 64 = .ok (.iadd, 1) := by decide +kernel
theorem dX8_load_65 : decode cX8_load 65 = .ok (.iload 4, 2) := by decide +kernel
theorem dX8_load_67 : decode cX8_load 67 = .ok (.iadd, 1) := by decide +kernel
theorem dX8_load_68 : decode cX8_load 68 = .ok (.iload_n 3, 1) := by decide +kernel
theorem dX8_load_69 : decode cX8_load 69 = .ok (.iastore, 1) := by decide +kernel
theorem dX8_load_70 : decode cX8_load 70 = .ok (.aload_n 0, 1) := by decide +kernel
theorem dX8_load_71 : decode cX8_load 71 = .ok (.getfield 7, 3) := by decide +kernel
theorem dX8_load_74 : decode cX8_load 74 = .ok (.bipush 30, 2) := by decide +kernel
theorem dX8_load_76 : decode cX8_load 76 = .ok (.bipush 10, 2) := by decide +kernel
theorem dX8_load_78 : decode cX8_load 78 = .ok (.iload_n 2, 1) := by decide +kernel
theorem dX8_load_79 : decode cX8_load 79 = .ok (.imul, 1) := by decide +kernel
theorem dX8_load_80 : decode cX8_load 80 = .ok (.iadd, 1) := by decide +kernel
theorem dX8_load_81 : decode cX8_load 81 = .ok (.iload_n 1, 1) := by decide +kernel
theorem dX8_load_82 : decode cX8_load 82 = .ok (.iadd, 1) := by decide +kernel
theorem dX8_load_83 : decode cX8_load 83 = .ok (.dup2, 1) := by decide +kernel
theorem dX8_load_84 : decode cX8_load 84 = .ok (.iaload, 1) := by decide +kernel
theorem dX8_load_85 : decode cX8_load 85 = .ok (.iconst 1, 1) := by decide +kernel
theorem dX8_load_86 : decode cX8_load 86 = .ok (.iadd, 1) := by decide +kernel
theorem dX8_load_87 : decode cX8_load 87 = .ok (.iastore, 1) := by decide +kernel
theorem dX8_load_88 : decode cX8_load 88 = .ok (.iload 4, 2) := by decide +kernel
theorem dX8_load_90 : decode cX8_load 90 = .ok (.iconst 1, 1) := by decide +kernel
theorem dX8_load_91 : decode cX8_load 91 = .ok (.iadd, 1) := by decide +kernel
theorem dX8_load_92 : decode cX8_load 92 = .ok (.ireturn, 1) := by decide +kernel
set_option maxRecDepth 20000 in
theorem ggX8_take_X8_isBar : GoodIn wsX8_take wsX8_isBar := goodIn_r _ [5, 6, 7, 4, 8] (by decide +kernel) (by decide +kernel)
set_option maxRecDepth 20000 in
theorem gX8_take_X8_isBar : GoodIn wsX8_take (va_wsS RX8 63 yX8_isBar wsX8_isBar) := goodIn_app (goodIn_of _ (by decide +kernel)) ggX8_take_X8_isBar
set_option maxRecDepth 20000 in
theorem ggX8_take_X8_in : GoodIn wsX8_take wsX8_in := goodIn_r _ [8] (by decide +kernel) (by decide +kernel)
set_option maxRecDepth 20000 in
theorem gX8_take_X8_in : GoodIn wsX8_take (va_wsS RX8 44 yX8_in wsX8_in) := goodIn_app (goodIn_of _ (by decide +kernel)) ggX8_take_X8_in
set_option maxRecDepth 20000 in
theorem ggX8_take_X8_many : GoodIn wsX8_take wsX8_many := goodIn_r _ [12, 1, 17, 18, 19, 20, 21, 22, 23, 24, 25, 26, 27, 28, 29] (by decide +kernel) (by decide +kernel)
set_option maxRecDepth 20000 in
theorem gX8_take_X8_many : GoodIn wsX8_take (wsV RX8 48 RX8 yX8_many wsX8_many) := goodIn_app (goodIn_of _ (by decide +kernel)) ggX8_take_X8_many
set_option maxRecDepth 20000 in
theorem ggX8_take_X8_weight : GoodIn wsX8_take wsX8_weight := goodIn_r _ [16, 1, 17, 18, 19, 20, 21, 22, 23, 24, 25, 26, 27, 28, 29] (by decide +kernel) (by decide +kernel)
set_option maxRecDepth 20000 in
theorem gX8_take_X8_weight : GoodIn wsX8_take (wsV RX8 52 RX8 yX8_weight wsX8_weight) := goodIn_app (goodIn_of _ (by decide +kernel)) ggX8_take_X8_weight
theorem dX8_take_0 : decode cX8_take 0 = .ok (.iload_n 1, 1) := by decide +kernel
theorem dX8_take_1 : decode cX8_take 1 = .ok (.invokestatic 63, 3) := by decide +kernel
theorem dX8_take_4 : decode cX8_take 4 = .ok (.ifCond .ne 5, 3) := by decide +kernel
theorem dX8_take_7 : decode cX8_take 7 = .ok (.iconst (-1), 1) := by decide +kernel
theorem dX8_take_8 : decode cX8_take 8 = .ok (.ireturn, 1) := by decide +kernel
theorem dX8_take_9 : decode cX8_take 9 = .ok (.iload_n 2, 1) := by decide +kernel
theorem dX8_take_10 : decode cX8_take 10 = .ok (.iconst 0, 1) := by decide +kernel
theorem dX8_take_11 : decode cX8_take 11 = .ok (.iconst 1, 1) := by decide +kernel
theorem dX8_take_12 : decode cX8_take 12 = .ok (.invokestatic 44, 3) := by decide +kernel
theorem dX8_take_15 : decode cX8_take 15 = .ok (.ifCond .ne 6, 3) := by decide +kernel
theorem dX8_take_18 : decode cX8_take 18 = .ok (.bipush (-2), 2) := by decide +kernel
theorem dX8_take_20 : decode cX8_take 20 = .ok (.ireturn, 1) := by decide +kernel
theorem dX8_take_21 : decode cX8_take 21 = .ok (.iload_n 3, 1) := by decide +kernel
theorem dX8_take_22 : decode cX8_take 22 = .ok (.iconst 0, 1) := by decide +kernel
theorem dX8_take_23 : decode cX8_take 23 = .ok (.aload_n 0, 1) := by decide +kernel
theorem dX8_take_24 : decode cX8_take 24 = .ok (.iload_n 1, 1) := by decide +kernel
theorem dX8_take_25 : decode cX8_take 25 = .ok (.iload_n 2, 1) := by decide +kernel
theorem dX8_take_26 : decode cX8_take 26 = .ok (.invokevirtual 48, 3) := by decide +kernel
theorem dX8_take_29 : decode cX8_take 29 = .ok (.iconst 1, 1) := by decide +kernel
theorem dX8_take_30 : decode cX8_take 30 = .ok (.isub, 1) := by decide +kernel
theorem dX8_take_31 : decode cX8_take 31 = .ok (.invokestatic 44, 3) := by decide +kernel
theorem dX8_take_34 : decode cX8_take 34 = .ok (.ifCond .ne 6, 3) := by decide +kernel
theorem dX8_take_37 : decode cX8_take 37 = .ok (.bipush (-5), 2) := by decide +kernel
theorem dX8_take_39 : decode cX8_take 39 = .ok (.ireturn, 1) := by decide +kernel
theorem dX8_take_40 : decode cX8_take 40 = .ok (.aload_n 0, 1) := by decide +kernel
theorem dX8_take_41 : decode cX8_take 41 = .ok (.iload_n 1, 1) := by decide +kernel
theorem dX8_take_42 : decode cX8_take 42 = .ok (.iload_n 2, 1) := by decide +kernel
theorem dX8_take_43 : decode cX8_take 43 = .ok (.iload_n 3, 1) := by decide +kernel
theorem dX8_take_44 : decode cX8_take 44 = .ok (.invokevirtual 52, 3) := by decide +kernel
theorem dX8_take_47 : decode cX8_take 47 = .ok (.istore 4, 2) := by decide +kernel
theorem dX8_take_49 : decode cX8_take 49 = .ok (.aload_n 0, 1) := by decide +kernel
theorem dX8_take_50 : decode cX8_take 50 = .ok (.getfield 7, 3) := by decide +kernel
theorem dX8_take_53 : decode cX8_take 53 = .ok (.bipush 30, 2) := by decide +kernel
theorem dX8_take_55 : decode cX8_take 55 = .ok (.bipush 10, 2) := by decide +kernel
theorem dX8_take_57 : decode cX8_take 57 = .ok (.iload_n 2, 1) := by decide +kernel
theorem dX8_take_58 : decode cX8_take 58 = .ok (.imul, 1) := by decide +kernel
theorem dX8_take_59 : decode cX8_take 59 = .ok (.iadd, 1) := by decide +kernel
theorem dX8_take_60 : decode cX8_take 60 = .ok (.iload_n 1, 1) := by decide +kernel
theorem dX8_take_61 : decode cX8_take 61 = .ok (.iadd, 1) := by decide +kernel
theorem dX8_take_62 : decode cX8_take 62 = .ok (.dup2, 1) := by decide +kernel
theorem dX8_take_63 : decode cX8_take 63 = .ok (.iaload, 1) := by decide +kernel
theorem dX8_take_64 : decode cX8_take 64 = .ok (.iconst 1, 1) := by decide +kernel
theorem dX8_take_65 : decode cX8_take 65 = .ok (.isub, 1) := by decide +kernel
theorem dX8_take_66 : decode cX8_take 66 = .ok (.iastore, 1) := by decide +kernel
theorem dX8_take_67 : decode cX8_take 67 = .ok (.iload_n 3, 1) := by decide +kernel
theorem dX8_take_68 : decode cX8_take 68 = .ok (.istore 5, 2) := by decide +kernel
theorem dX8_take_70 : decode cX8_take 70 = .ok (.iload 5, 2) := by decide +kernel
theorem dX8_take_72 : decode cX8_take 72 = .ok (.aload_n 0, 1) := by decide +kernel
theorem dX8_take_73 : decode cX8_take 73 = .ok (.iload_n 1, 1) := by decide +kernel
theorem dX8_take_74 : decode cX8_take 74 = .ok (.iload_n 2, 1) := by decide +kernel
theorem dX8_take_75 : decode cX8_take 75 = .ok (.invokevirtual 48, 3) := by decide +kernel
theorem dX8_take_78 : decode cX8_take 78 = .ok (.if_icmp .ge 39, 3) := by decide +kernel
theorem dX8_take_81 : decode cX8_take 81 = .ok (.aload_n 0, 1) := by decide +kernel
theorem dX8_take_82 : decode cX8_take 82 = .ok (.getfield 7, 3) := by decide +kernel
theorem dX8_take_85 : decode cX8_take 85 = .ok (.bipush 50, 2) := by decide +kernel
theorem dX8_take_87 : decode cX8_take 87 = .ok (.bipush 12, 2) := by decide +kernel
theorem dX8_take_89 : decode cX8_take 89 = .ok (.iload_n 1, 1) := by decide +kernel
theorem dX8_take_90 : decode cX8_take 90 = .ok (.imul, 1) := by decide +kernel
theorem dX8_take_91 : decode cX8_take 91 = .ok (.iadd, 1) := by decide +kernel
theorem dX8_take_92 : decode cX8_take 92 = .ok (.bipush 6, 2) := by decide +kernel
theorem dX8_take_94 : decode cX8_take 94 = .ok (.iload_n 2, 1) := by decide +kernel
theorem dX8_take_95 : decode cX8_take 95 = .ok (.imul, 1) := by decide +kernel
theorem dX8_take_96 : decode cX8_take 96 = .ok (.iadd, 1) := by decide +kernel
theorem dX8_take_97 : decode cX8_take 97 = .ok (.iload 5, 2) := by decide +kernel
theorem dX8_take_99 : decode cX8_take 99 = .ok (.iadd, 1) := by decide +kernel
theorem dX8_take_100 : decode cX8_take 100 = .ok (.aload_n 0, 1) := by decide +kernel
theorem dX8_take_101 : decode cX8_take 101 = .ok (.iload_n 1, 1) := by decide +kernel
theorem dX8_take_102 : decode cX8_take 102 = .ok (.iload_n 2, 1) := by decide +kernel
theorem dX8_take_103 : decode cX8_take 103 = .ok (.iload 5, 2) := by decide +kernel
theorem dX8_take_105 : decode cX8_take 105 = .ok (.iconst 1, 1) := by decide +kernel
theorem dX8_take_106 : decode cX8_take 106 = .ok (.iadd, 1) := by decide +kernel
theorem dX8_take_107 : decode cX8_take 107 = .ok (.invokevirtual 52, 3) := by decide +kernel
theorem dX8_take_110 : decode cX8_take 110 = .ok (.iastore, 1) := by decide +kernel
theorem dX8_take_111 : decode cX8_take 111 = .ok (.iinc 5 1, 3) := by decide +kernel
theorem dX8_take_114 : decode cX8_take 114 = .ok (.goto (-44), 3) := by decide +kernel
theorem dX8_take_117 : decode cX8_take 117 = .ok (.iload 4, 2) := by decide +kernel
theorem dX8_take_119 : decode cX8_take 119 = .ok (.ireturn, 1) := by decide +kernel
theorem dX8_movesOf_0 : decode cX8_movesOf 0 = .ok (.iconst 0, 1) := by decide +kernel
theorem dX8_movesOf_1 : decode cX8_movesOf 1 = .ok (.istore_n 2, 1) := by decide +kernel
theorem dX8_movesOf_2 : decode cX8_movesOf 2 = .ok (.iconst 0, 1) := by decide +kernel
theorem dX8_movesOf_3 : decode cX8_movesOf 3 = .ok (.istore_n 3, 1) := by decide +kernel
theorem dX8_movesOf_4 : decode cX8_movesOf 4 = .ok (.iload_n 3, 1) := by decide +kernel
theorem dX8_movesOf_5 : decode cX8_movesOf 5 = .ok (.aload_n 0, 1) := by decide +kernel
theorem dX8_movesOf_6 : decode cX8_movesOf 6 = .ok (.getfield 7, 3) := by decide +kernel
theorem dX8_movesOf_9 : decode cX8_movesOf 9 = .ok (.sipush 211, 3) := by decide +kernel
theorem dX8_movesOf_12 : decode cX8_movesOf 12 = .ok (.iaload, 1) := by decide +kernel
theorem dX8_movesOf_13 : decode cX8_movesOf 13 = .ok (.if_icmp .ge 31, 3) := by decide +kernel
theorem dX8_movesOf_16 : decode cX8_movesOf 16 = .ok (.iload_n 2, 1) := by decide +kernel
theorem dX8_movesOf_17 : decode cX8_movesOf 17 = .ok (.aload_n 0, 1) := by decide +kernel
theorem dX8_movesOf_18 : decode cX8_movesOf 18 = .ok (.getfield 7, 3) := by decide +kernel
theorem dX8_movesOf_21 : decode cX8_movesOf 21 = .ok (.sipush 171, 3) := by decide +kernel
theorem dX8_movesOf_24 : decode cX8_movesOf 24 = .ok (.iload_n 3, 1) := by decide +kernel
theorem dX8_movesOf_25 : decode cX8_movesOf 25 = .ok (.iadd, 1) := by decide +kernel
theorem dX8_movesOf_26 : decode cX8_movesOf 26 = .ok (.iaload, 1) := by decide +kernel
theorem dX8_movesOf_27 : decode cX8_movesOf 27 = .ok (.iload_n 1, 1) := by decide +kernel
theorem dX8_movesOf_28 : decode cX8_movesOf 28 = .ok (.if_icmp .ne 7, 3) := by decide +kernel
theorem dX8_movesOf_31 : decode cX8_movesOf 31 = .ok (.iconst 1, 1) := by decide +kernel
theorem dX8_movesOf_32 : decode cX8_movesOf 32 = .ok (.goto 4, 3) := by decide +kernel
theorem dX8_movesOf_35 : decode cX8_movesOf 35 = .ok (.iconst 0, 1) := by decide +kernel
theorem dX8_movesOf_36 : decode cX8_movesOf 36 = .ok (.iadd, 1) := by decide +kernel
theorem dX8_movesOf_37 : decode cX8_movesOf 37 = .ok (.istore_n 2, 1) := by decide +kernel
theorem dX8_movesOf_38 : decode cX8_movesOf 38 = .ok (.iinc 3 1, 3) := by decide +kernel
theorem dX8_movesOf_41 : decode cX8_movesOf 41 = .ok (.goto (-37), 3) := by decide +kernel
theorem dX8_movesOf_44 : decode cX8_movesOf 44 = .ok (.iload_n 2, 1) := by decide +kernel
theorem dX8_movesOf_45 : decode cX8_movesOf 45 = .ok (.ireturn, 1) := by decide +kernel
set_option maxRecDepth 20000 in
theorem ggX8_thing_X8_many : GoodIn wsX8_thing wsX8_many := goodIn_r _ [5, 6, 11, 12, 13, 14, 15, 16, 17, 18, 19, 20, 21, 22, 23] (by decide +kernel) (by decide +kernel)
set_option maxRecDepth 20000 in
theorem gX8_thing_X8_many : GoodIn wsX8_thing (wsV RX8 48 RX8 yX8_many wsX8_many) := goodIn_app (goodIn_of _ (by decide +kernel)) ggX8_thing_X8_many
set_option maxRecDepth 20000 in
theorem ggX8_thing_X8_weight : GoodIn wsX8_thing wsX8_weight := goodIn_r _ [10, 6, 11, 12, 13, 14, 15, 16, 17, 18, 19, 20, 21, 22, 23] (by decide +kernel) (by decide +kernel)
set_option maxRecDepth 20000 in
theorem gX8_thing_X8_weight : GoodIn wsX8_thing (wsV RX8 52 RX8 yX8_weight wsX8_weight) := goodIn_app (goodIn_of _ (by decide +kernel)) ggX8_thing_X8_weight
theorem dX8_thing_0 : decode cX8_thing 0 = .ok (.iload_n 3, 1) := by decide +kernel
theorem dX8_thing_1 : decode cX8_thing 1 = .ok (.aload_n 0, 1) := by decide +kernel
theorem dX8_thing_2 : decode cX8_thing 2 = .ok (.iload_n 1, 1) := by decide +kernel
theorem dX8_thing_3 : decode cX8_thing 3 = .ok (.iload_n 2, 1) := by decide +kernel
theorem dX8_thing_4 : decode cX8_thing 4 = .ok (.invokevirtual 48, 3) := by decide +kernel
theorem dX8_thing_7 : decode cX8_thing 7 = .ok (.if_icmp .ge 13, 3) := by decide +kernel
theorem dX8_thing_10 : decode cX8_thing 10 = .ok (.aload_n 0, 1) := by decide +kernel
theorem dX8_thing_11 : decode cX8_thing 11 = .ok (.iload_n 1, 1) := by decide +kernel
theorem dX8_thing_12 : decode cX8_thing 12 = .ok (.iload_n 2, 1) := by decide +kernel
theorem dX8_thing_13 : decode cX8_thing 13 = .ok (.iload_n 3, 1) := by decide +kernel
theorem dX8_thing_14 : decode cX8_thing 14 = .ok (.invokevirtual 52, 3) := by decide +kernel
theorem dX8_thing_17 : decode cX8_thing 17 = .ok (.goto 5, 3) := by decide +kernel
theorem dX8_thing_20 : decode cX8_thing 20 = .ok (.bipush (-6), 2) := by decide +kernel
theorem dX8_thing_22 : decode cX8_thing 22 = .ok (.ireturn, 1) := by decide +kernel
set_option maxRecDepth 20000 in
theorem ggX8_bar_X8_isBar : GoodIn wsX8_bar wsX8_isBar := goodIn_r _ [5, 6, 7, 4, 8] (by decide +kernel) (by decide +kernel)
set_option maxRecDepth 20000 in
theorem gX8_bar_X8_isBar : GoodIn wsX8_bar (va_wsS RX8 63 yX8_isBar wsX8_isBar) := goodIn_app (goodIn_of _ (by decide +kernel)) ggX8_bar_X8_isBar
set_option maxRecDepth 20000 in
theorem ggX8_bar_X8_in : GoodIn wsX8_bar wsX8_in := goodIn_r _ [8] (by decide +kernel) (by decide +kernel)
set_option maxRecDepth 20000 in
theorem gX8_bar_X8_in : GoodIn wsX8_bar (va_wsS RX8 44 yX8_in wsX8_in) := goodIn_app (goodIn_of _ (by decide +kernel)) ggX8_bar_X8_in
set_option maxRecDepth 20000 in
theorem ggX8_bar_X8_thing : GoodIn wsX8_bar wsX8_thing := goodIn_r _ [12, 13, 14, 15, 4, 16, 1, 17, 18, 19, 20, 36, 37, 38, 39, 40, 41, 42, 43, 44, 45, 46, 47, 48] (by decide +kernel) (by decide +kernel)
set_option maxRecDepth 20000 in
theorem gX8_bar_X8_thing : GoodIn wsX8_bar (wsV RX8 67 RX8 yX8_thing wsX8_thing) := goodIn_app (goodIn_of _ (by decide +kernel)) ggX8_bar_X8_thing
set_option maxRecDepth 20000 in
theorem ggX8_bar_X8_many : GoodIn wsX8_bar wsX8_many := goodIn_r _ [16, 1, 36, 37, 38, 39, 40, 41, 42, 43, 44, 45, 46, 47, 48] (by decide +kernel) (by decide +kernel)
set_option maxRecDepth 20000 in
theorem gX8_bar_X8_many : GoodIn wsX8_bar (wsV RX8 48 RX8 yX8_many wsX8_many) := goodIn_app (goodIn_of _ (by decide +kernel)) ggX8_bar_X8_many
set_option maxRecDepth 20000 in
theorem ggX8_bar_X8_together : GoodIn wsX8_bar wsX8_together := goodIn_r _ [24, 13, 14, 15, 4, 16, 1, 17, 18, 19, 20, 36, 37, 38, 39, 40, 41, 42, 43, 44, 45, 46, 47, 48] (by decide +kernel) (by decide +kernel)
set_option maxRecDepth 20000 in
theorem gX8_bar_X8_together : GoodIn wsX8_bar (wsV RX8 56 RX8 yX8_together wsX8_together) := goodIn_app (goodIn_of _ (by decide +kernel)) ggX8_bar_X8_together
set_option maxRecDepth 20000 in
theorem ggX8_bar_X8_isEven : GoodIn wsX8_bar wsX8_isEven := goodIn_r _ [28, 1, 21, 22, 23, 4, 24, 13, 14, 15, 16, 17, 18, 19, 20, 29, 30, 31, 36, 37, 38, 39, 40, 41, 42, 43, 44, 45, 46, 47, 48] (by decide +kernel) (by decide +kernel)
set_option maxRecDepth 20000 in
theorem gX8_bar_X8_isEven : GoodIn wsX8_bar (wsV RX8 70 RX8 yX8_isEven wsX8_isEven) := goodIn_app (goodIn_of _ (by decide +kernel)) ggX8_bar_X8_isEven
set_option maxRecDepth 20000 in
theorem ggX8_bar_X8_movesOf : GoodIn wsX8_bar wsX8_movesOf := goodIn_r _ [35, 1, 36, 37, 38, 39, 40, 41, 42, 43, 44, 45, 46, 47, 48] (by decide +kernel) (by decide +kernel)
set_option maxRecDepth 20000 in
theorem gX8_bar_X8_movesOf : GoodIn wsX8_bar (wsV RX8 73 RX8 yX8_movesOf wsX8_movesOf) := goodIn_app (goodIn_of _ (by decide +kernel)) ggX8_bar_X8_movesOf
theorem dX8_bar_0 : decode cX8_bar 0 = .ok (.iload_n 1, 1) := by decide +kernel
theorem dX8_bar_1 : decode cX8_bar 1 = .ok (.invokestatic 63, 3) := by decide +kernel
theorem dX8_bar_4 : decode cX8_bar 4 = .ok (.ifCond .ne 5, 3) := by decide +kernel
theorem dX8_bar_7 : decode cX8_bar 7 = .ok (.iconst (-1), 1) := by decide +kernel
theorem dX8_bar_8 : decode cX8_bar 8 = .ok (.ireturn, 1) := by decide +kernel
theorem dX8_bar_9 : decode cX8_bar 9 = .ok (.iload_n 2, 1) := by decide +kernel
theorem dX8_bar_10 : decode cX8_bar 10 = .ok (.bipush 10, 2) := by decide +kernel
theorem dX8_bar_12 : decode cX8_bar 12 = .ok (.bipush 15, 2) := by decide +kernel
theorem dX8_bar_14 : decode cX8_bar 14 = .ok (.invokestatic 44, 3) := by decide +kernel
theorem dX8_bar_17 : decode cX8_bar 17 = .ok (.ifCond .eq 14, 3) := by decide +kernel
theorem dX8_bar_20 : decode cX8_bar 20 = .ok (.aload_n 0, 1) := by decide +kernel
theorem dX8_bar_21 : decode cX8_bar 21 = .ok (.iload_n 1, 1) := by decide +kernel
theorem dX8_bar_22 : decode cX8_bar 22 = .ok (.iconst 0, 1) := by decide +kernel
theorem dX8_bar_23 : decode cX8_bar 23 = .ok (.iload_n 2, 1) := by decide +kernel
theorem dX8_bar_24 : decode cX8_bar 24 = .ok (.bipush 10, 2) := by decide +kernel
theorem dX8_bar_26 : decode cX8_bar 26 = .ok (.isub, 1) := by decide +kernel
theorem dX8_bar_27 : decode cX8_bar 27 = .ok (.invokevirtual 67, 3) := by decide +kernel
theorem dX8_bar_30 : decode cX8_bar 30 = .ok (.ireturn, 1) := by decide +kernel
theorem dX8_bar_31 : decode cX8_bar 31 = .ok (.iload_n 2, 1) := by decide +kernel
theorem dX8_bar_32 : decode cX8_bar 32 = .ok (.bipush 20, 2) := by decide +kernel
theorem dX8_bar_34 : decode cX8_bar 34 = .ok (.bipush 25, 2) := by decide +kernel
theorem dX8_bar_36 : decode cX8_bar 36 = .ok (.invokestatic 44, 3) := by decide +kernel
theorem dX8_bar_39 : decode cX8_bar 39 = .ok (.ifCond .eq 14, 3) := by decide +kernel
theorem dX8_bar_42 : decode cX8_bar 42 = .ok (.aload_n 0, 1) := by decide +kernel
theorem dX8_bar_43 : decode cX8_bar 43 = .ok (.iload_n 1, 1) := by decide +kernel
theorem dX8_bar_44 : decode cX8_bar 44 = .ok (.iconst 1, 1) := by decide +kernel
theorem dX8_bar_45 : decode cX8_bar 45 = .ok (.iload_n 2, 1) := by decide +kernel
theorem dX8_bar_46 : decode cX8_bar 46 = .ok (.bipush 20, 2) := by decide +kernel
theorem dX8_bar_48 : decode cX8_bar 48 = .ok (.isub, 1) := by decide +kernel
theorem dX8_bar_49 : decode cX8_bar 49 = .ok (.invokevirtual 67, 3) := by decide +kernel
theorem dX8_bar_52 : decode cX8_bar 52 = .ok (.ireturn, 1) := by decide +kernel
theorem dX8_bar_53 : decode cX8_bar 53 = .ok (.iload_n 2, 1) := by decide +kernel
theorem dX8_bar_54 : decode cX8_bar 54 = .ok (.tableswitch 100 0 8 #[50, 50, 50, 62, 62, 71, 71, 80, 94], 50) := by decide +kernel
theorem dX8_bar_104 : decode cX8_bar 104 = .ok (.aload_n 0, 1) := by decide +kernel
theorem dX8_bar_105 : decode cX8_bar 105 = .ok (.getfield 7, 3) := by decide +kernel
theorem dX8_bar_108 : decode cX8_bar 108 = .ok (.bipush 10, 2) := by decide +kernel
theorem dX8_bar_110 : decode cX8_bar 110 = .ok (.iload_n 2, 1) := by decide +kernel
theorem dX8_bar_111 : decode cX8_bar 111 = .ok (.imul, 1) := by decide +kernel
theorem dX8_bar_112 : decode cX8_bar 112 = .ok (.iload_n 1, 1) := by decide +kernel
theorem dX8_bar_113 : decode cX8_bar 113 = .ok (.iadd, 1) := by decide +kernel
theorem dX8_bar_114 : decode cX8_bar 114 = .ok (.iaload, 1) := by decide +kernel
theorem dX8_bar_115 : decode cX8_bar 115 = .ok (.ireturn, 1) := by decide +kernel
theorem dX8_bar_116 : decode cX8_bar 116 = .ok (.aload_n 0, 1) := by decide +kernel
theorem dX8_bar_117 : decode cX8_bar 117 = .ok (.iload_n 1, 1) := by decide +kernel
theorem dX8_bar_118 : decode cX8_bar 118 = .ok (.iload_n 2, 1) := by decide +kernel
theorem dX8_bar_119 : decode cX8_bar 119 = .ok (.iconst 3, 1) := by decide +kernel
theorem dX8_bar_120 : decode cX8_bar 120 = .ok (.isub, 1) := by decide +kernel
theorem dX8_bar_121 : decode cX8_bar 121 = .ok (.invokevirtual 48, 3) := by decide +kernel
theorem dX8_bar_124 : decode cX8_bar 124 = .ok (.ireturn, 1) := by decide +kernel
theorem dX8_bar_125 : decode cX8_bar 125 = .ok (.aload_n 0, 1) := by decide +kernel
theorem dX8_bar_126 : decode cX8_bar 126 = .ok (.iload_n 1, 1) := by decide +kernel
theorem dX8_bar_127 : decode cX8_bar 127 = .ok (.iload_n 2, 1) := by decide +kernel
theorem dX8_bar_128 : decode cX8_bar 128 = .ok (.iconst 5, 1) := by decide +kernel
theorem dX8_bar_129 : decode cX8_bar 129 = .ok (.isub, 1) := by decide +kernel
theorem dX8_bar_130 : decode cX8_bar 130 = .ok (.invokevirtual 56, 3) := by decide +kernel
theorem dX8_bar_133 : decode cX8_bar 133 = .ok (.ireturn, 1) := by decide +kernel
theorem dX8_bar_134 : decode cX8_bar 134 = .ok (.aload_n 0, 1) := by decide +kernel
theorem dX8_bar_135 : decode cX8_bar 135 = .ok (.iload_n 1, 1) := by decide +kernel
theorem dX8_bar_136 : decode cX8_bar 136 = .ok (.invokevirtual 70, 3) := by decide +kernel
theorem dX8_bar_139 : decode cX8_bar 139 = .ok (.ifCond .eq 7, 3) := by decide +kernel
theorem dX8_bar_142 : decode cX8_bar 142 = .ok (.iconst 1, 1) := by decide +kernel
theorem dX8_bar_143 : decode cX8_bar 143 = .ok (.goto 4, 3) := by decide +kernel
theorem dX8_bar_146 : decode cX8_bar 146 = .ok (.iconst 0, 1) := by decide +kernel
theorem dX8_bar_147 : decode cX8_bar 147 = .ok (.ireturn, 1) := by decide +kernel
theorem dX8_bar_148 : decode cX8_bar 148 = .ok (.aload_n 0, 1) := by decide +kernel
theorem dX8_bar_149 : decode cX8_bar 149 = .ok (.iload_n 1, 1) := by decide +kernel
theorem dX8_bar_150 : decode cX8_bar 150 = .ok (.invokevirtual 73, 3) := by decide +kernel
theorem dX8_bar_153 : decode cX8_bar 153 = .ok (.ireturn, 1) := by decide +kernel
theorem dX8_bar_154 : decode cX8_bar 154 = .ok (.bipush (-2), 2) := by decide +kernel
theorem dX8_bar_156 : decode cX8_bar 156 = .ok (.ireturn, 1) := by decide +kernel
set_option maxRecDepth 20000 in
theorem ggX8_pull_X8_many : GoodIn wsX8_pull wsX8_many := goodIn_r _ [5, 6, 11, 12, 13, 14, 15, 16, 17, 18, 19, 20, 21, 22, 23] (by decide +kernel) (by decide +kernel)
set_option maxRecDepth 20000 in
theorem gX8_pull_X8_many : GoodIn wsX8_pull (wsV RX8 48 RX8 yX8_many wsX8_many) := goodIn_app (goodIn_of _ (by decide +kernel)) ggX8_pull_X8_many
set_option maxRecDepth 20000 in
theorem ggX8_pull_X8_weight : GoodIn wsX8_pull wsX8_weight := goodIn_r _ [10, 6, 11, 12, 13, 14, 15, 16, 17, 18, 19, 20, 21, 22, 23] (by decide +kernel) (by decide +kernel)
set_option maxRecDepth 20000 in
theorem gX8_pull_X8_weight : GoodIn wsX8_pull (wsV RX8 52 RX8 yX8_weight wsX8_weight) := goodIn_app (goodIn_of _ (by decide +kernel)) ggX8_pull_X8_weight
theorem dX8_pull_0 : decode cX8_pull 0 = .ok (.iload_n 2, 1) := by decide +kernel
theorem dX8_pull_1 : decode cX8_pull 1 = .ok (.aload_n 0, 1) := by decide +kernel
theorem dX8_pull_2 : decode cX8_pull 2 = .ok (.iload_n 1, 1) := by decide +kernel
theorem dX8_pull_3 : decode cX8_pull 3 = .ok (.iconst 0, 1) := by decide +kernel
theorem dX8_pull_4 : decode cX8_pull 4 = .ok (.invokevirtual 48, 3) := by decide +kernel
theorem dX8_pull_7 : decode cX8_pull 7 = .ok (.if_icmp .ge 13, 3) := by decide +kernel
theorem dX8_pull_10 : decode cX8_pull 10 = .ok (.aload_n 0, 1) := by decide +kernel
theorem dX8_pull_11 : decode cX8_pull 11 = .ok (.iload_n 1, 1) := by decide +kernel
theorem dX8_pull_12 : decode cX8_pull 12 = .ok (.iconst 0, 1) := by decide +kernel
theorem dX8_pull_13 : decode cX8_pull 13 = .ok (.iload_n 2, 1) := by decide +kernel
theorem dX8_pull_14 : decode cX8_pull 14 = .ok (.invokevirtual 52, 3) := by decide +kernel
theorem dX8_pull_17 : decode cX8_pull 17 = .ok (.goto 18, 3) := by decide +kernel
theorem dX8_pull_20 : decode cX8_pull 20 = .ok (.aload_n 0, 1) := by decide +kernel
theorem dX8_pull_21 : decode cX8_pull 21 = .ok (.iload_n 1, 1) := by decide +kernel
theorem dX8_pull_22 : decode cX8_pull 22 = .ok (.iconst 1, 1) := by decide +kernel
theorem dX8_pull_23 : decode cX8_pull 23 = .ok (.iload_n 2, 1) := by decide +kernel
theorem dX8_pull_24 : decode cX8_pull 24 = .ok (.aload_n 0, 1) := by decide +kernel
theorem dX8_pull_25 : decode cX8_pull 25 = .ok (.iload_n 1, 1) := by decide +kernel
theorem dX8_pull_26 : decode cX8_pull 26 = .ok (.iconst 0, 1) := by decide +kernel
theorem dX8_pull_27 : decode cX8_pull 27 = .ok (.invokevirtual 48, 3) := by decide +kernel
theorem dX8_pull_30 : decode cX8_pull 30 = .ok (.isub, 1) := by decide +kernel
theorem dX8_pull_31 : decode cX8_pull 31 = .ok (.invokevirtual 52, 3) := by decide +kernel
theorem dX8_pull_34 : decode cX8_pull 34 = .ok (.ineg, 1) := by decide +kernel
theorem dX8_pull_35 : decode cX8_pull 35 = .ok (.ireturn, 1) := by decide +kernel
set_option maxRecDepth 20000 in
theorem ggX8_layWays_X8_many : GoodIn wsX8_layWays wsX8_many := goodIn_r _ [8, 3, 23, 24, 25, 26, 27, 28, 29, 30, 31, 32, 33, 34, 35] (by decide +kernel) (by decide +kernel)
set_option maxRecDepth 20000 in
theorem gX8_layWays_X8_many : GoodIn wsX8_layWays (wsV RX8 48 RX8 yX8_many wsX8_many) := goodIn_app (goodIn_of _ (by decide +kernel)) ggX8_layWays_X8_many
set_option maxRecDepth 20000 in
theorem ggX8_layWays_X8_has : GoodIn wsX8_layWays wsX8_has := goodIn_r _ [11] (by decide +kernel) (by decide +kernel)
set_option maxRecDepth 20000 in
theorem gX8_layWays_X8_has : GoodIn wsX8_layWays (va_wsS RX8 80 yX8_has wsX8_has) := goodIn_app (goodIn_of _ (by decide +kernel)) ggX8_layWays_X8_has
set_option maxRecDepth 20000 in
theorem ggX8_layWays_X8_pull : GoodIn wsX8_layWays wsX8_pull := goodIn_r _ [15, 4, 5, 6, 7, 8, 3, 16, 17, 18, 19, 23, 24, 25, 26, 27, 28, 29, 30, 31, 32, 33, 34, 35] (by decide +kernel) (by decide +kernel)
set_option maxRecDepth 20000 in
theorem gX8_layWays_X8_pull : GoodIn wsX8_layWays (wsV RX8 84 RX8 yX8_pull wsX8_pull) := goodIn_app (goodIn_of _ (by decide +kernel)) ggX8_layWays_X8_pull
set_option maxRecDepth 20000 in
theorem ggX8_layWays_X8_size : GoodIn wsX8_layWays wsX8_size := goodIn_r _ [22] (by decide +kernel) (by decide +kernel)
set_option maxRecDepth 20000 in
theorem gX8_layWays_X8_size : GoodIn wsX8_layWays (va_wsS RX8 59 yX8_size wsX8_size) := goodIn_app (goodIn_of _ (by decide +kernel)) ggX8_layWays_X8_size
theorem dX8_layWays_0 : decode cX8_layWays 0 = .ok (.aload_n 0, 1) := by decide +kernel
theorem dX8_layWays_1 : decode cX8_layWays 1 = .ok (.aload_n 0, 1) := by decide +kernel
theorem dX8_layWays_2 : decode cX8_layWays 2 = .ok (.iload_n 1, 1) := by decide +kernel
theorem dX8_layWays_3 : decode cX8_layWays 3 = .ok (.iconst 0, 1) := by decide +kernel
theorem dX8_layWays_4 : decode cX8_layWays 4 = .ok (.invokevirtual 48, 3) := by decide +kernel
theorem dX8_layWays_7 : decode cX8_layWays 7 = .ok (.aload_n 0, 1) := by decide +kernel
theorem dX8_layWays_8 : decode cX8_layWays 8 = .ok (.iload_n 1, 1) := by decide +kernel
theorem dX8_layWays_9 : decode cX8_layWays 9 = .ok (.iconst 1, 1) := by decide +kernel
theorem dX8_layWays_10 : decode cX8_layWays 10 = .ok (.invokevirtual 48, 3) := by decide +kernel
theorem dX8_layWays_13 : decode cX8_layWays 13 = .ok (.iadd, 1) := by decide +kernel
theorem dX8_layWays_14 : decode cX8_layWays 14 = .ok (.putfield 76, 3) := by decide +kernel
theorem dX8_layWays_17 : decode cX8_layWays 17 = .ok (.iconst 1, 1) := by decide +kernel
theorem dX8_layWays_18 : decode cX8_layWays 18 = .ok (.aload_n 0, 1) := by decide +kernel
theorem dX8_layWays_19 : decode cX8_layWays 19 = .ok (.getfield 76, 3) := by decide +kernel
theorem dX8_layWays_22 : decode cX8_layWays 22 = .ok (.ishl, 1) := by decide +kernel
theorem dX8_layWays_23 : decode cX8_layWays 23 = .ok (.iconst 1, 1) := by decide +kernel
theorem dX8_layWays_24 : decode cX8_layWays 24 = .ok (.isub, 1) := by decide +kernel
theorem dX8_layWays_25 : decode cX8_layWays 25 = .ok (.istore_n 2, 1) := by decide +kernel
theorem dX8_layWays_26 : decode cX8_layWays 26 = .ok (.iload_n 2, 1) := by decide +kernel
theorem dX8_layWays_27 : decode cX8_layWays 27 = .ok (.ifCond .lt 127, 3) := by decide +kernel
theorem dX8_layWays_30 : decode cX8_layWays 30 = .ok (.iconst 0, 1) := by decide +kernel
theorem dX8_layWays_31 : decode cX8_layWays 31 = .ok (.istore_n 3, 1) := by decide +kernel
theorem dX8_layWays_32 : decode cX8_layWays 32 = .ok (.iconst 0, 1) := by decide +kernel
theorem dX8_layWays_33 : decode cX8_layWays 33 = .ok (.istore 4, 2) := by decide +kernel
theorem dX8_layWays_35 : decode cX8_layWays 35 = .ok (.iconst 0, 1) := by decide +kernel
theorem dX8_layWays_36 : decode cX8_layWays 36 = .ok (.istore 5, 2) := by decide +kernel
theorem dX8_layWays_38 : decode cX8_layWays 38 = .ok (.iload 5, 2) := by decide +kernel
theorem dX8_layWays_40 : decode cX8_layWays 40 = .ok (.aload_n 0, 1) := by decide +kernel
theorem dX8_layWays_41 : decode cX8_layWays 41 = .ok (.getfield 76, 3) := by decide +kernel
theorem dX8_layWays_44 : decode cX8_layWays 44 = .ok (.if_icmp .ge 61, 3) := by decide +kernel
theorem dX8_layWays_47 : decode cX8_layWays 47 = .ok (.iload_n 3, 1) := by decide +kernel
theorem dX8_layWays_48 : decode cX8_layWays 48 = .ok (.iload_n 2, 1) := by decide +kernel
theorem dX8_layWays_49 : decode cX8_layWays 49 = .ok (.iload 5, 2) := by decide +kernel
theorem dX8_layWays_51 : decode cX8_layWays 51 = .ok (.invokestatic 80, 3) := by decide +kernel
theorem dX8_layWays_54 : decode cX8_layWays 54 = .ok (.ifCond .eq 13, 3) := by decide +kernel
theorem dX8_layWays_57 : decode cX8_layWays 57 = .ok (.aload_n 0, 1) := by decide +kernel
theorem dX8_layWays_58 : decode cX8_layWays 58 = .ok (.iload_n 1, 1) := by decide +kernel
theorem dX8_layWays_59 : decode cX8_layWays 59 = .ok (.iload 5, 2) := by decide +kernel
theorem dX8_layWays_61 : decode cX8_layWays 61 = .ok (.invokevirtual 84, 3) := by decide +kernel
theorem dX8_layWays_64 : decode cX8_layWays 64 = .ok (.goto 4, 3) := by decide +kernel
theorem dX8_layWays_67 : decode cX8_layWays 67 = .ok (.iconst 0, 1) := by decide +kernel
theorem dX8_layWays_68 : decode cX8_layWays 68 = .ok (.iadd, 1) := by decide +kernel
theorem dX8_layWays_69 : decode cX8_layWays 69 = .ok (.istore_n 3, 1) := by decide +kernel
theorem dX8_layWays_70 : decode cX8_layWays 70 = .ok (.iload 4, 2) := by decide +kernel
theorem dX8_layWays_72 : decode cX8_layWays 72 = .ok (.iload_n 2, 1) := by decide +kernel
theorem dX8_layWays_73 : decode cX8_layWays 73 = .ok (.iload 5, 2) := by decide +kernel
theorem dX8_layWays_75 : decode cX8_layWays 75 = .ok (.invokestatic 80, 3) := by decide +kernel
theorem dX8_layWays_78 : decode cX8_layWays 78 = .ok (.ifCond .eq 7, 3) := by decide +kernel
theorem dX8_layWays_81 : decode cX8_layWays 81 = .ok (.iconst 0, 1) := by decide +kernel
theorem dX8_layWays_82 : decode cX8_layWays 82 = .ok (.goto 14, 3) := by decide +kernel
theorem dX8_layWays_85 : decode cX8_layWays 85 = .ok (.aload_n 0, 1) := by decide +kernel
theorem dX8_layWays_86 : decode cX8_layWays 86 = .ok (.getfield 20, 3) := by decide +kernel
theorem dX8_layWays_89 : decode cX8_layWays 89 = .ok (.iload_n 2, 1) := by decide +kernel
theorem dX8_layWays_90 : decode cX8_layWays 90 = .ok (.iconst 1, 1) := by decide +kernel
theorem dX8_layWays_91 : decode cX8_layWays 91 = .ok (.iload 5, 2) := by decide +kernel
theorem dX8_layWays_93 : decode cX8_layWays 93 = .ok (.ishl, 1) := by decide +kernel
theorem dX8_layWays_94 : decode cX8_layWays 94 = .ok (.ior, 1) := by decide +kernel
theorem dX8_layWays_95 : decode cX8_layWays 95 = .ok (.iaload, 1) := by decide +kernel
theorem dX8_layWays_96 : decode cX8_layWays 96 = .ok (.iadd, 1) := by decide +kernel
theorem dX8_layWays_97 : decode cX8_layWays 97 = .ok (.istore 4, 2) := by decide +kernel
theorem dX8_layWays_99 : decode cX8_layWays 99 = .ok (.iinc 5 1, 3) := by decide +kernel
theorem dX8_layWays_102 : decode cX8_layWays 102 = .ok (.goto (-64), 3) := by decide +kernel
theorem dX8_layWays_105 : decode cX8_layWays 105 = .ok (.aload_n 0, 1) := by decide +kernel
theorem dX8_layWays_106 : decode cX8_layWays 106 = .ok (.getfield 20, 3) := by decide +kernel
theorem dX8_layWays_109 : decode cX8_layWays 109 = .ok (.iload_n 2, 1) := by decide +kernel
theorem dX8_layWays_110 : decode cX8_layWays 110 = .ok (.iload_n 3, 1) := by decide +kernel
theorem dX8_layWays_111 : decode cX8_layWays 111 = .ok (.invokestatic 59, 3) := by decide +kernel
theorem dX8_layWays_114 : decode cX8_layWays 114 = .ok (.aload_n 0, 1) := by decide +kernel
theorem dX8_layWays_115 : decode cX8_layWays 115 = .ok (.getfield 7, 3) := by decide +kernel
theorem dX8_layWays_118 : decode cX8_layWays 118 = .ok (.sipush 170, 3) := by decide +kernel
theorem dX8_layWays_121 : decode cX8_layWays 121 = .ok (.iaload, 1) := by decide +kernel
theorem dX8_layWays_122 : decode cX8_layWays 122 = .ok (.if_icmp .le 7, 3) := by decide +kernel
theorem dX8_layWays_125 : decode cX8_layWays 125 = .ok (.iconst 0, 1) := by decide +kernel
theorem dX8_layWays_126 : decode cX8_layWays 126 = .ok (.goto 21, 3) := by decide +kernel
theorem dX8_layWays_129 : decode cX8_layWays 129 = .ok (.iload_n 2, 1) := by decide +kernel
theorem dX8_layWays_130 : decode cX8_layWays 130 = .ok (.iconst 1, 1) := by decide +kernel
theorem dX8_layWays_131 : decode cX8_layWays 131 = .ok (.aload_n 0, 1) := by decide +kernel
theorem dX8_layWays_132 : decode cX8_layWays 132 = .ok (.getfield 76, 3) := by decide +kernel
theorem dX8_layWays_135 : decode cX8_layWays 135 = .ok (.ishl, 1) := by decide +kernel
theorem dX8_layWays_136 : decode cX8_layWays 136 = .ok (.iconst 1, 1) := by decide +kernel
theorem dX8_layWays_137 : decode cX8_layWays 137 = .ok (.isub, 1) := by decide +kernel
theorem dX8_layWays_138 : decode cX8_layWays 138 = .ok (.if_icmp .ne 7, 3) := by decide +kernel
theorem dX8_layWays_141 : decode cX8_layWays 141 = .ok (.iconst 1, 1) := by decide +kernel
theorem dX8_layWays_142 : decode cX8_layWays 142 = .ok (.goto 5, 3) := by decide +kernel
theorem dX8_layWays_145 : decode cX8_layWays 145 = .ok (.iload 4, 2) := by decide +kernel
theorem dX8_layWays_147 : decode cX8_layWays 147 = .ok (.iastore, 1) := by decide +kernel
theorem dX8_layWays_148 : decode cX8_layWays 148 = .ok (.iinc 2 (-1), 3) := by decide +kernel
theorem dX8_layWays_151 : decode cX8_layWays 151 = .ok (.goto (-125), 3) := by decide +kernel
theorem dX8_layWays_154 : decode cX8_layWays 154 = .ok (.return_, 1) := by decide +kernel
set_option maxRecDepth 20000 in
theorem ggX8_loading_X8_isBar : GoodIn wsX8_loading wsX8_isBar := goodIn_r _ [6, 7, 8, 5, 9] (by decide +kernel) (by decide +kernel)
set_option maxRecDepth 20000 in
theorem gX8_loading_X8_isBar : GoodIn wsX8_loading (va_wsS RX8 63 yX8_isBar wsX8_isBar) := goodIn_app (goodIn_of _ (by decide +kernel)) ggX8_loading_X8_isBar
set_option maxRecDepth 20000 in
theorem ggX8_loading_X8_layWays : GoodIn wsX8_loading wsX8_layWays := goodIn_r _ [13, 2, 1, 14, 15, 16, 17, 5, 18, 19, 20, 21, 22, 23, 24, 25, 26, 27, 28, 29, 30, 31, 32, 33, 34, 35, 36, 37, 38, 39, 40, 41, 42, 43, 44, 45] (by decide +kernel) (by decide +kernel)
set_option maxRecDepth 20000 in
theorem gX8_loading_X8_layWays : GoodIn wsX8_loading (wsV RX8 87 RX8 yX8_layWays wsX8_layWays) := goodIn_app (goodIn_of _ (by decide +kernel)) ggX8_loading_X8_layWays
set_option maxRecDepth 20000 in
theorem ggX8_loading_X8_has : GoodIn wsX8_loading wsX8_has := goodIn_r _ [21] (by decide +kernel) (by decide +kernel)
set_option maxRecDepth 20000 in
theorem gX8_loading_X8_has : GoodIn wsX8_loading (va_wsS RX8 80 yX8_has wsX8_has) := goodIn_app (goodIn_of _ (by decide +kernel)) ggX8_loading_X8_has
set_option maxRecDepth 20000 in
theorem ggX8_loading_X8_many : GoodIn wsX8_loading wsX8_many := goodIn_r _ [18, 14, 33, 34, 35, 36, 37, 38, 39, 40, 41, 42, 43, 44, 45] (by decide +kernel) (by decide +kernel)
set_option maxRecDepth 20000 in
theorem gX8_loading_X8_many : GoodIn wsX8_loading (wsV RX8 48 RX8 yX8_many wsX8_many) := goodIn_app (goodIn_of _ (by decide +kernel)) ggX8_loading_X8_many
theorem dX8_loading_0 : decode cX8_loading 0 = .ok (.iload_n 1, 1) := by decide +kernel
theorem dX8_loading_1 : decode cX8_loading 1 = .ok (.invokestatic 63, 3) := by decide +kernel
theorem dX8_loading_4 : decode cX8_loading 4 = .ok (.ifCond .ne 5, 3) := by decide +kernel
theorem dX8_loading_7 : decode cX8_loading 7 = .ok (.iconst (-1), 1) := by decide +kernel
theorem dX8_loading_8 : decode cX8_loading 8 = .ok (.ireturn, 1) := by decide +kernel
theorem dX8_loading_9 : decode cX8_loading 9 = .ok (.iload_n 2, 1) := by decide +kernel
theorem dX8_loading_10 : decode cX8_loading 10 = .ok (.iconst (-1), 1) := by decide +kernel
theorem dX8_loading_11 : decode cX8_loading 11 = .ok (.if_icmp .ge 6, 3) := by decide +kernel
theorem dX8_loading_14 : decode cX8_loading 14 = .ok (.bipush (-2), 2) := by decide +kernel
theorem dX8_loading_16 : decode cX8_loading 16 = .ok (.ireturn, 1) := by decide +kernel
theorem dX8_loading_17 : decode cX8_loading 17 = .ok (.aload_n 0, 1) := by decide +kernel
theorem dX8_loading_18 : decode cX8_loading 18 = .ok (.iload_n 1, 1) := by decide +kernel
theorem dX8_loading_19 : decode cX8_loading 19 = .ok (.invokevirtual 87, 3) := by decide +kernel
theorem dX8_loading_22 : decode cX8_loading 22 = .ok (.aload_n 0, 1) := by decide +kernel
theorem dX8_loading_23 : decode cX8_loading 23 = .ok (.getfield 20, 3) := by decide +kernel
theorem dX8_loading_26 : decode cX8_loading 26 = .ok (.iconst 0, 1) := by decide +kernel
theorem dX8_loading_27 : decode cX8_loading 27 = .ok (.iaload, 1) := by decide +kernel
theorem dX8_loading_28 : decode cX8_loading 28 = .ok (.ifCond .eq 11, 3) := by decide +kernel
theorem dX8_loading_31 : decode cX8_loading 31 = .ok (.iload_n 2, 1) := by decide +kernel
theorem dX8_loading_32 : decode cX8_loading 32 = .ok (.aload_n 0, 1) := by decide +kernel
theorem dX8_loading_33 : decode cX8_loading 33 = .ok (.getfield 76, 3) := by decide +kernel
theorem dX8_loading_36 : decode cX8_loading 36 = .ok (.if_icmp .lt 6, 3) := by decide +kernel
theorem dX8_loading_39 : decode cX8_loading 39 = .ok (.bipush (-6), 2) := by decide +kernel
theorem dX8_loading_41 : decode cX8_loading 41 = .ok (.ireturn, 1) := by decide +kernel
theorem dX8_loading_42 : decode cX8_loading 42 = .ok (.iload_n 2, 1) := by decide +kernel
theorem dX8_loading_43 : decode cX8_loading 43 = .ok (.iconst (-1), 1) := by decide +kernel
theorem dX8_loading_44 : decode cX8_loading 44 = .ok (.if_icmp .ne 8, 3) := by decide +kernel
theorem dX8_loading_47 : decode cX8_loading 47 = .ok (.aload_n 0, 1) := by decide +kernel
theorem dX8_loading_48 : decode cX8_loading 48 = .ok (.getfield 76, 3) := by decide +kernel
theorem dX8_loading_51 : decode cX8_loading 51 = .ok (.ireturn, 1) := by decide +kernel
theorem dX8_loading_52 : decode cX8_loading 52 = .ok (.iconst 0, 1) := by decide +kernel
theorem dX8_loading_53 : decode cX8_loading 53 = .ok (.istore_n 3, 1) := by decide +kernel
theorem dX8_loading_54 : decode cX8_loading 54 = .ok (.iconst 0, 1) := by decide +kernel
