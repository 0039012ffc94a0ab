theorem dX8_layCrew_21 : decode cX8_layCrew 21 = .ok (.iastore, 1) := by decide +kernel
theorem dX8_layCrew_22 : decode cX8_layCrew 22 = .ok (.iinc 2 1, 3) := by decide +kernel
theorem dX8_layCrew_25 : decode cX8_layCrew 25 = .ok (.goto (-18), 3) := by decide +kernel
theorem dX8_layCrew_28 : decode cX8_layCrew 28 = .ok (.iconst 0, 1) := by decide +kernel
theorem dX8_layCrew_29 : decode cX8_layCrew 29 = .ok (.istore_n 2, 1) := by decide +kernel
theorem dX8_layCrew_30 : decode cX8_layCrew 30 = .ok (.iload_n 2, 1) := by decide +kernel
theorem dX8_layCrew_31 : decode cX8_layCrew 31 = .ok (.aload_n 0, 1) := by decide +kernel
theorem dX8_layCrew_32 : decode cX8_layCrew 32 = .ok (.getfield 121, 3) := by decide +kernel
theorem dX8_layCrew_35 : decode cX8_layCrew 35 = .ok (.if_icmp .ge 77, 3) := by decide +kernel
theorem dX8_layCrew_38 : decode cX8_layCrew 38 = .ok (.iload_n 2, 1) := by decide +kernel
theorem dX8_layCrew_39 : decode cX8_layCrew 39 = .ok (.ifCond .lt 73, 3) := by decide +kernel
theorem dX8_layCrew_42 : decode cX8_layCrew 42 = .ok (.aload_n 0, 1) := by decide +kernel
theorem dX8_layCrew_43 : decode cX8_layCrew 43 = .ok (.getfield 41, 3) := by decide +kernel
theorem dX8_layCrew_46 : decode cX8_layCrew 46 = .ok (.iload_n 2, 1) := by decide +kernel
theorem dX8_layCrew_47 : decode cX8_layCrew 47 = .ok (.dup2, 1) := by decide +kernel
theorem dX8_layCrew_48 : decode cX8_layCrew 48 = .ok (.iaload, 1) := by decide +kernel
theorem dX8_layCrew_49 : decode cX8_layCrew 49 = .ok (.iconst 1, 1) := by decide +kernel
theorem dX8_layCrew_50 : decode cX8_layCrew 50 = .ok (.iadd, 1) := by decide +kernel
theorem dX8_layCrew_51 : decode cX8_layCrew 51 = .ok (.iastore, 1) := by decide +kernel
theorem dX8_layCrew_52 : decode cX8_layCrew 52 = .ok (.aload_n 0, 1) := by decide +kernel
theorem dX8_layCrew_53 : decode cX8_layCrew 53 = .ok (.getfield 41, 3) := by decide +kernel
theorem dX8_layCrew_56 : decode cX8_layCrew 56 = .ok (.iload_n 2, 1) := by decide +kernel
theorem dX8_layCrew_57 : decode cX8_layCrew 57 = .ok (.iaload, 1) := by decide +kernel
theorem dX8_layCrew_58 : decode cX8_layCrew 58 = .ok (.iload_n 1, 1) := by decide +kernel
theorem dX8_layCrew_59 : decode cX8_layCrew 59 = .ok (.if_icmp .ge 24, 3) := by decide +kernel
theorem dX8_layCrew_62 : decode cX8_layCrew 62 = .ok (.aload_n 0, 1) := by decide +kernel
theorem dX8_layCrew_63 : decode cX8_layCrew 63 = .ok (.iload_n 2, 1) := by decide +kernel
theorem dX8_layCrew_64 : decode cX8_layCrew 64 = .ok (.invokevirtual 137, 3) := by decide +kernel
theorem dX8_layCrew_67 : decode cX8_layCrew 67 = .ok (.ifCond .ne 16, 3) := by decide +kernel
theorem dX8_layCrew_70 : decode cX8_layCrew 70 = .ok (.aload_n 0, 1) := by decide +kernel
theorem dX8_layCrew_71 : decode cX8_layCrew 71 = .ok (.getfield 41, 3) := by decide +kernel
theorem dX8_layCrew_74 : decode cX8_layCrew 74 = .ok (.iload_n 2, 1) := by decide +kernel
theorem dX8_layCrew_75 : decode cX8_layCrew 75 = .ok (.dup2, 1) := by decide +kernel
theorem dX8_layCrew_76 : decode cX8_layCrew 76 = .ok (.iaload, 1) := by decide +kernel
theorem dX8_layCrew_77 : decode cX8_layCrew 77 = .ok (.iconst 1, 1) := by decide +kernel
theorem dX8_layCrew_78 : decode cX8_layCrew 78 = .ok (.iadd, 1) := by decide +kernel
theorem dX8_layCrew_79 : decode cX8_layCrew 79 = .ok (.iastore, 1) := by decide +kernel
theorem dX8_layCrew_80 : decode cX8_layCrew 80 = .ok (.goto (-28), 3) := by decide +kernel
theorem dX8_layCrew_83 : decode cX8_layCrew 83 = .ok (.aload_n 0, 1) := by decide +kernel
theorem dX8_layCrew_84 : decode cX8_layCrew 84 = .ok (.getfield 41, 3) := by decide +kernel
theorem dX8_layCrew_87 : decode cX8_layCrew 87 = .ok (.iload_n 2, 1) := by decide +kernel
theorem dX8_layCrew_88 : decode cX8_layCrew 88 = .ok (.iaload, 1) := by decide +kernel
theorem dX8_layCrew_89 : decode cX8_layCrew 89 = .ok (.iload_n 1, 1) := by decide +kernel
theorem dX8_layCrew_90 : decode cX8_layCrew 90 = .ok (.if_icmp .ge 9, 3) := by decide +kernel
theorem dX8_layCrew_93 : decode cX8_layCrew 93 = .ok (.iinc 2 1, 3) := by decide +kernel
theorem dX8_layCrew_96 : decode cX8_layCrew 96 = .ok (.goto (-66), 3) := by decide +kernel
theorem dX8_layCrew_99 : decode cX8_layCrew 99 = .ok (.aload_n 0, 1) := by decide +kernel
theorem dX8_layCrew_100 : decode cX8_layCrew 100 = .ok (.getfield 41, 3) := by decide +kernel
theorem dX8_layCrew_103 : decode cX8_layCrew 103 = .ok (.iload_n 2, 1) := by decide +kernel
theorem dX8_layCrew_104 : decode cX8_layCrew 104 = .ok (.iconst (-1), 1) := by decide +kernel
theorem dX8_layCrew_105 : decode cX8_layCrew 105 = .ok (.iastore, 1) := by decide +kernel
theorem dX8_layCrew_106 : decode cX8_layCrew 106 = .ok (.iinc 2 (-1), 3) := by decide +kernel
theorem dX8_layCrew_109 : decode cX8_layCrew 109 = .ok (.goto (-79), 3) := by decide +kernel
theorem dX8_layCrew_112 : decode cX8_layCrew 112 = .ok (.return_, 1) := by decide +kernel
set_option maxRecDepth 20000 in
theorem ggX8_handOf_X8_layCrew : GoodIn wsX8_handOf wsX8_layCrew := goodIn_r _ [8, 1, 3, 9, 10, 11, 7, 12, 13, 14, 15, 16, 17, 18, 19, 2, 20, 21, 22, 23, 24, 25, 26, 27, 28, 29, 30, 31, 32, 33, 34, 35, 36, 37, 38, 39, 40, 41, 42, 43, 44, 45, 46, 47, 48, 49, 50, 51, 52, 53, 54, 55, 56, 57, 58, 59, 60, 61, 62, 63, 64, 65, 66, 67, 68, 69, 70, 71, 72, 73, 74, 75, 76, 77, 78, 79, 80, 81, 82, 83, 84, 85, 86, 87, 88] (by decide +kernel) (by decide +kernel)
set_option maxRecDepth 20000 in
theorem gX8_handOf_X8_layCrew : GoodIn wsX8_handOf (wsV RX8 140 RX8 yX8_layCrew wsX8_layCrew) := goodIn_app (goodIn_of _ (by decide +kernel)) ggX8_handOf_X8_layCrew
theorem dX8_handOf_0 : decode cX8_handOf 0 = .ok (.aload_n 0, 1) := by decide +kernel
theorem dX8_handOf_1 : decode cX8_handOf 1 = .ok (.invokevirtual 140, 3) := by decide +kernel
theorem dX8_handOf_4 : decode cX8_handOf 4 = .ok (.bipush (-6), 2) := by decide +kernel
theorem dX8_handOf_6 : decode cX8_handOf 6 = .ok (.istore_n 2, 1) := by decide +kernel
theorem dX8_handOf_7 : decode cX8_handOf 7 = .ok (.iconst 0, 1) := by decide +kernel
theorem dX8_handOf_8 : decode cX8_handOf 8 = .ok (.istore_n 3, 1) := by decide +kernel
theorem dX8_handOf_9 : decode cX8_handOf 9 = .ok (.iload_n 3, 1) := by decide +kernel
theorem dX8_handOf_10 : decode cX8_handOf 10 = .ok (.aload_n 0, 1) := by decide +kernel
theorem dX8_handOf_11 : decode cX8_handOf 11 = .ok (.getfield 121, 3) := by decide +kernel
theorem dX8_handOf_14 : decode cX8_handOf 14 = .ok (.if_icmp .ge 30, 3) := by decide +kernel
theorem dX8_handOf_17 : decode cX8_handOf 17 = .ok (.aload_n 0, 1) := by decide +kernel
theorem dX8_handOf_18 : decode cX8_handOf 18 = .ok (.getfield 29, 3) := by decide +kernel
theorem dX8_handOf_21 : decode cX8_handOf 21 = .ok (.iload_n 3, 1) := by decide +kernel
theorem dX8_handOf_22 : decode cX8_handOf 22 = .ok (.iaload, 1) := by decide +kernel
theorem dX8_handOf_23 : decode cX8_handOf 23 = .ok (.iload_n 1, 1) := by decide +kernel
theorem dX8_handOf_24 : decode cX8_handOf 24 = .ok (.if_icmp .ne 12, 3) := by decide +kernel
theorem dX8_handOf_27 : decode cX8_handOf 27 = .ok (.aload_n 0, 1) := by decide +kernel
theorem dX8_handOf_28 : decode cX8_handOf 28 = .ok (.getfield 41, 3) := by decide +kernel
theorem dX8_handOf_31 : decode cX8_handOf 31 = .ok (.iload_n 3, 1) := by decide +kernel
theorem dX8_handOf_32 : decode cX8_handOf 32 = .ok (.iaload, 1) := by decide +kernel
theorem dX8_handOf_33 : decode cX8_handOf 33 = .ok (.goto 4, 3) := by decide +kernel
theorem dX8_handOf_36 : decode cX8_handOf 36 = .ok (.iload_n 2, 1) := by decide +kernel
theorem dX8_handOf_37 : decode cX8_handOf 37 = .ok (.istore_n 2, 1) := by decide +kernel
theorem dX8_handOf_38 : decode cX8_handOf 38 = .ok (.iinc 3 1, 3) := by decide +kernel
theorem dX8_handOf_41 : decode cX8_handOf 41 = .ok (.goto (-32), 3) := by decide +kernel
theorem dX8_handOf_44 : decode cX8_handOf 44 = .ok (.iload_n 2, 1) := by decide +kernel
theorem dX8_handOf_45 : decode cX8_handOf 45 = .ok (.ireturn, 1) := by decide +kernel
set_option maxRecDepth 20000 in
theorem ggX8_told_X8_isMove : GoodIn wsX8_told wsX8_isMove := goodIn_r _ [7, 1, 8, 9, 6, 10, 91, 92, 93, 94, 95, 96, 97, 98, 99, 100, 101, 102, 103] (by decide +kernel) (by decide +kernel)
set_option maxRecDepth 20000 in
theorem gX8_told_X8_isMove : GoodIn wsX8_told (wsV RX8 94 RX8 yX8_isMove wsX8_isMove) := goodIn_app (goodIn_of _ (by decide +kernel)) ggX8_told_X8_isMove
set_option maxRecDepth 20000 in
theorem ggX8_told_X8_endOf : GoodIn wsX8_told wsX8_endOf := goodIn_r _ [14, 1, 2, 15, 16, 17, 6, 18, 19, 20, 21, 22, 23, 24, 25, 26, 27, 28, 29, 91, 92, 93, 94, 95, 96, 97, 98, 99, 100, 101, 102, 103] (by decide +kernel) (by decide +kernel)
set_option maxRecDepth 20000 in
theorem gX8_told_X8_endOf : GoodIn wsX8_told (wsV RX8 106 RX8 yX8_endOf wsX8_endOf) := goodIn_app (goodIn_of _ (by decide +kernel)) ggX8_told_X8_endOf
set_option maxRecDepth 20000 in
theorem ggX8_told_X8_layHeights : GoodIn wsX8_told wsX8_layHeights := goodIn_r _ [18, 2, 1, 19, 20, 21, 6, 22, 23, 24, 25, 91, 92, 93, 94, 95, 96, 97, 98, 99, 100, 101, 102, 103] (by decide +kernel) (by decide +kernel)
set_option maxRecDepth 20000 in
theorem gX8_told_X8_layHeights : GoodIn wsX8_told (wsV RX8 100 RX8 yX8_layHeights wsX8_layHeights) := goodIn_app (goodIn_of _ (by decide +kernel)) ggX8_told_X8_layHeights
set_option maxRecDepth 20000 in
theorem ggX8_told_X8_isCut : GoodIn wsX8_told wsX8_isCut := goodIn_r _ [33, 2, 1, 11, 12, 13, 6, 14, 15, 16, 17, 18, 19, 20, 21, 22, 23, 24, 25, 26, 27, 28, 29, 91, 92, 93, 94, 95, 96, 97, 98, 99, 100, 101, 102, 103] (by decide +kernel) (by decide +kernel)
set_option maxRecDepth 20000 in
theorem gX8_told_X8_isCut : GoodIn wsX8_told (wsV RX8 143 RX8 yX8_isCut wsX8_isCut) := goodIn_app (goodIn_of _ (by decide +kernel)) ggX8_told_X8_isCut
set_option maxRecDepth 20000 in
theorem ggX8_told_X8_handOf : GoodIn wsX8_told wsX8_handOf := goodIn_r _ [37, 38, 39, 40, 41, 42, 43, 6, 44, 45, 46, 47, 48, 49, 50, 51, 52, 53, 54, 1, 55, 56, 57, 58, 59, 60, 61, 62, 63, 64, 65, 66, 67, 68, 69, 70, 71, 23, 24, 25, 11, 12, 13, 14, 2, 15, 16, 17, 18, 19, 20, 21, 22, 26, 27, 28, 29, 72, 73, 74, 75, 76, 77, 78, 79, 80, 81, 82, 83, 84, 85, 86, 87, 88, 89, 90, 91, 92, 93, 94, 95, 96, 97, 98, 99, 100, 101, 102, 103] (by decide +kernel) (by decide +kernel)
set_option maxRecDepth 20000 in
theorem gX8_told_X8_handOf : GoodIn wsX8_told (wsV RX8 146 RX8 yX8_handOf wsX8_handOf) := goodIn_app (goodIn_of _ (by decide +kernel)) ggX8_told_X8_handOf
theorem dX8_told_0 : decode cX8_told 0 = .ok (.aload_n 0, 1) := by decide +kernel
theorem dX8_told_1 : decode cX8_told 1 = .ok (.iload_n 1, 1) := by decide +kernel
theorem dX8_told_2 : decode cX8_told 2 = .ok (.invokevirtual 94, 3) := by decide +kernel
theorem dX8_told_5 : decode cX8_told 5 = .ok (.ifCond .ne 5, 3) := by decide +kernel
theorem dX8_told_8 : decode cX8_told 8 = .ok (.iconst (-1), 1) := by decide +kernel
theorem dX8_told_9 : decode cX8_told 9 = .ok (.ireturn, 1) := by decide +kernel
theorem dX8_told_10 : decode cX8_told 10 = .ok (.iload_n 2, 1) := by decide +kernel
theorem dX8_told_11 : decode cX8_told 11 = .ok (.tableswitch 132 0 8 #[49, 49, 49, 49, 65, 71, 101, 112, 126], 49) := by decide +kernel
theorem dX8_told_60 : decode cX8_told 60 = .ok (.aload_n 0, 1) := by decide +kernel
theorem dX8_told_61 : decode cX8_told 61 = .ok (.getfield 7, 3) := by decide +kernel
theorem dX8_told_64 : decode cX8_told 64 = .ok (.sipush 171, 3) := by decide +kernel
theorem dX8_told_67 : decode cX8_told 67 = .ok (.bipush 10, 2) := by decide +kernel
theorem dX8_told_69 : decode cX8_told 69 = .ok (.iload_n 2, 1) := by decide +kernel
theorem dX8_told_70 : decode cX8_told 70 = .ok (.imul, 1) := by decide +kernel
theorem dX8_told_71 : decode cX8_told 71 = .ok (.iadd, 1) := by decide +kernel
theorem dX8_told_72 : decode cX8_told 72 = .ok (.iload_n 1, 1) := by decide +kernel
theorem dX8_told_73 : decode cX8_told 73 = .ok (.iadd, 1) := by decide +kernel
theorem dX8_told_74 : decode cX8_told 74 = .ok (.iaload, 1) := by decide +kernel
theorem dX8_told_75 : decode cX8_told 75 = .ok (.ireturn, 1) := by decide +kernel
theorem dX8_told_76 : decode cX8_told 76 = .ok (.aload_n 0, 1) := by decide +kernel
theorem dX8_told_77 : decode cX8_told 77 = .ok (.iload_n 1, 1) := by decide +kernel
theorem dX8_told_78 : decode cX8_told 78 = .ok (.invokevirtual 106, 3) := by decide +kernel
theorem dX8_told_81 : decode cX8_told 81 = .ok (.ireturn, 1) := by decide +kernel
theorem dX8_told_82 : decode cX8_told 82 = .ok (.aload_n 0, 1) := by decide +kernel
theorem dX8_told_83 : decode cX8_told 83 = .ok (.aload_n 0, 1) := by decide +kernel
theorem dX8_told_84 : decode cX8_told 84 = .ok (.getfield 7, 3) := by decide +kernel
theorem dX8_told_87 : decode cX8_told 87 = .ok (.sipush 171, 3) := by decide +kernel
theorem dX8_told_90 : decode cX8_told 90 = .ok (.iload_n 1, 1) := by decide +kernel
theorem dX8_told_91 : decode cX8_told 91 = .ok (.iadd, 1) := by decide +kernel
theorem dX8_told_92 : decode cX8_told 92 = .ok (.iaload, 1) := by decide +kernel
theorem dX8_told_93 : decode cX8_told 93 = .ok (.invokevirtual 100, 3) := by decide +kernel
theorem dX8_told_96 : decode cX8_told 96 = .ok (.aload_n 0, 1) := by decide +kernel
theorem dX8_told_97 : decode cX8_told 97 = .ok (.getfield 23, 3) := by decide +kernel
theorem dX8_told_100 : decode cX8_told 100 = .ok (.aload_n 0, 1) := by decide +kernel
theorem dX8_told_101 : decode cX8_told 101 = .ok (.getfield 7, 3) := by decide +kernel
theorem dX8_told_104 : decode cX8_told 104 = .ok (.sipush 181, 3) := by decide +kernel
theorem dX8_told_107 : decode cX8_told 107 = .ok (.iload_n 1, 1) := by decide +kernel
theorem dX8_told_108 : decode cX8_told 108 = .ok (.iadd, 1) := by decide +kernel
theorem dX8_told_109 : decode cX8_told 109 = .ok (.iaload, 1) := by decide +kernel
theorem dX8_told_110 : decode cX8_told 110 = .ok (.iaload, 1) := by decide +kernel
theorem dX8_told_111 : decode cX8_told 111 = .ok (.ireturn, 1) := by decide +kernel
theorem dX8_told_112 : decode cX8_told 112 = .ok (.aload_n 0, 1) := by decide +kernel
theorem dX8_told_113 : decode cX8_told 113 = .ok (.getfield 23, 3) := by decide +kernel
theorem dX8_told_116 : decode cX8_told 116 = .ok (.aload_n 0, 1) := by decide +kernel
theorem dX8_told_117 : decode cX8_told 117 = .ok (.iload_n 1, 1) := by decide +kernel
theorem dX8_told_118 : decode cX8_told 118 = .ok (.invokevirtual 106, 3) := by decide +kernel
theorem dX8_told_121 : decode cX8_told 121 = .ok (.iaload, 1) := by decide +kernel
theorem dX8_told_122 : decode cX8_told 122 = .ok (.ireturn, 1) := by decide +kernel
theorem dX8_told_123 : decode cX8_told 123 = .ok (.aload_n 0, 1) := by decide +kernel
theorem dX8_told_124 : decode cX8_told 124 = .ok (.iload_n 1, 1) := by decide +kernel
theorem dX8_told_125 : decode cX8_told 125 = .ok (.invokevirtual 143, 3) := by decide +kernel
theorem dX8_told_128 : decode cX8_told 128 = .ok (.ifCond .eq 7, 3) := by decide +kernel
theorem dX8_told_131 : decode cX8_told 131 = .ok (.iconst 1, 1) := by decide +kernel
theorem dX8_told_132 : decode cX8_told 132 = .ok (.goto 4, 3) := by decide +kernel
theorem dX8_told_135 : decode cX8_told 135 = .ok (.iconst 0, 1) := by decide +kernel
theorem dX8_told_136 : decode cX8_told 136 = .ok (.ireturn, 1) := by decide +kernel
theorem dX8_told_137 : decode cX8_told 137 = .ok (.aload_n 0, 1) := by decide +kernel
theorem dX8_told_138 : decode cX8_told 138 = .ok (.iload_n 1, 1) := by decide +kernel
theorem dX8_told_139 : decode cX8_told 139 = .ok (.invokevirtual 146, 3) := by decide +kernel
theorem dX8_told_142 : decode cX8_told 142 = .ok (.ireturn, 1) := by decide +kernel
theorem dX8_told_143 : decode cX8_told 143 = .ok (.bipush (-2), 2) := by decide +kernel
theorem dX8_told_145 : decode cX8_told 145 = .ok (.ireturn, 1) := by decide +kernel
set_option maxRecDepth 20000 in
theorem ggX8_mostAtOnce_X8_begin : GoodIn wsX8_mostAtOnce wsX8_begin := goodIn_r _ [7, 8, 9, 10, 11, 12, 13, 14, 15, 16, 17, 18, 19, 20, 21, 22] (by decide +kernel) (by decide +kernel)
set_option maxRecDepth 20000 in
theorem gX8_mostAtOnce_X8_begin : GoodIn wsX8_mostAtOnce (wsV RX8 118 RX8 yX8_begin wsX8_begin) := goodIn_app (goodIn_of _ (by decide +kernel)) ggX8_mostAtOnce_X8_begin
theorem dX8_mostAtOnce_0 : decode cX8_mostAtOnce 0 = .ok (.iconst 0, 1) := by decide +kernel
theorem dX8_mostAtOnce_1 : decode cX8_mostAtOnce 1 = .ok (.istore_n 1, 1) := by decide +kernel
theorem dX8_mostAtOnce_2 : decode cX8_mostAtOnce 2 = .ok (.iconst 0, 1) := by decide +kernel
theorem dX8_mostAtOnce_3 : decode cX8_mostAtOnce 3 = .ok (.istore_n 2, 1) := by decide +kernel
theorem dX8_mostAtOnce_4 : decode cX8_mostAtOnce 4 = .ok (.iload_n 2, 1) := by decide +kernel
theorem dX8_mostAtOnce_5 : decode cX8_mostAtOnce 5 = .ok (.sipush 300, 3) := by decide +kernel
theorem dX8_mostAtOnce_8 : decode cX8_mostAtOnce 8 = .ok (.if_icmp .gt 69, 3) := by decide +kernel
theorem dX8_mostAtOnce_11 : decode cX8_mostAtOnce 11 = .ok (.iconst 0, 1) := by decide +kernel
theorem dX8_mostAtOnce_12 : decode cX8_mostAtOnce 12 = .ok (.istore_n 3, 1) := by decide +kernel
theorem dX8_mostAtOnce_13 : decode cX8_mostAtOnce 13 = .ok (.iconst 0, 1) := by decide +kernel
theorem dX8_mostAtOnce_14 : decode cX8_mostAtOnce 14 = .ok (.istore 4, 2) := by decide +kernel
theorem dX8_mostAtOnce_16 : decode cX8_mostAtOnce 16 = .ok (.iload 4, 2) := by decide +kernel
theorem dX8_mostAtOnce_18 : decode cX8_mostAtOnce 18 = .ok (.aload_n 0, 1) := by decide +kernel
theorem dX8_mostAtOnce_19 : decode cX8_mostAtOnce 19 = .ok (.getfield 121, 3) := by decide +kernel
theorem dX8_mostAtOnce_22 : decode cX8_mostAtOnce 22 = .ok (.if_icmp .ge 38, 3) := by decide +kernel
theorem dX8_mostAtOnce_25 : decode cX8_mostAtOnce 25 = .ok (.iload_n 3, 1) := by decide +kernel
theorem dX8_mostAtOnce_26 : decode cX8_mostAtOnce 26 = .ok (.aload_n 0, 1) := by decide +kernel
theorem dX8_mostAtOnce_27 : decode cX8_mostAtOnce 27 = .ok (.iload 4, 2) := by decide +kernel
theorem dX8_mostAtOnce_29 : decode cX8_mostAtOnce 29 = .ok (.invokevirtual 118, 3) := by decide +kernel
theorem dX8_mostAtOnce_32 : decode cX8_mostAtOnce 32 = .ok (.iload_n 2, 1) := by decide +kernel
theorem dX8_mostAtOnce_33 : decode cX8_mostAtOnce 33 = .ok (.if_icmp .gt 18, 3) := by decide +kernel
theorem dX8_mostAtOnce_36 : decode cX8_mostAtOnce 36 = .ok (.aload_n 0, 1) := by decide +kernel
theorem dX8_mostAtOnce_37 : decode cX8_mostAtOnce 37 = .ok (.getfield 32, 3) := by decide +kernel
theorem dX8_mostAtOnce_40 : decode cX8_mostAtOnce 40 = .ok (.iload 4, 2) := by decide +kernel
theorem dX8_mostAtOnce_42 : decode cX8_mostAtOnce 42 = .ok (.iaload, 1) := by decide +kernel
theorem dX8_mostAtOnce_43 : decode cX8_mostAtOnce 43 = .ok (.iload_n 2, 1) := by decide +kernel
theorem dX8_mostAtOnce_44 : decode cX8_mostAtOnce 44 = .ok (.if_icmp .le 7, 3) := by decide +kernel
theorem dX8_mostAtOnce_47 : decode cX8_mostAtOnce 47 = .ok (.iconst 1, 1) := by decide +kernel
theorem dX8_mostAtOnce_48 : decode cX8_mostAtOnce 48 = .ok (.goto 4, 3) := by decide +kernel
theorem dX8_mostAtOnce_51 : decode cX8_mostAtOnce 51 = .ok (.iconst 0, 1) := by decide +kernel
theorem dX8_mostAtOnce_52 : decode cX8_mostAtOnce 52 = .ok (.iadd, 1) := by decide +kernel
theorem dX8_mostAtOnce_53 : decode cX8_mostAtOnce 53 = .ok (.istore_n 3, 1) := by decide +kernel
theorem dX8_mostAtOnce_54 : decode cX8_mostAtOnce 54 = .ok (.iinc 4 1, 3) := by decide +kernel
theorem dX8_mostAtOnce_57 : decode cX8_mostAtOnce 57 = .ok (.goto (-41), 3) := by decide +kernel
theorem dX8_mostAtOnce_60 : decode cX8_mostAtOnce 60 = .ok (.iload_n 3, 1) := by decide +kernel
theorem dX8_mostAtOnce_61 : decode cX8_mostAtOnce 61 = .ok (.iload_n 1, 1) := by decide +kernel
theorem dX8_mostAtOnce_62 : decode cX8_mostAtOnce 62 = .ok (.if_icmp .le 7, 3) := by decide +kernel
theorem dX8_mostAtOnce_65 : decode cX8_mostAtOnce 65 = .ok (.iload_n 3, 1) := by decide +kernel
theorem dX8_mostAtOnce_66 : decode cX8_mostAtOnce 66 = .ok (.goto 4, 3) := by decide +kernel
theorem dX8_mostAtOnce_69 : decode cX8_mostAtOnce 69 = .ok (.iload_n 1, 1) := by decide +kernel
theorem dX8_mostAtOnce_70 : decode cX8_mostAtOnce 70 = .ok (.istore_n 1, 1) := by decide +kernel
theorem dX8_mostAtOnce_71 : decode cX8_mostAtOnce 71 = .ok (.iinc 2 1, 3) := by decide +kernel
theorem dX8_mostAtOnce_74 : decode cX8_mostAtOnce 74 = .ok (.goto (-70), 3) := by decide +kernel
theorem dX8_mostAtOnce_77 : decode cX8_mostAtOnce 77 = .ok (.iload_n 1, 1) := by decide +kernel
theorem dX8_mostAtOnce_78 : decode cX8_mostAtOnce 78 = .ok (.ireturn, 1) := by decide +kernel
set_option maxRecDepth 20000 in
theorem ggX8_hands_X8_in : GoodIn wsX8_hands wsX8_in := goodIn_r _ [5] (by decide +kernel) (by decide +kernel)
set_option maxRecDepth 20000 in
theorem gX8_hands_X8_in : GoodIn wsX8_hands (va_wsS RX8 44 yX8_in wsX8_in) := goodIn_app (goodIn_of _ (by decide +kernel)) ggX8_hands_X8_in
set_option maxRecDepth 20000 in
theorem ggX8_hands_X8_layHands : GoodIn wsX8_hands wsX8_layHands := goodIn_r _ [9, 1, 10, 11, 12, 13, 14, 4, 15, 16, 17, 18, 19, 20, 21, 22, 23, 24, 25, 26, 27, 28, 29, 30, 31, 32, 33, 34, 35, 36, 37, 38, 39, 40, 41, 42, 43, 44, 45, 46, 47, 48, 49, 50, 51, 52, 53, 54, 55, 56, 57, 58, 59, 60, 61, 62, 63, 64, 65, 66, 67, 68, 69, 74, 75, 76, 77, 78, 79, 80, 81, 82, 83, 84, 85, 86] (by decide +kernel) (by decide +kernel)
set_option maxRecDepth 20000 in
theorem gX8_hands_X8_layHands : GoodIn wsX8_hands (wsV RX8 133 RX8 yX8_layHands wsX8_layHands) := goodIn_app (goodIn_of _ (by decide +kernel)) ggX8_hands_X8_layHands
set_option maxRecDepth 20000 in
theorem ggX8_hands_X8_mostAtOnce : GoodIn wsX8_hands wsX8_mostAtOnce := goodIn_r _ [73, 1, 18, 66, 67, 68, 4, 69, 16, 17, 74, 75, 76, 77, 78, 79, 80, 81, 82, 83, 84, 85, 86] (by decide +kernel) (by decide +kernel)
set_option maxRecDepth 20000 in
theorem gX8_hands_X8_mostAtOnce : GoodIn wsX8_hands (wsV RX8 149 RX8 yX8_mostAtOnce wsX8_mostAtOnce) := goodIn_app (goodIn_of _ (by decide +kernel)) ggX8_hands_X8_mostAtOnce
theorem dX8_hands_0 : decode cX8_hands 0 = .ok (.iload_n 1, 1) := by decide +kernel
theorem dX8_hands_1 : decode cX8_hands 1 = .ok (.iconst 0, 1) := by decide +kernel
theorem dX8_hands_2 : decode cX8_hands 2 = .ok (.iconst 2, 1) := by decide +kernel
theorem dX8_hands_3 : decode cX8_hands 3 = .ok (.invokestatic 44, 3) := by decide +kernel
theorem dX8_hands_6 : decode cX8_hands 6 = .ok (.ifCond .ne 6, 3) := by decide +kernel
theorem dX8_hands_9 : decode cX8_hands 9 = .ok (.bipush (-2), 2) := by decide +kernel
theorem dX8_hands_11 : decode cX8_hands 11 = .ok (.ireturn, 1) := by decide +kernel
theorem dX8_hands_12 : decode cX8_hands 12 = .ok (.aload_n 0, 1) := by decide +kernel
theorem dX8_hands_13 : decode cX8_hands 13 = .ok (.invokevirtual 133, 3) := by decide +kernel
theorem dX8_hands_16 : decode cX8_hands 16 = .ok (.istore_n 2, 1) := by decide +kernel
theorem dX8_hands_17 : decode cX8_hands 17 = .ok (.iload_n 1, 1) := by decide +kernel
theorem dX8_hands_18 : decode cX8_hands 18 = .ok (.ifCond .ne 7, 3) := by decide +kernel
theorem dX8_hands_21 : decode cX8_hands 21 = .ok (.iload_n 2, 1) := by decide +kernel
theorem dX8_hands_22 : decode cX8_hands 22 = .ok (.goto 19, 3) := by decide +kernel
theorem dX8_hands_25 : decode cX8_hands 25 = .ok (.iload_n 1, 1) := by decide +kernel
theorem dX8_hands_26 : decode cX8_hands 26 = .ok (.iconst 1, 1) := by decide +kernel
theorem dX8_hands_27 : decode cX8_hands 27 = .ok (.if_icmp .ne 10, 3) := by decide +kernel
theorem dX8_hands_30 : decode cX8_hands 30 = .ok (.aload_n 0, 1) := by decide +kernel
theorem dX8_hands_31 : decode cX8_hands 31 = .ok (.getfield 121, 3) := by decide +kernel
theorem dX8_hands_34 : decode cX8_hands 34 = .ok (.goto 7, 3) := by decide +kernel
theorem dX8_hands_37 : decode cX8_hands 37 = .ok (.aload_n 0, 1) := by decide +kernel
theorem dX8_hands_38 : decode cX8_hands 38 = .ok (.invokevirtual 149, 3) := by decide +kernel
theorem dX8_hands_41 : decode cX8_hands 41 = .ok (.ireturn, 1) := by decide +kernel
set_option maxRecDepth 20000 in
theorem ggX8_crew_X8_in : GoodIn wsX8_crew wsX8_in := goodIn_r _ [7] (by decide +kernel) (by decide +kernel)
set_option maxRecDepth 20000 in
theorem gX8_crew_X8_in : GoodIn wsX8_crew (va_wsS RX8 44 yX8_in wsX8_in) := goodIn_app (goodIn_of _ (by decide +kernel)) ggX8_crew_X8_in
set_option maxRecDepth 20000 in
theorem ggX8_crew_X8_layCrew : GoodIn wsX8_crew wsX8_layCrew := goodIn_r _ [11, 1, 2, 12, 13, 14, 6, 15, 16, 17, 18, 19, 20, 21, 22, 3, 23, 24, 25, 26, 27, 28, 29, 30, 31, 32, 33, 34, 35, 36, 37, 38, 39, 40, 41, 42, 43, 44, 45, 46, 47, 48, 49, 50, 51, 52, 53, 54, 55, 56, 57, 58, 59, 60, 61, 62, 63, 64, 65, 66, 67, 68, 69, 70, 71, 72, 73, 74, 75, 76, 77, 78, 79, 80, 81, 82, 83, 84, 85, 86, 87, 88, 89, 90, 91] (by decide +kernel) (by decide +kernel)
set_option maxRecDepth 20000 in
theorem gX8_crew_X8_layCrew : GoodIn wsX8_crew (wsV RX8 140 RX8 yX8_layCrew wsX8_layCrew) := goodIn_app (goodIn_of _ (by decide +kernel)) ggX8_crew_X8_layCrew
set_option maxRecDepth 20000 in
theorem ggX8_crew_X8_begin : GoodIn wsX8_crew wsX8_begin := goodIn_r _ [74, 22, 3, 79, 80, 81, 82, 83, 84, 85, 86, 87, 88, 89, 90, 91] (by decide +kernel) (by decide +kernel)
set_option maxRecDepth 20000 in
theorem gX8_crew_X8_begin : GoodIn wsX8_crew (wsV RX8 118 RX8 yX8_begin wsX8_begin) := goodIn_app (goodIn_of _ (by decide +kernel)) ggX8_crew_X8_begin
theorem dX8_crew_0 : decode cX8_crew 0 = .ok (.iload_n 1, 1) := by decide +kernel
theorem dX8_crew_1 : decode cX8_crew 1 = .ok (.iconst 0, 1) := by decide +kernel
theorem dX8_crew_2 : decode cX8_crew 2 = .ok (.bipush 9, 2) := by decide +kernel
theorem dX8_crew_4 : decode cX8_crew 4 = .ok (.invokestatic 44, 3) := by decide +kernel
theorem dX8_crew_7 : decode cX8_crew 7 = .ok (.ifCond .ne 6, 3) := by decide +kernel
theorem dX8_crew_10 : decode cX8_crew 10 = .ok (.bipush (-2), 2) := by decide +kernel
theorem dX8_crew_12 : decode cX8_crew 12 = .ok (.ireturn, 1) := by decide +kernel
theorem dX8_crew_13 : decode cX8_crew 13 = .ok (.aload_n 0, 1) := by decide +kernel
theorem dX8_crew_14 : decode cX8_crew 14 = .ok (.invokevirtual 140, 3) := by decide +kernel
theorem dX8_crew_17 : decode cX8_crew 17 = .ok (.iconst 0, 1) := by decide +kernel
theorem dX8_crew_18 : decode cX8_crew 18 = .ok (.istore_n 3, 1) := by decide +kernel
theorem dX8_crew_19 : decode cX8_crew 19 = .ok (.iconst 0, 1) := by decide +kernel
theorem dX8_crew_20 : decode cX8_crew 20 = .ok (.istore 4, 2) := by decide +kernel
theorem dX8_crew_22 : decode cX8_crew 22 = .ok (.iload 4, 2) := by decide +kernel
theorem dX8_crew_24 : decode cX8_crew 24 = .ok (.sipush 200, 3) := by decide +kernel
theorem dX8_crew_27 : decode cX8_crew 27 = .ok (.if_icmp .gt 65, 3) := by decide +kernel
theorem dX8_crew_30 : decode cX8_crew 30 = .ok (.iconst 0, 1) := by decide +kernel
theorem dX8_crew_31 : decode cX8_crew 31 = .ok (.istore 5, 2) := by decide +kernel
theorem dX8_crew_33 : decode cX8_crew 33 = .ok (.iload 5, 2) := by decide +kernel
theorem dX8_crew_35 : decode cX8_crew 35 = .ok (.aload_n 0, 1) := by decide +kernel
theorem dX8_crew_36 : decode cX8_crew 36 = .ok (.getfield 121, 3) := by decide +kernel
theorem dX8_crew_39 : decode cX8_crew 39 = .ok (.if_icmp .ge 47, 3) := by decide +kernel
theorem dX8_crew_42 : decode cX8_crew 42 = .ok (.aload_n 0, 1) := by decide +kernel
theorem dX8_crew_43 : decode cX8_crew 43 = .ok (.getfield 41, 3) := by decide +kernel
theorem dX8_crew_46 : decode cX8_crew 46 = .ok (.iload 5, 2) := by decide +kernel
theorem dX8_crew_48 : decode cX8_crew 48 = .ok (.iaload, 1) := by decide +kernel
theorem dX8_crew_49 : decode cX8_crew 49 = .ok (.iload_n 1, 1) := by decide +kernel
theorem dX8_crew_50 : decode cX8_crew 50 = .ok (.if_icmp .ne 30, 3) := by decide +kernel
theorem dX8_crew_53 : decode cX8_crew 53 = .ok (.aload_n 0, 1) := by decide +kernel
theorem dX8_crew_54 : decode cX8_crew 54 = .ok (.iload 5, 2) := by decide +kernel
theorem dX8_crew_56 : decode cX8_crew 56 = .ok (.invokevirtual 118, 3) := by decide +kernel
theorem dX8_crew_59 : decode cX8_crew 59 = .ok (.iload 4, 2) := by decide +kernel
theorem dX8_crew_61 : decode cX8_crew 61 = .ok (.if_icmp .ne 19, 3) := by decide +kernel
theorem dX8_crew_64 : decode cX8_crew 64 = .ok (.iload_n 3, 1) := by decide +kernel
theorem dX8_crew_65 : decode cX8_crew 65 = .ok (.iload_n 2, 1) := by decide +kernel
theorem dX8_crew_66 : decode cX8_crew 66 = .ok (.if_icmp .ne 11, 3) := by decide +kernel
theorem dX8_crew_69 : decode cX8_crew 69 = .ok (.aload_n 0, 1) := by decide +kernel
theorem dX8_crew_70 : decode cX8_crew 70 = .ok (.getfield 29, 3) := by decide +kernel
theorem dX8_crew_73 : decode cX8_crew 73 = .ok (.iload 5, 2) := by decide +kernel
theorem dX8_crew_75 : decode cX8_crew 75 = .ok (.iaload, 1) := by decide +kernel
theorem dX8_crew_76 : decode cX8_crew 76 = .ok (.ireturn, 1) := by decide +kernel
theorem dX8_crew_77 : decode cX8_crew 77 = .ok (.iinc 3 1, 3) := by decide +kernel
theorem dX8_crew_80 : decode cX8_crew 80 = .ok (.iinc 5 1, 3) := by decide +kernel
theorem dX8_crew_83 : decode cX8_crew 83 = .ok (.goto (-50), 3) := by decide +kernel
theorem dX8_crew_86 : decode cX8_crew 86 = .ok (.iinc 4 1, 3) := by decide +kernel
theorem dX8_crew_89 : decode cX8_crew 89 = .ok (.goto (-67), 3) := by decide +kernel
theorem dX8_crew_92 : decode cX8_crew 92 = .ok (.bipush (-6), 2) := by decide +kernel
theorem dX8_crew_94 : decode cX8_crew 94 = .ok (.ireturn, 1) := by decide +kernel
set_option maxRecDepth 20000 in
theorem ggX8_image_X8_in : GoodIn wsX8_image wsX8_in := goodIn_r _ [7] (by decide +kernel) (by decide +kernel)
set_option maxRecDepth 20000 in
theorem gX8_image_X8_in : GoodIn wsX8_image (va_wsS RX8 44 yX8_in wsX8_in) := goodIn_app (goodIn_of _ (by decide +kernel)) ggX8_image_X8_in
theorem dX8_image_0 : decode cX8_image 0 = .ok (.iload_n 1, 1) := by decide +kernel
theorem dX8_image_1 : decode cX8_image 1 = .ok (.iconst 0, 1) := by decide +kernel
theorem dX8_image_2 : decode cX8_image 2 = .ok (.iconst 1, 1) := by decide +kernel
theorem dX8_image_3 : decode cX8_image 3 = .ok (.invokestatic 44, 3) := by decide +kernel
theorem dX8_image_6 : decode cX8_image 6 = .ok (.ifCond .ne 6, 3) := by decide +kernel
theorem dX8_image_9 : decode cX8_image 9 = .ok (.bipush (-2), 2) := by decide +kernel
theorem dX8_image_11 : decode cX8_image 11 = .ok (.ireturn, 1) := by decide +kernel
theorem dX8_image_12 : decode cX8_image 12 = .ok (.iconst 0, 1) := by decide +kernel
theorem dX8_image_13 : decode cX8_image 13 = .ok (.istore_n 2, 1) := by decide +kernel
theorem dX8_image_14 : decode cX8_image 14 = .ok (.iload_n 2, 1) := by decide +kernel
theorem dX8_image_15 : decode cX8_image 15 = .ok (.sipush 212, 3) := by decide +kernel
theorem dX8_image_18 : decode cX8_image 18 = .ok (.if_icmp .ge 27, 3) := by decide +kernel
theorem dX8_image_21 : decode cX8_image 21 = .ok (.aload_n 0, 1) := by decide +kernel
theorem dX8_image_22 : decode cX8_image 22 = .ok (.getfield 13, 3) := by decide +kernel
theorem dX8_image_25 : decode cX8_image 25 = .ok (.sipush 212, 3) := by decide +kernel
theorem dX8_image_28 : decode cX8_image 28 = .ok (.iload_n 1, 1) := by decide +kernel
theorem dX8_image_29 : decode cX8_image 29 = .ok (.imul, 1) := by decide +kernel
theorem dX8_image_30 : decode cX8_image 30 = .ok (.iload_n 2, 1) := by decide +kernel
theorem dX8_image_31 : decode cX8_image 31 = .ok (.iadd, 1) := by decide +kernel
theorem dX8_image_32 : decode cX8_image 32 = .ok (.aload_n 0, 1) := by decide +kernel
theorem dX8_image_33 : decode cX8_image 33 = .ok (.getfield 7, 3) := by decide +kernel
theorem dX8_image_36 : decode cX8_image 36 = .ok (.iload_n 2, 1) := by decide +kernel
theorem dX8_image_37 : decode cX8_image 37 = .ok (.iaload, 1) := by decide +kernel
theorem dX8_image_38 : decode cX8_image 38 = .ok (.iastore, 1) := by decide +kernel
theorem dX8_image_39 : decode cX8_image 39 = .ok (.iinc 2 1, 3) := by decide +kernel
theorem dX8_image_42 : decode cX8_image 42 = .ok (.goto (-28), 3) := by decide +kernel
theorem dX8_image_45 : decode cX8_image 45 = .ok (.aload_n 0, 1) := by decide +kernel
theorem dX8_image_46 : decode cX8_image 46 = .ok (.getfield 16, 3) := by decide +kernel
theorem dX8_image_49 : decode cX8_image 49 = .ok (.iload_n 1, 1) := by decide +kernel
theorem dX8_image_50 : decode cX8_image 50 = .ok (.iconst 1, 1) := by decide +kernel
theorem dX8_image_51 : decode cX8_image 51 = .ok (.bastore, 1) := by decide +kernel
theorem dX8_image_52 : decode cX8_image 52 = .ok (.iconst 1, 1) := by decide +kernel
theorem dX8_image_53 : decode cX8_image 53 = .ok (.ireturn, 1) := by decide +kernel
set_option maxRecDepth 20000 in
theorem ggX8_restore_X8_in : GoodIn wsX8_restore wsX8_in := goodIn_r _ [7] (by decide +kernel) (by decide +kernel)
set_option maxRecDepth 20000 in
theorem gX8_restore_X8_in : GoodIn wsX8_restore (va_wsS RX8 44 yX8_in wsX8_in) := goodIn_app (goodIn_of _ (by decide +kernel)) ggX8_restore_X8_in
theorem dX8_restore_0 : decode cX8_restore 0 = .ok (.iload_n 1, 1) := by decide +kernel
theorem dX8_restore_1 : decode cX8_restore 1 = .ok (.iconst 0, 1) := by decide +kernel
theorem dX8_restore_2 : decode cX8_restore 2 = .ok (.iconst 1, 1) := by decide +kernel
theorem dX8_restore_3 : decode cX8_restore 3 = .ok (.invokestatic 44, 3) := by decide +kernel
theorem dX8_restore_6 : decode cX8_restore 6 = .ok (.ifCond .ne 6, 3) := by decide +kernel
theorem dX8_restore_9 : decode cX8_restore 9 = .ok (.bipush (-2), 2) := by decide +kernel
theorem dX8_restore_11 : decode cX8_restore 11 = .ok (.ireturn, 1) := by decide +kernel
theorem dX8_restore_12 : decode cX8_restore 12 = .ok (.aload_n 0, 1) := by decide +kernel
theorem dX8_restore_13 : decode cX8_restore 13 = .ok (.getfield 16, 3) := by decide +kernel
theorem dX8_restore_16 : decode cX8_restore 16 = .ok (.iload_n 1, 1) := by decide +kernel
theorem dX8_restore_17 : decode cX8_restore 17 = .ok (.baload, 1) := by decide +kernel
theorem dX8_restore_18 : decode cX8_restore 18 = .ok (.ifCond .ne 6, 3) := by decide +kernel
theorem dX8_restore_21 : decode cX8_restore 21 = .ok (.bipush (-3), 2) := by decide +kernel
theorem dX8_restore_23 : decode cX8_restore 23 = .ok (.ireturn, 1) := by decide +kernel
theorem dX8_restore_24 : decode cX8_restore 24 = .ok (.iconst 0, 1) := by decide +kernel
theorem dX8_restore_25 : decode cX8_restore 25 = .ok (.istore_n 2, 1) := by decide +kernel
theorem dX8_restore_26 : decode cX8_restore 26 = .ok (.iload_n 2, 1) := by decide +kernel
theorem dX8_restore_27 : decode cX8_restore 27 = .ok (.sipush 212, 3) := by decide +kernel
theorem dX8_restore_30 : decode cX8_restore 30 = .ok (.if_icmp .ge 27, 3) := by decide +kernel
theorem dX8_restore_33 : decode cX8_restore 33 = .ok (.aload_n 0, 1) := by decide +kernel
theorem dX8_restore_34 : decode cX8_restore 34 = .ok (.getfield 7, 3) := by decide +kernel
theorem dX8_restore_37 : decode cX8_restore 37 = .ok (.iload_n 2, 1) := by decide +kernel
theorem dX8_restore_38 : decode cX8_restore 38 = .ok (.aload_n 0, 1) := by decide +kernel
theorem dX8_restore_39 : decode cX8_restore 39 = .ok (.getfield 13, 3) := by decide +kernel
theorem dX8_restore_42 : decode cX8_restore 42 = .ok (.sipush 212, 3) := by decide +kernel
theorem dX8_restore_45 : decode cX8_restore 45 = .ok (.iload_n 1, 1) := by decide +kernel
theorem dX8_restore_46 : decode cX8_restore 46 = .ok (.imul, 1) := by decide +kernel
theorem dX8_restore_47 : decode cX8_restore 47 = .ok (.iload_n 2, 1) := by decide +kernel
theorem dX8_restore_48 : decode cX8_restore 48 = .ok (.iadd, 1) := by decide +kernel
theorem dX8_restore_49 : decode cX8_restore 49 = .ok (.iaload, 1) := by decide +kernel
theorem dX8_restore_50 : decode cX8_restore 50 = .ok (.iastore, 1) := by decide +kernel
theorem dX8_restore_51 : decode cX8_restore 51 = .ok (.iinc 2 1, 3) := by decide +kernel
theorem dX8_restore_54 : decode cX8_restore 54 = .ok (.goto (-28), 3) := by decide +kernel
theorem dX8_restore_57 : decode cX8_restore 57 = .ok (.iconst 1, 1) := by decide +kernel
theorem dX8_restore_58 : decode cX8_restore 58 = .ok (.ireturn, 1) := by decide +kernel
set_option maxRecDepth 20000 in
theorem ggX8_evenBars_X8_isEven : GoodIn wsX8_evenBars wsX8_isEven := goodIn_r _ [5, 6, 7, 8, 9, 4, 10, 11, 12, 13, 14, 15, 16, 17, 18, 19, 20, 21, 22, 23, 24, 25, 26, 27, 28, 29, 30, 31, 32, 33, 34] (by decide +kernel) (by decide +kernel)
set_option maxRecDepth 20000 in
theorem gX8_evenBars_X8_isEven : GoodIn wsX8_evenBars (wsV RX8 70 RX8 yX8_isEven wsX8_isEven) := goodIn_app (goodIn_of _ (by decide +kernel)) ggX8_evenBars_X8_isEven
theorem dX8_evenBars_0 : decode cX8_evenBars 0 = .ok (.iconst 0, 1) := by decide +kernel
theorem dX8_evenBars_1 : decode cX8_evenBars 1 = .ok (.istore_n 1, 1) := by decide +kernel
theorem dX8_evenBars_2 : decode cX8_evenBars 2 = .ok (.iconst 0, 1) := by decide +kernel
theorem dX8_evenBars_3 : decode cX8_evenBars 3 = .ok (.istore_n 2, 1) := by decide +kernel
theorem dX8_evenBars_4 : decode cX8_evenBars 4 = .ok (.iload_n 2, 1) := by decide +kernel
theorem dX8_evenBars_5 : decode cX8_evenBars 5 = .ok (.bipush 10, 2) := by decide +kernel
theorem dX8_evenBars_7 : decode cX8_evenBars 7 = .ok (.if_icmp .ge 25, 3) := by decide +kernel
theorem dX8_evenBars_10 : decode cX8_evenBars 10 = .ok (.iload_n 1, 1) := by decide +kernel
theorem dX8_evenBars_11 : decode cX8_evenBars 11 = .ok (.aload_n 0, 1) := by decide +kernel
theorem dX8_evenBars_12 : decode cX8_evenBars 12 = .ok (.iload_n 2, 1) := by decide +kernel
theorem dX8_evenBars_13 : decode cX8_evenBars 13 = .ok (.invokevirtual 70, 3) := by decide +kernel
theorem dX8_evenBars_16 : decode cX8_evenBars 16 = .ok (.ifCond .eq 7, 3) := by decide +kernel
theorem dX8_evenBars_19 : decode cX8_evenBars 19 = .ok (.iconst 1, 1) := by decide +kernel
theorem dX8_evenBars_20 : decode cX8_evenBars 20 = .ok (.goto 4, 3) := by decide +kernel
theorem dX8_evenBars_23 : decode cX8_evenBars 23 = .ok (.iconst 0, 1) := by decide +kernel
theorem dX8_evenBars_24 : decode cX8_evenBars 24 = .ok (.iadd, 1) := by decide +kernel
theorem dX8_evenBars_25 : decode cX8_evenBars 25 = .ok (.istore_n 1, 1) := by decide +kernel
theorem dX8_evenBars_26 : decode cX8_evenBars 26 = .ok (.iinc 2 1, 3) := by decide +kernel
theorem dX8_evenBars_29 : decode cX8_evenBars 29 = .ok (.goto (-25), 3) := by decide +kernel
theorem dX8_evenBars_32 : decode cX8_evenBars 32 = .ok (.iload_n 1, 1) := by decide +kernel
theorem dX8_evenBars_33 : decode cX8_evenBars 33 = .ok (.ireturn, 1) := by decide +kernel
set_option maxRecDepth 20000 in
theorem ggX8_nearPairs_X8_areNear : GoodIn wsX8_nearPairs wsX8_areNear := goodIn_r _ [5, 6, 7, 8, 4, 9, 10, 11, 12, 13, 14, 15, 16, 17, 18, 19, 20, 21, 22] (by decide +kernel) (by decide +kernel)
set_option maxRecDepth 20000 in
theorem gX8_nearPairs_X8_areNear : GoodIn wsX8_nearPairs (wsV RX8 109 RX8 yX8_areNear wsX8_areNear) := goodIn_app (goodIn_of _ (by decide +kernel)) ggX8_nearPairs_X8_areNear
theorem dX8_nearPairs_0 : decode cX8_nearPairs 0 = .ok (.iconst 0, 1) := by decide +kernel
theorem dX8_nearPairs_1 : decode cX8_nearPairs 1 = .ok (.istore_n 1, 1) := by decide +kernel
theorem dX8_nearPairs_2 : decode cX8_nearPairs 2 = .ok (.iconst 0, 1) := by decide +kernel
theorem dX8_nearPairs_3 : decode cX8_nearPairs 3 = .ok (.istore_n 2, 1) := by decide +kernel
theorem dX8_nearPairs_4 : decode cX8_nearPairs 4 = .ok (.iload_n 2, 1) := by decide +kernel
theorem dX8_nearPairs_5 : decode cX8_nearPairs 5 = .ok (.bipush 10, 2) := by decide +kernel
theorem dX8_nearPairs_7 : decode cX8_nearPairs 7 = .ok (.if_icmp .ge 42, 3) := by decide +kernel
theorem dX8_nearPairs_10 : decode cX8_nearPairs 10 = .ok (.iload_n 2, 1) := by decide +kernel
theorem dX8_nearPairs_11 : decode cX8_nearPairs 11 = .ok (.iconst 1, 1) := by decide +kernel
theorem dX8_nearPairs_12 : decode cX8_nearPairs 12 = .ok (.iadd, 1) := by decide +kernel
theorem dX8_nearPairs_13 : decode cX8_nearPairs 13 = .ok (.istore_n 3, 1) := by decide +kernel
theorem dX8_nearPairs_14 : decode cX8_nearPairs 14 = .ok (.iload_n 3, 1) := by decide +kernel
theorem dX8_nearPairs_15 : decode cX8_nearPairs 15 = .ok (.bipush 10, 2) := by decide +kernel
theorem dX8_nearPairs_17 : decode cX8_nearPairs 17 = .ok (.if_icmp .ge 26, 3) := by decide +kernel
theorem dX8_nearPairs_20 : decode cX8_nearPairs 20 = .ok (.iload_n 1, 1) := by decide +kernel
theorem dX8_nearPairs_21 : decode cX8_nearPairs 21 = .ok (.aload_n 0, 1) := by decide +kernel
theorem dX8_nearPairs_22 : decode cX8_nearPairs 22 = .ok (.iload_n 2, 1) := by decide +kernel
theorem dX8_nearPairs_23 : decode cX8_nearPairs 23 = .ok (.iload_n 3, 1) := by decide +kernel
theorem dX8_nearPairs_24 : decode cX8_nearPairs 24 = .ok (.invokevirtual 109, 3) := by decide +kernel
theorem dX8_nearPairs_27 : decode cX8_nearPairs 27 = .ok (.ifCond .eq 7, 3) := by decide +kernel
theorem dX8_nearPairs_30 : decode cX8_nearPairs 30 = .ok (.iconst 1, 1) := by decide +kernel
theorem dX8_nearPairs_31 : decode cX8_nearPairs 31 = .ok (.goto 4, 3) := by decide +kernel
theorem dX8_nearPairs_34 : decode cX8_nearPairs 34 = .ok (.iconst 0, 1) := by decide +kernel
theorem dX8_nearPairs_35 : decode cX8_nearPairs 35 = .ok (.iadd, 1) := by decide +kernel
theorem dX8_nearPairs_36 : decode cX8_nearPairs 36 = .ok (.istore_n 1, 1) := by decide +kernel
theorem dX8_nearPairs_37 : decode cX8_nearPairs 37 = .ok (.iinc 3 1, 3) := by decide +kernel
theorem dX8_nearPairs_40 : decode cX8_nearPairs 40 = .ok (.goto (-26), 3) := by decide +kernel
theorem dX8_nearPairs_43 : decode cX8_nearPairs 43 = .ok (.iinc 2 1, 3) := by decide +kernel
theorem dX8_nearPairs_46 : decode cX8_nearPairs 46 = .ok (.goto (-42), 3) := by decide +kernel
theorem dX8_nearPairs_49 : decode cX8_nearPairs 49 = .ok (.iload_n 1, 1) := by decide +kernel
theorem dX8_nearPairs_50 : decode cX8_nearPairs 50 = .ok (.ireturn, 1) := by decide +kernel
set_option maxRecDepth 20000 in
theorem ggX8_lastEnd_X8_endOf : GoodIn wsX8_lastEnd wsX8_endOf := goodIn_r _ [6, 1, 7, 8, 9, 10, 5, 11, 12, 13, 14, 15, 16, 17, 18, 19, 20, 21, 22, 23, 24, 25, 26, 27, 28, 29, 30, 31, 32, 33, 34, 35] (by decide +kernel) (by decide +kernel)
set_option maxRecDepth 20000 in
theorem gX8_lastEnd_X8_endOf : GoodIn wsX8_lastEnd (wsV RX8 106 RX8 yX8_endOf wsX8_endOf) := goodIn_app (goodIn_of _ (by decide +kernel)) ggX8_lastEnd_X8_endOf
theorem dX8_lastEnd_0 : decode cX8_lastEnd 0 = .ok (.bipush (-6), 2) := by decide +kernel
theorem dX8_lastEnd_2 : decode cX8_lastEnd 2 = .ok (.istore_n 1, 1) := by decide +kernel
theorem dX8_lastEnd_3 : decode cX8_lastEnd 3 = .ok (.iconst 0, 1) := by decide +kernel
theorem dX8_lastEnd_4 : decode cX8_lastEnd 4 = .ok (.istore_n 2, 1) := by decide +kernel
theorem dX8_lastEnd_5 : decode cX8_lastEnd 5 = .ok (.iload_n 2, 1) := by decide +kernel
theorem dX8_lastEnd_6 : decode cX8_lastEnd 6 = .ok (.aload_n 0, 1) := by decide +kernel
theorem dX8_lastEnd_7 : decode cX8_lastEnd 7 = .ok (.getfield 7, 3) := by decide +kernel
theorem dX8_lastEnd_10 : decode cX8_lastEnd 10 = .ok (.sipush 211, 3) := by decide +kernel
theorem dX8_lastEnd_13 : decode cX8_lastEnd 13 = .ok (.iaload, 1) := by decide +kernel
theorem dX8_lastEnd_14 : decode cX8_lastEnd 14 = .ok (.if_icmp .ge 26, 3) := by decide +kernel
theorem dX8_lastEnd_17 : decode cX8_lastEnd 17 = .ok (.aload_n 0, 1) := by decide +kernel
theorem dX8_lastEnd_18 : decode cX8_lastEnd 18 = .ok (.iload_n 2, 1) := by decide +kernel
theorem dX8_lastEnd_19 : decode cX8_lastEnd 19 = .ok (.invokevirtual 106, 3) := by decide +kernel
theorem dX8_lastEnd_22 : decode cX8_lastEnd 22 = .ok (.istore_n 3, 1) := by decide +kernel
theorem dX8_lastEnd_23 : decode cX8_lastEnd 23 = .ok (.iload_n 3, 1) := by decide +kernel
theorem dX8_lastEnd_24 : decode cX8_lastEnd 24 = .ok (.iload_n 1, 1) := by decide +kernel
theorem dX8_lastEnd_25 : decode cX8_lastEnd 25 = .ok (.if_icmp .le 7, 3) := by decide +kernel
theorem dX8_lastEnd_28 : decode cX8_lastEnd 28 = .ok (.iload_n 3, 1) := by decide +kernel
theorem dX8_lastEnd_29 : decode cX8_lastEnd 29 = .ok (.goto 4, 3) := by decide +kernel
theorem dX8_lastEnd_32 : decode cX8_lastEnd 32 = .ok (.iload_n 1, 1) := by decide +kernel
theorem dX8_lastEnd_33 : decode cX8_lastEnd 33 = .ok (.istore_n 1, 1) := by decide +kernel
theorem dX8_lastEnd_34 : decode cX8_lastEnd 34 = .ok (.iinc 2 1, 3) := by decide +kernel
theorem dX8_lastEnd_37 : decode cX8_lastEnd 37 = .ok (.goto (-32), 3) := by decide +kernel
theorem dX8_lastEnd_40 : decode cX8_lastEnd 40 = .ok (.iload_n 1, 1) := by decide +kernel
theorem dX8_lastEnd_41 : decode cX8_lastEnd 41 = .ok (.ireturn, 1) := by decide +kernel
set_option maxRecDepth 20000 in
theorem ggX8_count_X8_evenBars : GoodIn wsX8_count wsX8_evenBars := goodIn_r _ [7, 8, 9, 10, 6, 11, 1, 12, 13, 14, 15, 16, 17, 18, 19, 20, 21, 22, 23, 24, 25, 26, 56, 57, 58, 59, 60, 61, 62, 63, 64, 65, 66, 67, 68] (by decide +kernel) (by decide +kernel)
set_option maxRecDepth 20000 in
theorem gX8_count_X8_evenBars : GoodIn wsX8_count (wsV RX8 152 RX8 yX8_evenBars wsX8_evenBars) := goodIn_app (goodIn_of _ (by decide +kernel)) ggX8_count_X8_evenBars
set_option maxRecDepth 20000 in
theorem ggX8_count_X8_nearPairs : GoodIn wsX8_count wsX8_nearPairs := goodIn_r _ [30, 31, 32, 33, 6, 34, 1, 24, 25, 26, 56, 57, 58, 59, 60, 61, 62, 63, 64, 65, 66, 67, 68] (by decide +kernel) (by decide +kernel)
set_option maxRecDepth 20000 in
theorem gX8_count_X8_nearPairs : GoodIn wsX8_count (wsV RX8 155 RX8 yX8_nearPairs wsX8_nearPairs) := goodIn_app (goodIn_of _ (by decide +kernel)) ggX8_count_X8_nearPairs
set_option maxRecDepth 20000 in
theorem ggX8_count_X8_lastEnd : GoodIn wsX8_count wsX8_lastEnd := goodIn_r _ [38, 1, 39, 40, 41, 6, 42, 43, 44, 45, 46, 47, 48, 49, 50, 51, 24, 25, 26, 52, 53, 54, 55, 56, 57, 58, 59, 60, 61, 62, 63, 64, 65, 66, 67, 68] (by decide +kernel) (by decide +kernel)
set_option maxRecDepth 20000 in
theorem gX8_count_X8_lastEnd : GoodIn wsX8_count (wsV RX8 158 RX8 yX8_lastEnd wsX8_lastEnd) := goodIn_app (goodIn_of _ (by decide +kernel)) ggX8_count_X8_lastEnd
theorem dX8_count_0 : decode cX8_count 0 = .ok (.iload_n 1, 1) := by decide +kernel
theorem dX8_count_1 : decode cX8_count 1 = .ok (.tableswitch 102 0 5 #[39, 48, 57, 62, 67, 72], 39) := by decide +kernel
theorem dX8_count_40 : decode cX8_count 40 = .ok (.aload_n 0, 1) := by decide +kernel
theorem dX8_count_41 : decode cX8_count 41 = .ok (.getfield 7, 3) := by decide +kernel
theorem dX8_count_44 : decode cX8_count 44 = .ok (.sipush 211, 3) := by decide +kernel
theorem dX8_count_47 : decode cX8_count 47 = .ok (.iaload, 1) := by decide +kernel
theorem dX8_count_48 : decode cX8_count 48 = .ok (.ireturn, 1) := by decide +kernel
theorem dX8_count_49 : decode cX8_count 49 = .ok (.aload_n 0, 1) := by decide +kernel
theorem dX8_count_50 : decode cX8_count 50 = .ok (.getfield 7, 3) := by decide +kernel
theorem dX8_count_53 : decode cX8_count 53 = .ok (.sipush 170, 3) := by decide +kernel
theorem dX8_count_56 : decode cX8_count 56 = .ok (.iaload, 1) := by decide +kernel
theorem dX8_count_57 : decode cX8_count 57 = .ok (.ireturn, 1) := by decide +kernel
theorem dX8_count_58 : decode cX8_count 58 = .ok (.aload_n 0, 1) := by decide +kernel
theorem dX8_count_59 : decode cX8_count 59 = .ok (.invokevirtual 152, 3) := by decide +kernel
theorem dX8_count_62 : decode cX8_count 62 = .ok (.ireturn, 1) := by decide +kernel
theorem dX8_count_63 : decode cX8_count 63 = .ok (.aload_n 0, 1) := by decide +kernel
theorem dX8_count_64 : decode cX8_count 64 = .ok (.invokevirtual 155, 3) := by decide +kernel
theorem dX8_count_67 : decode cX8_count 67 = .ok (.ireturn, 1) := by decide +kernel
theorem dX8_count_68 : decode cX8_count 68 = .ok (.aload_n 0, 1) := by decide +kernel
theorem dX8_count_69 : decode cX8_count 69 = .ok (.invokevirtual 158, 3) := by decide +kernel
theorem dX8_count_72 : decode cX8_count 72 = .ok (.ireturn, 1) := by decide +kernel
theorem dX8_count_73 : decode cX8_count 73 = .ok (.aload_n 0, 1) := by decide +kernel
theorem dX8_count_74 : decode cX8_count 74 = .ok (.getfield 16, 3) := by decide +kernel
theorem dX8_count_77 : decode cX8_count 77 = .ok (.iconst 0, 1) := by decide +kernel
theorem dX8_count_78 : decode cX8_count 78 = .ok (.baload, 1) := by decide +kernel
theorem dX8_count_79 : decode cX8_count 79 = .ok (.ifCond .eq 7, 3) := by decide +kernel
theorem dX8_count_82 : decode cX8_count 82 = .ok (.iconst 1, 1) := by decide +kernel
theorem dX8_count_83 : decode cX8_count 83 = .ok (.goto 4, 3) := by decide +kernel
theorem dX8_count_86 : decode cX8_count 86 = .ok (.iconst 0, 1) := by decide +kernel
theorem dX8_count_87 : decode cX8_count 87 = .ok (.aload_n 0, 1) := by decide +kernel
theorem dX8_count_88 : decode cX8_count 88 = .ok (.getfield 16, 3) := by decide +kernel
theorem dX8_count_91 : decode cX8_count 91 = .ok (.iconst 1, 1) := by decide +kernel
theorem dX8_count_92 : decode cX8_count 92 = .ok (.baload, 1) := by decide +kernel
theorem dX8_count_93 : decode cX8_count 93 = .ok (.ifCond .eq 7, 3) := by decide +kernel
theorem dX8_count_96 : decode cX8_count 96 = .ok (.iconst 2, 1) := by decide +kernel
theorem dX8_count_97 : decode cX8_count 97 = .ok (.goto 4, 3) := by decide +kernel
theorem dX8_count_100 : decode cX8_count 100 = .ok (.iconst 0, 1) := by decide +kernel
theorem dX8_count_101 : decode cX8_count 101 = .ok (.iadd, 1) := by decide +kernel
theorem dX8_count_102 : decode cX8_count 102 = .ok (.ireturn, 1) := by decide +kernel
theorem dX8_count_103 : decode cX8_count 103 = .ok (.bipush (-2), 2) := by decide +kernel
theorem dX8_count_105 : decode cX8_count 105 = .ok (.ireturn, 1) := by decide +kernel
theorem dJ9_abs_0f7a4_0 : decode cJ9_abs_0f7a4 0 = .ok (.iload_n 0, 1) := by decide +kernel
theorem dJ9_abs_0f7a4_1 : decode cJ9_abs_0f7a4 1 = .ok (.ifCond .ge 8, 3) := by decide +kernel
theorem dJ9_abs_0f7a4_4 : decode cJ9_abs_0f7a4 4 = .ok (.iload_n 0, 1) := by decide +kernel
theorem dJ9_abs_0f7a4_5 : decode cJ9_abs_0f7a4 5 = .ok (.ineg, 1) := by decide +kernel
theorem dJ9_abs_0f7a4_6 : decode cJ9_abs_0f7a4 6 = .ok (.goto 4, 3) := by decide +kernel
theorem dJ9_abs_0f7a4_9 : decode cJ9_abs_0f7a4 9 = .ok (.iload_n 0, 1) := by decide +kernel
theorem dJ9_abs_0f7a4_10 : decode cJ9_abs_0f7a4 10 = .ok (.ireturn, 1) := by decide +kernel
theorem dJ9_max_7cf53_0 : decode cJ9_max_7cf53 0 = .ok (.iload_n 0, 1) := by decide +kernel
theorem dJ9_max_7cf53_1 : decode cJ9_max_7cf53 1 = .ok (.iload_n 1, 1) := by decide +kernel
theorem dJ9_max_7cf53_2 : decode cJ9_max_7cf53 2 = .ok (.if_icmp .lt 7, 3) := by decide +kernel
theorem dJ9_max_7cf53_5 : decode cJ9_max_7cf53 5 = .ok (.iload_n 0, 1) := by decide +kernel
theorem dJ9_max_7cf53_6 : decode cJ9_max_7cf53 6 = .ok (.goto 4, 3) := by decide +kernel
theorem dJ9_max_7cf53_9 : decode cJ9_max_7cf53 9 = .ok (.iload_n 1, 1) := by decide +kernel
theorem dJ9_max_7cf53_10 : decode cJ9_max_7cf53 10 = .ok (.ireturn, 1) := by decide +kernel
theorem dJ9_min_7cf53_0 : decode cJ9_min_7cf53 0 = .ok (.iload_n 0, 1) := by decide +kernel
theorem dJ9_min_7cf53_1 : decode cJ9_min_7cf53 1 = .ok (.iload_n 1, 1) := by decide +kernel
theorem dJ9_min_7cf53_2 : decode cJ9_min_7cf53 2 = .ok (.if_icmp .gt 7, 3) := by decide +kernel
theorem dJ9_min_7cf53_5 : decode cJ9_min_7cf53 5 = .ok (.iload_n 0, 1) := by decide +kernel
theorem dJ9_min_7cf53_6 : decode cJ9_min_7cf53 6 = .ok (.goto 4, 3) := by decide +kernel
theorem dJ9_min_7cf53_9 : decode cJ9_min_7cf53 9 = .ok (.iload_n 1, 1) := by decide +kernel
theorem dJ9_min_7cf53_10 : decode cJ9_min_7cf53 10 = .ok (.ireturn, 1) := by decide +kernel
theorem dJ7_fill_53178_0 : decode cJ7_fill_53178 0 = .ok (.iconst 0, 1) := by decide +kernel
theorem dJ7_fill_53178_1 : decode cJ7_fill_53178 1 = .ok (.istore_n 2, 1) := by decide +kernel
theorem dJ7_fill_53178_2 : decode cJ7_fill_53178 2 = .ok (.aload_n 0, 1) := by decide +kernel
theorem dJ7_fill_53178_3 : decode cJ7_fill_53178 3 = .ok (.arraylength, 1) := by decide +kernel
theorem dJ7_fill_53178_4 : decode cJ7_fill_53178 4 = .ok (.istore_n 3, 1) := by decide +kernel
theorem dJ7_fill_53178_5 : decode cJ7_fill_53178 5 = .ok (.iload_n 2, 1) := by decide +kernel
theorem dJ7_fill_53178_6 : decode cJ7_fill_53178 6 = .ok (.iload_n 3, 1) := by decide +kernel
theorem dJ7_fill_53178_7 : decode cJ7_fill_53178 7 = .ok (.if_icmp .ge 13, 3) := by decide +kernel
theorem dJ7_fill_53178_10 : decode cJ7_fill_53178 10 = .ok (.aload_n 0, 1) := by decide +kernel
theorem dJ7_fill_53178_11 : decode cJ7_fill_53178 11 = .ok (.iload_n 2, 1) := by decide +kernel
theorem dJ7_fill_53178_12 : decode cJ7_fill_53178 12 = .ok (.iload_n 1, 1) := by decide +kernel
theorem dJ7_fill_53178_13 : decode cJ7_fill_53178 13 = .ok (.iastore, 1) := by decide +kernel
theorem dJ7_fill_53178_14 : decode cJ7_fill_53178 14 = .ok (.iinc 2 1, 3) := by decide +kernel
theorem dJ7_fill_53178_17 : decode cJ7_fill_53178 17 = .ok (.goto (-12), 3) := by decide +kernel
theorem dJ7_fill_53178_20 : decode cJ7_fill_53178 20 = .ok (.return_, 1) := by decide +kernel
set_option maxRecDepth 20000 in
theorem ggL_law_X7_init : GoodIn wsL_law wsX7_init := goodIn_r _ [8, 9, 10, 11, 12, 13, 14, 15, 16, 17, 18, 19, 20, 21, 22, 23, 24, 25, 26, 27, 28, 29, 30, 31, 32, 33, 34, 35, 36, 37, 38, 39, 40, 41, 42, 43, 44, 45, 46, 47, 48, 49, 50, 51, 52, 53, 54, 55, 56, 57, 58, 59, 60, 61, 62, 63, 64, 65, 66, 67, 68, 69, 70, 71, 72, 73, 74, 75, 76, 77, 78, 79, 80, 81, 82, 83, 84, 85, 86, 87, 88, 89, 675, 676, 677, 678, 656, 657, 658, 659, 660, 661, 679, 680, 681, 682, 683, 684, 685, 686, 687, 688, 689, 690, 691, 692, 693, 694, 695, 696, 697, 698, 699, 700] (by decide +kernel) (by decide +kernel)
set_option maxRecDepth 20000 in
theorem gL_law_X7_init : GoodIn wsL_law (wsX7_init) := ggL_law_X7_init
set_option maxRecDepth 20000 in
theorem ggL_law_X8_init : GoodIn wsL_law wsX8_init := goodIn_r _ [92, 93, 10, 11, 47, 94, 95, 84, 96, 97, 98, 99, 100, 101, 102, 103, 104, 662, 663, 664, 665, 666, 667, 668, 669, 670, 671, 672, 673, 674] (by decide +kernel) (by decide +kernel)
set_option maxRecDepth 20000 in
theorem gL_law_X8_init : GoodIn wsL_law (wsX8_init) := ggL_law_X8_init
set_option maxRecDepth 20000 in
theorem ggL_law_X7_set : GoodIn wsL_law wsX7_set := goodIn_r _ [108, 109, 15, 110, 111, 112, 113, 114, 2, 115, 116, 117, 118, 656, 657, 658, 659, 660, 661, 675, 676, 677, 678, 692, 693, 694] (by decide +kernel) (by decide +kernel)
set_option maxRecDepth 20000 in
theorem gL_law_X7_set : GoodIn wsL_law (wsV RL 13 RX7 yX7_set wsX7_set) := goodIn_app (goodIn_of _ (by decide +kernel)) ggL_law_X7_set
set_option maxRecDepth 20000 in
theorem ggL_law_X8_set : GoodIn wsL_law wsX8_set := goodIn_r _ [122, 94, 123, 124, 5, 125, 126, 127, 128, 662, 663, 664, 665, 666, 667, 668, 669, 670, 671, 672, 673, 674] (by decide +kernel) (by decide +kernel)
set_option maxRecDepth 20000 in
theorem gL_law_X8_set : GoodIn wsL_law (wsV RL 17 RX8 yX8_set wsX8_set) := goodIn_app (goodIn_of _ (by decide +kernel)) ggL_law_X8_set
set_option maxRecDepth 20000 in
theorem ggL_law_X7_load : GoodIn wsL_law wsX7_load := goodIn_r _ [132, 15, 111, 133, 113, 114, 2, 115, 116, 117, 118, 134, 135, 136, 41, 137, 52, 53, 138, 139, 140, 51, 141, 57, 58, 656, 657, 658, 659, 660, 661, 675, 676, 677, 678, 699, 700, 692, 693, 694] (by decide +kernel) (by decide +kernel)
set_option maxRecDepth 20000 in
theorem gL_law_X7_load : GoodIn wsL_law (wsV RL 18 RX7 yX7_load wsX7_load) := goodIn_app (goodIn_of _ (by decide +kernel)) ggL_law_X7_load
set_option maxRecDepth 20000 in
theorem ggL_law_X8_load : GoodIn wsL_law wsX8_load := goodIn_r _ [145, 94, 123, 124, 5, 125, 126, 127, 128, 146, 147, 148, 149, 662, 663, 664, 665, 666, 667, 668, 669, 670, 671, 672, 673, 674] (by decide +kernel) (by decide +kernel)
set_option maxRecDepth 20000 in
theorem gL_law_X8_load : GoodIn wsL_law (wsV RL 21 RX8 yX8_load wsX8_load) := goodIn_app (goodIn_of _ (by decide +kernel)) ggL_law_X8_load
set_option maxRecDepth 20000 in
theorem ggL_law_X7_take : GoodIn wsL_law wsX7_take := goodIn_r _ [153, 15, 111, 133, 113, 114, 2, 115, 116, 117, 118, 134, 135, 136, 41, 137, 52, 53, 154, 155, 156, 51, 157, 57, 58, 656, 657, 658, 659, 660, 661, 675, 676, 677, 678, 699, 700, 692, 693, 694] (by decide +kernel) (by decide +kernel)
set_option maxRecDepth 20000 in
theorem gL_law_X7_take : GoodIn wsL_law (wsV RL 22 RX7 yX7_take wsX7_take) := goodIn_app (goodIn_of _ (by decide +kernel)) ggL_law_X7_take
set_option maxRecDepth 20000 in
theorem ggL_law_X8_take : GoodIn wsL_law wsX8_take := goodIn_r _ [161, 94, 123, 124, 5, 125, 126, 127, 128, 146, 147, 148, 149, 162, 163, 164, 165, 662, 663, 664, 665, 666, 667, 668, 669, 670, 671, 672, 673, 674] (by decide +kernel) (by decide +kernel)
set_option maxRecDepth 20000 in
theorem gL_law_X8_take : GoodIn wsL_law (wsV RL 25 RX8 yX8_take wsX8_take) := goodIn_app (goodIn_of _ (by decide +kernel)) ggL_law_X8_take
set_option maxRecDepth 20000 in
theorem ggL_law_X7_bar : GoodIn wsL_law wsX7_bar := goodIn_r _ [169, 15, 111, 170, 171, 112, 133, 110, 113, 114, 2, 115, 116, 117, 118, 172, 173, 174, 51, 175, 58, 57, 176, 177, 178, 179, 180, 181, 182, 41, 183, 52, 53, 184, 185, 186, 187, 188, 189, 190, 191, 14, 192, 38, 37, 193, 656, 657, 658, 659, 660, 661, 675, 676, 677, 678, 692, 693, 694, 699, 700, 695, 696, 697, 698] (by decide +kernel) (by decide +kernel)
set_option maxRecDepth 20000 in
theorem gL_law_X7_bar : GoodIn wsL_law (wsV RL 26 RX7 yX7_bar wsX7_bar) := goodIn_app (goodIn_of _ (by decide +kernel)) ggL_law_X7_bar
set_option maxRecDepth 20000 in
theorem ggL_law_X8_bar : GoodIn wsL_law wsX8_bar := goodIn_r _ [197, 94, 123, 124, 5, 125, 126, 127, 128, 198, 199, 200, 201, 146, 147, 148, 149, 162, 163, 164, 165, 202, 203, 204, 205, 206, 207, 208, 209, 210, 211, 212, 213, 214, 215, 216, 662, 663, 664, 665, 666, 667, 668, 669, 670, 671, 672, 673, 674] (by decide +kernel) (by decide +kernel)
set_option maxRecDepth 20000 in
theorem gL_law_X8_bar : GoodIn wsL_law (wsV RL 30 RX8 yX8_bar wsX8_bar) := goodIn_app (goodIn_of _ (by decide +kernel)) ggL_law_X8_bar
set_option maxRecDepth 20000 in
theorem ggL_law_X7_loading : GoodIn wsL_law wsX7_loading := goodIn_r _ [220, 21, 15, 111, 110, 113, 114, 2, 115, 116, 117, 118, 221, 222, 223, 20, 224, 225, 226, 72, 227, 73, 69, 70, 228, 185, 186, 187, 71, 229, 230, 231, 232, 233, 234, 235, 236, 237, 238, 239, 240, 241, 242, 243, 244, 245, 246, 247, 248, 249, 250, 251, 252, 253, 254, 255, 256, 656, 657, 658, 659, 660, 661, 675, 676, 677, 678, 692, 693, 694, 699, 700, 679, 680, 681, 682, 683] (by decide +kernel) (by decide +kernel)
set_option maxRecDepth 20000 in
theorem gL_law_X7_loading : GoodIn wsL_law (wsV RL 31 RX7 yX7_loading wsX7_loading) := goodIn_app (goodIn_of _ (by decide +kernel)) ggL_law_X7_loading
set_option maxRecDepth 20000 in
theorem ggL_law_X8_loading : GoodIn wsL_law wsX8_loading := goodIn_r _ [260, 97, 261, 123, 124, 5, 125, 126, 127, 128, 262, 263, 264, 265, 94, 146, 147, 148, 149, 266, 267, 268, 269, 270, 271, 272, 162, 163, 164, 165, 210, 211, 212, 662, 663, 664, 665, 666, 667, 668, 669, 670, 671, 672, 673, 674] (by decide +kernel) (by decide +kernel)
set_option maxRecDepth 20000 in
theorem gL_law_X8_loading : GoodIn wsL_law (wsV RL 34 RX8 yX8_loading wsX8_loading) := goodIn_app (goodIn_of _ (by decide +kernel)) ggL_law_X8_loading
set_option maxRecDepth 20000 in
theorem ggL_law_X7_loadings : GoodIn wsL_law wsX7_loadings := goodIn_r _ [276, 21, 15, 111, 110, 113, 114, 2, 115, 116, 117, 118, 221, 222, 223, 20, 224, 225, 226, 72, 227, 73, 69, 70, 228, 185, 186, 187, 71, 229, 230, 231, 232, 233, 234, 235, 236, 237, 238, 239, 240, 241, 242, 243, 656, 657, 658, 659, 660, 661, 675, 676, 677, 678, 692, 693, 694, 699, 700, 679, 680, 681, 682, 683] (by decide +kernel) (by decide +kernel)
set_option maxRecDepth 20000 in
theorem gL_law_X7_loadings : GoodIn wsL_law (wsV RL 35 RX7 yX7_loadings wsX7_loadings) := goodIn_app (goodIn_of _ (by decide +kernel)) ggL_law_X7_loadings
set_option maxRecDepth 20000 in
theorem ggL_law_X8_loadings : GoodIn wsL_law wsX8_loadings := goodIn_r _ [280, 97, 123, 124, 5, 125, 126, 127, 128, 262, 263, 264, 265, 261, 94, 146, 147, 148, 149, 266, 267, 268, 269, 270, 271, 272, 162, 163, 164, 165, 210, 211, 212, 662, 663, 664, 665, 666, 667, 668, 669, 670, 671, 672, 673, 674] (by decide +kernel) (by decide +kernel)
set_option maxRecDepth 20000 in
theorem gL_law_X8_loadings : GoodIn wsL_law (wsV RL 39 RX8 yX8_loadings wsX8_loadings) := goodIn_app (goodIn_of _ (by decide +kernel)) ggL_law_X8_loadings
set_option maxRecDepth 20000 in
theorem ggL_law_X7_move : GoodIn wsL_law wsX7_move := goodIn_r _ [284, 15, 285, 113, 114, 2, 115, 116, 117, 118, 286, 287, 288, 14, 289, 37, 290, 291, 292, 293, 294, 38, 193, 295, 296, 297, 298, 299, 300, 656, 657, 658, 659, 660, 661, 675, 676, 677, 678, 695, 696, 697, 698] (by decide +kernel) (by decide +kernel)
set_option maxRecDepth 20000 in
theorem gL_law_X7_move : GoodIn wsL_law (wsV RL 40 RX7 yX7_move wsX7_move) := goodIn_app (goodIn_of _ (by decide +kernel)) ggL_law_X7_move
set_option maxRecDepth 20000 in
theorem ggL_law_X8_move : GoodIn wsL_law wsX8_move := goodIn_r _ [304, 94, 123, 124, 5, 125, 126, 127, 128, 305, 306, 307, 308, 662, 663, 664, 665, 666, 667, 668, 669, 670, 671, 672, 673, 674] (by decide +kernel) (by decide +kernel)
set_option maxRecDepth 20000 in
theorem gL_law_X8_move : GoodIn wsL_law (wsV RL 44 RX8 yX8_move wsX8_move) := goodIn_app (goodIn_of _ (by decide +kernel)) ggL_law_X8_move
set_option maxRecDepth 20000 in
theorem ggL_law_X7_drop : GoodIn wsL_law wsX7_drop := goodIn_r _ [312, 15, 285, 313, 314, 315, 2, 316, 116, 117, 118, 317, 318, 319, 14, 320, 38, 37, 321, 322, 323, 43, 324, 62, 63, 64, 65, 656, 657, 658, 659, 660, 661, 675, 676, 677, 678, 695, 696, 697, 698] (by decide +kernel) (by decide +kernel)
set_option maxRecDepth 20000 in
theorem gL_law_X7_drop : GoodIn wsL_law (wsV RL 45 RX7 yX7_drop wsX7_drop) := goodIn_app (goodIn_of _ (by decide +kernel)) ggL_law_X7_drop
set_option maxRecDepth 20000 in
theorem ggL_law_X8_drop : GoodIn wsL_law wsX8_drop := goodIn_r _ [328, 94, 329, 330, 331, 5, 332, 126, 127, 128, 662, 663, 664, 665, 666, 667, 668, 669, 670, 671, 672, 673, 674] (by decide +kernel) (by decide +kernel)
set_option maxRecDepth 20000 in
theorem gL_law_X8_drop : GoodIn wsL_law (wsV RL 48 RX8 yX8_drop wsX8_drop) := goodIn_app (goodIn_of _ (by decide +kernel)) ggL_law_X8_drop
set_option maxRecDepth 20000 in
theorem ggL_law_X7_shift : GoodIn wsL_law wsX7_shift := goodIn_r _ [336, 15, 337, 338, 339, 313, 314, 315, 2, 316, 285, 116, 117, 118, 286, 287, 288, 14, 289, 37, 290, 291, 292, 293, 294, 38, 193, 656, 657, 658, 659, 660, 661, 675, 676, 677, 678, 695, 696, 697, 698] (by decide +kernel) (by decide +kernel)
set_option maxRecDepth 20000 in
theorem gL_law_X7_shift : GoodIn wsL_law (wsV RL 49 RX7 yX7_shift wsX7_shift) := goodIn_app (goodIn_of _ (by decide +kernel)) ggL_law_X7_shift
set_option maxRecDepth 20000 in
theorem ggL_law_X8_shift : GoodIn wsL_law wsX8_shift := goodIn_r _ [343, 94, 329, 330, 331, 5, 332, 126, 127, 128, 305, 306, 307, 308, 662, 663, 664, 665, 666, 667, 668, 669, 670, 671, 672, 673, 674] (by decide +kernel) (by decide +kernel)
set_option maxRecDepth 20000 in
theorem gL_law_X8_shift : GoodIn wsL_law (wsV RL 52 RX8 yX8_shift wsX8_shift) := goodIn_app (goodIn_of _ (by decide +kernel)) ggL_law_X8_shift
set_option maxRecDepth 20000 in
theorem ggL_law_X7_told : GoodIn wsL_law wsX7_told := goodIn_r _ [347, 15, 337, 339, 338, 348, 349, 29, 25, 350, 313, 314, 315, 2, 316, 285, 116, 117, 118, 351, 352, 353, 354, 355, 356, 357, 358, 24, 359, 78, 360, 361, 362, 363, 364, 292, 293, 14, 294, 38, 37, 193, 290, 365, 366, 367, 43, 368, 64, 369, 185, 186, 187, 65, 370, 371, 372, 373, 374, 375, 376, 377, 378, 28, 379, 380, 89, 85, 86, 87, 88, 82, 381, 382, 383, 384, 385, 386, 387, 388, 389, 35, 39, 390, 181, 182, 41, 183, 52, 53, 184, 188, 177, 178, 51, 179, 58, 57, 391, 392, 393, 394, 395, 396, 397, 398, 399, 400, 401, 402, 403, 404, 405, 406, 407, 408, 409, 410, 411, 83, 656, 657, 658, 659, 660, 661, 675, 676, 677, 678, 695, 696, 697, 698, 685, 686, 687, 688, 689, 690, 691, 684, 692, 693, 694, 699, 700] (by decide +kernel) (by decide +kernel)
set_option maxRecDepth 20000 in
theorem gL_law_X7_told : GoodIn wsL_law (wsV RL 53 RX7 yX7_told wsX7_told) := goodIn_app (goodIn_of _ (by decide +kernel)) ggL_law_X7_told
set_option maxRecDepth 20000 in
theorem ggL_law_X8_told : GoodIn wsL_law wsX8_told := goodIn_r _ [415, 94, 98, 329, 330, 331, 5, 332, 126, 127, 128, 416, 417, 418, 419, 420, 421, 422, 423, 424, 425, 426, 427, 210, 211, 212, 428, 429, 430, 431, 432, 433, 434, 435, 436, 437, 438, 439, 440, 100, 104, 441, 442, 443, 444, 445, 446, 447, 448, 102, 103, 449, 450, 451, 452, 101, 206, 207, 208, 209, 202, 203, 204, 205, 146, 147, 148, 149, 162, 163, 164, 165, 453, 454, 455, 456, 266, 267, 268, 457, 458, 459, 460, 461, 462, 463, 464, 465, 466, 467, 468, 662, 663, 664, 665, 666, 667, 668, 669, 670, 671, 672, 673, 674] (by decide +kernel) (by decide +kernel)
set_option maxRecDepth 20000 in
theorem gL_law_X8_told : GoodIn wsL_law (wsV RL 56 RX8 yX8_told wsX8_told) := goodIn_app (goodIn_of _ (by decide +kernel)) ggL_law_X8_told
set_option maxRecDepth 20000 in
theorem ggL_law_X7_height : GoodIn wsL_law wsX7_height := goodIn_r _ [472, 25, 15, 355, 113, 114, 2, 115, 116, 117, 118, 473, 474, 475, 356, 357, 358, 24, 359, 78, 360, 361, 362, 363, 364, 292, 293, 14, 294, 38, 37, 193, 290, 365, 366, 367, 43, 368, 64, 369, 185, 186, 187, 65, 656, 657, 658, 659, 660, 661, 684, 675, 676, 677, 678, 692, 693, 694, 695, 696, 697, 698] (by decide +kernel) (by decide +kernel)
set_option maxRecDepth 20000 in
theorem gL_law_X7_height : GoodIn wsL_law (wsV RL 57 RX7 yX7_height wsX7_height) := goodIn_app (goodIn_of _ (by decide +kernel)) ggL_law_X7_height
set_option maxRecDepth 20000 in
theorem ggL_law_X8_height : GoodIn wsL_law wsX8_height := goodIn_r _ [479, 98, 123, 124, 5, 125, 126, 127, 128, 420, 421, 422, 423, 94, 424, 425, 426, 427, 210, 211, 212, 662, 663, 664, 665, 666, 667, 668, 669, 670, 671, 672, 673, 674] (by decide +kernel) (by decide +kernel)
set_option maxRecDepth 20000 in
theorem gL_law_X8_height : GoodIn wsL_law (wsV RL 60 RX8 yX8_height wsX8_height) := goodIn_app (goodIn_of _ (by decide +kernel)) ggL_law_X8_height
set_option maxRecDepth 20000 in
theorem ggL_law_X7_strike : GoodIn wsL_law wsX7_strike := goodIn_r _ [483, 25, 15, 113, 114, 2, 115, 116, 117, 118, 473, 474, 475, 356, 357, 358, 24, 359, 78, 360, 361, 362, 363, 364, 292, 293, 14, 294, 38, 37, 193, 290, 365, 366, 367, 43, 368, 64, 369, 185, 186, 187, 65, 484, 485, 486, 487, 488, 489, 490, 491, 492, 35, 493, 494, 495, 496, 497, 498, 499, 500, 501, 502, 503, 656, 657, 658, 659, 660, 661, 684, 675, 676, 677, 678, 692, 693, 694, 695, 696, 697, 698] (by decide +kernel) (by decide +kernel)
set_option maxRecDepth 20000 in
theorem gL_law_X7_strike : GoodIn wsL_law (wsV RL 61 RX7 yX7_strike wsX7_strike) := goodIn_app (goodIn_of _ (by decide +kernel)) ggL_law_X7_strike
set_option maxRecDepth 20000 in
theorem ggL_law_X8_strike : GoodIn wsL_law wsX8_strike := goodIn_r _ [507, 123, 124, 5, 125, 126, 127, 128, 508, 509, 510, 511, 99, 98, 420, 421, 422, 423, 94, 424, 425, 426, 427, 210, 211, 212, 512, 513, 514, 515, 516, 517, 518, 519, 662, 663, 664, 665, 666, 667, 668, 669, 670, 671, 672, 673, 674] (by decide +kernel) (by decide +kernel)
set_option maxRecDepth 20000 in
theorem gL_law_X8_strike : GoodIn wsL_law (wsV RL 64 RX8 yX8_strike wsX8_strike) := goodIn_app (goodIn_of _ (by decide +kernel)) ggL_law_X8_strike
set_option maxRecDepth 20000 in
theorem ggL_law_X7_clash : GoodIn wsL_law wsX7_clash := goodIn_r _ [523, 25, 15, 473, 474, 2, 475, 116, 117, 118, 524, 382, 383, 24, 384, 385, 357, 358, 359, 78, 360, 361, 362, 363, 364, 292, 293, 14, 294, 38, 37, 193, 290, 365, 366, 367, 43, 368, 64, 369, 185, 186, 187, 65, 525, 526, 527, 528, 529, 485, 486, 487, 488, 489, 490, 491, 492, 35, 493, 530, 495, 496, 497, 498, 499, 500, 501, 502, 503, 656, 657, 658, 659, 660, 661, 684, 675, 676, 677, 678, 692, 693, 694, 695, 696, 697, 698] (by decide +kernel) (by decide +kernel)
set_option maxRecDepth 20000 in
theorem gL_law_X7_clash : GoodIn wsL_law (wsV RL 65 RX7 yX7_clash wsX7_clash) := goodIn_app (goodIn_of _ (by decide +kernel)) ggL_law_X7_clash
set_option maxRecDepth 20000 in
theorem ggL_law_X8_clash : GoodIn wsL_law wsX8_clash := goodIn_r _ [534, 126, 127, 5, 128, 508, 509, 510, 511, 99, 98, 420, 421, 422, 423, 94, 424, 425, 426, 427, 210, 211, 212, 512, 513, 514, 515, 516, 517, 518, 519, 662, 663, 664, 665, 666, 667, 668, 669, 670, 671, 672, 673, 674] (by decide +kernel) (by decide +kernel)
set_option maxRecDepth 20000 in
theorem gL_law_X8_clash : GoodIn wsL_law (wsV RL 68 RX8 yX8_clash wsX8_clash) := goodIn_app (goodIn_of _ (by decide +kernel)) ggL_law_X8_clash
set_option maxRecDepth 20000 in
theorem ggL_law_X7_often : GoodIn wsL_law wsX7_often := goodIn_r _ [538, 25, 15, 113, 114, 2, 115, 116, 117, 118, 356, 357, 358, 24, 359, 78, 360, 361, 362, 363, 364, 292, 293, 14, 294, 38, 37, 193, 290, 365, 366, 367, 43, 368, 64, 369, 185, 186, 187, 65, 539, 540, 541, 542, 529, 485, 486, 487, 488, 489, 490, 491, 492, 35, 493, 530, 495, 496, 497, 498, 499, 500, 501, 502, 503, 656, 657, 658, 659, 660, 661, 684, 675, 676, 677, 678, 692, 693, 694, 695, 696, 697, 698] (by decide +kernel) (by decide +kernel)
set_option maxRecDepth 20000 in
theorem gL_law_X7_often : GoodIn wsL_law (wsV RL 69 RX7 yX7_often wsX7_often) := goodIn_app (goodIn_of _ (by decide +kernel)) ggL_law_X7_often
set_option maxRecDepth 20000 in
theorem ggL_law_X8_often : GoodIn wsL_law wsX8_often := goodIn_r _ [546, 123, 124, 5, 125, 126, 127, 128, 508, 509, 510, 511, 99, 98, 420, 421, 422, 423, 94, 424, 425, 426, 427, 210, 211, 212, 512, 513, 514, 515, 516, 517, 518, 519, 662, 663, 664, 665, 666, 667, 668, 669, 670, 671, 672, 673, 674] (by decide +kernel) (by decide +kernel)
set_option maxRecDepth 20000 in
theorem gL_law_X8_often : GoodIn wsL_law (wsV RL 72 RX8 yX8_often wsX8_often) := goodIn_app (goodIn_of _ (by decide +kernel)) ggL_law_X8_often
set_option maxRecDepth 20000 in
theorem ggL_law_X7_hands : GoodIn wsL_law wsX7_hands := goodIn_r _ [550, 29, 15, 25, 551, 116, 117, 2, 118, 376, 377, 378, 28, 379, 380, 89, 85, 86, 87, 88, 82, 381, 382, 383, 24, 384, 385, 357, 358, 359, 78, 360, 361, 362, 363, 364, 292, 293, 14, 294, 38, 37, 193, 290, 365, 366, 367, 43, 368, 64, 369, 185, 186, 187, 65, 386, 387, 388, 389, 35, 39, 390, 181, 182, 41, 183, 52, 53, 184, 188, 177, 178, 51, 179, 58, 57, 391, 371, 372, 373, 374, 375, 392, 393, 394, 395, 396, 397, 398, 399, 400, 401, 402, 403, 404, 405, 406, 407, 408, 409, 410, 411, 83, 552, 553, 554, 555, 556, 557, 558, 559, 560, 499, 500, 561, 562, 563, 564, 656, 657, 658, 659, 660, 661, 685, 686, 687, 688, 689, 690, 691, 675, 676, 677, 678, 684, 692, 693, 694, 695, 696, 697, 698, 699, 700] (by decide +kernel) (by decide +kernel)
set_option maxRecDepth 20000 in
theorem gL_law_X7_hands : GoodIn wsL_law (wsV RL 73 RX7 yX7_hands wsX7_hands) := goodIn_app (goodIn_of _ (by decide +kernel)) ggL_law_X7_hands
set_option maxRecDepth 20000 in
theorem ggL_law_X8_hands : GoodIn wsL_law wsX8_hands := goodIn_r _ [568, 440, 126, 127, 5, 128, 445, 446, 447, 448, 102, 103, 449, 450, 451, 452, 94, 100, 101, 206, 207, 208, 209, 202, 203, 204, 205, 146, 147, 148, 149, 162, 163, 164, 165, 210, 211, 212, 416, 417, 418, 419, 98, 420, 421, 422, 423, 424, 425, 426, 427, 428, 429, 430, 431, 453, 454, 455, 456, 266, 267, 268, 457, 458, 459, 460, 461, 462, 463, 464, 569, 570, 571, 572, 662, 663, 664, 665, 666, 667, 668, 669, 670, 671, 672, 673, 674] (by decide +kernel) (by decide +kernel)
set_option maxRecDepth 20000 in
theorem gL_law_X8_hands : GoodIn wsL_law (wsV RL 76 RX8 yX8_hands wsX8_hands) := goodIn_app (goodIn_of _ (by decide +kernel)) ggL_law_X8_hands
set_option maxRecDepth 20000 in
theorem ggL_law_X7_crew : GoodIn wsL_law wsX7_crew := goodIn_r _ [576, 29, 15, 25, 116, 117, 2, 118, 376, 377, 378, 28, 379, 380, 89, 85, 86, 87, 88, 82, 381, 382, 383, 24, 384, 385, 357, 358, 359, 78, 360, 361, 362, 363, 364, 292, 293, 14, 294, 38, 37, 193, 290, 365, 366, 367, 43, 368, 64, 369, 185, 186, 187, 65, 386, 387, 388, 389, 35, 39, 390, 181, 182, 41, 183, 52, 53, 184, 188, 177, 178, 51, 179, 58, 57, 391, 371, 372, 373, 374, 375, 392, 393, 394, 395, 396, 397, 398, 399, 400, 401, 402, 403, 404, 405, 406, 407, 408, 409, 410, 411, 83, 577, 578, 579, 580, 581, 582, 583, 584, 656, 657, 658, 659, 660, 661, 675, 676, 677, 678, 685, 686, 687, 688, 689, 690, 691, 684, 692, 693, 694, 695, 696, 697, 698, 699, 700] (by decide +kernel) (by decide +kernel)
set_option maxRecDepth 20000 in
theorem gL_law_X7_crew : GoodIn wsL_law (wsV RL 77 RX7 yX7_crew wsX7_crew) := goodIn_app (goodIn_of _ (by decide +kernel)) ggL_law_X7_crew
set_option maxRecDepth 20000 in
theorem ggL_law_X8_crew : GoodIn wsL_law wsX8_crew := goodIn_r _ [588, 440, 104, 100, 126, 127, 5, 128, 441, 442, 443, 444, 445, 446, 447, 448, 102, 103, 449, 450, 451, 452, 94, 101, 206, 207, 208, 209, 202, 203, 204, 205, 146, 147, 148, 149, 162, 163, 164, 165, 210, 211, 212, 416, 417, 418, 419, 98, 420, 421, 422, 423, 424, 425, 426, 427, 428, 429, 430, 431, 453, 454, 455, 456, 266, 267, 268, 457, 458, 459, 460, 461, 462, 463, 464, 465, 466, 467, 468, 662, 663, 664, 665, 666, 667, 668, 669, 670, 671, 672, 673, 674] (by decide +kernel) (by decide +kernel)
set_option maxRecDepth 20000 in
theorem gL_law_X8_crew : GoodIn wsL_law (wsV RL 80 RX8 yX8_crew wsX8_crew) := goodIn_app (goodIn_of _ (by decide +kernel)) ggL_law_X8_crew
set_option maxRecDepth 20000 in
theorem ggL_law_X7_image : GoodIn wsL_law wsX7_image := goodIn_r _ [592, 16, 15, 17, 116, 117, 2, 118, 593, 594, 595, 14, 596, 35, 37, 38, 39, 597, 598, 599, 41, 600, 48, 601, 602, 603, 604, 52, 53, 605, 606, 607, 51, 608, 57, 609, 58, 321, 322, 323, 43, 324, 62, 63, 64, 65, 656, 657, 658, 659, 660, 661, 675, 676, 677, 678, 692, 693, 694, 699, 700, 695, 696, 697, 698] (by decide +kernel) (by decide +kernel)
set_option maxRecDepth 20000 in
theorem gL_law_X7_image : GoodIn wsL_law (wsV RL 81 RX7 yX7_image wsX7_image) := goodIn_app (goodIn_of _ (by decide +kernel)) ggL_law_X7_image
set_option maxRecDepth 20000 in
theorem ggL_law_X8_image : GoodIn wsL_law wsX8_image := goodIn_r _ [613, 95, 94, 96, 126, 127, 5, 128, 662, 663, 664, 665, 666, 667, 668, 669, 670, 671, 672, 673, 674] (by decide +kernel) (by decide +kernel)
set_option maxRecDepth 20000 in
theorem gL_law_X8_image : GoodIn wsL_law (wsV RL 84 RX8 yX8_image wsX8_image) := goodIn_app (goodIn_of _ (by decide +kernel)) ggL_law_X8_image
set_option maxRecDepth 20000 in
theorem ggL_law_X7_restore : GoodIn wsL_law wsX7_restore := goodIn_r _ [617, 17, 15, 16, 116, 117, 2, 118, 593, 594, 595, 14, 596, 35, 37, 38, 39, 597, 598, 599, 41, 600, 48, 601, 602, 603, 604, 52, 53, 605, 606, 607, 51, 608, 57, 609, 58, 321, 322, 323, 43, 324, 62, 63, 64, 65, 656, 657, 658, 659, 660, 661, 675, 676, 677, 678, 692, 693, 694, 699, 700, 695, 696, 697, 698] (by decide +kernel) (by decide +kernel)
set_option maxRecDepth 20000 in
theorem gL_law_X7_restore : GoodIn wsL_law (wsV RL 85 RX7 yX7_restore wsX7_restore) := goodIn_app (goodIn_of _ (by decide +kernel)) ggL_law_X7_restore
set_option maxRecDepth 20000 in
theorem ggL_law_X8_restore : GoodIn wsL_law wsX8_restore := goodIn_r _ [621, 96, 94, 95, 126, 127, 5, 128, 662, 663, 664, 665, 666, 667, 668, 669, 670, 671, 672, 673, 674] (by decide +kernel) (by decide +kernel)
set_option maxRecDepth 20000 in
theorem gL_law_X8_restore : GoodIn wsL_law (wsV RL 88 RX8 yX8_restore wsX8_restore) := goodIn_app (goodIn_of _ (by decide +kernel)) ggL_law_X8_restore
set_option maxRecDepth 20000 in
theorem ggL_law_X7_count : GoodIn wsL_law wsX7_count := goodIn_r _ [625, 15, 285, 110, 17, 626, 627, 628, 14, 629, 35, 39, 390, 181, 182, 41, 183, 52, 53, 184, 185, 186, 187, 188, 177, 178, 51, 179, 58, 57, 630, 631, 632, 633, 634, 489, 490, 491, 492, 493, 635, 636, 637, 2, 638, 25, 639, 499, 500, 524, 382, 383, 24, 384, 385, 357, 358, 359, 78, 360, 361, 362, 363, 364, 292, 293, 294, 38, 37, 193, 290, 365, 366, 367, 43, 368, 64, 369, 65, 370, 371, 372, 373, 374, 375, 656, 657, 658, 659, 660, 661, 675, 676, 677, 678, 692, 693, 694, 699, 700, 684, 695, 696, 697, 698] (by decide +kernel) (by decide +kernel)
set_option maxRecDepth 20000 in
theorem gL_law_X7_count : GoodIn wsL_law (wsV RL 89 RX7 yX7_count wsX7_count) := goodIn_app (goodIn_of _ (by decide +kernel)) ggL_law_X7_count
set_option maxRecDepth 20000 in
theorem ggL_law_X8_count : GoodIn wsL_law wsX8_count := goodIn_r _ [643, 94, 96, 644, 645, 646, 5, 647, 206, 207, 208, 209, 202, 203, 204, 205, 146, 147, 148, 149, 162, 163, 164, 165, 210, 211, 212, 648, 649, 650, 651, 516, 517, 518, 519, 652, 653, 654, 655, 416, 417, 418, 419, 98, 420, 421, 422, 423, 424, 425, 426, 427, 428, 429, 430, 431, 662, 663, 664, 665, 666, 667, 668, 669, 670, 671, 672, 673, 674] (by decide +kernel) (by decide +kernel)
set_option maxRecDepth 20000 in
theorem gL_law_X8_count : GoodIn wsL_law (wsV RL 92 RX8 yX8_count wsX8_count) := goodIn_app (goodIn_of _ (by decide +kernel)) ggL_law_X8_count
theorem dL_law_0 : decode cL_law 0 = .ok (.new 7, 3) := by decide +kernel
theorem dL_law_3 : decode cL_law 3 = .ok (.dup, 1) := by decide +kernel
theorem dL_law_4 : decode cL_law 4 = .ok (.invokespecial 9, 3) := by decide +kernel
theorem dL_law_7 : decode cL_law 7 = .ok (.astore_n 1, 1) := by decide +kernel
theorem dL_law_8 : decode cL_law 8 = .ok (.new 10, 3) := by decide +kernel
theorem dL_law_11 : decode cL_law 11 = .ok (.dup, 1) := by decide +kernel
theorem dL_law_12 : decode cL_law 12 = .ok (.invokespecial 12, 3) := by decide +kernel
theorem dL_law_15 : decode cL_law 15 = .ok (.astore_n 2, 1) := by decide +kernel
theorem dL_law_16 : decode cL_law 16 = .ok (.iconst 0, 1) := by decide +kernel
theorem dL_law_17 : decode cL_law 17 = .ok (.istore_n 3, 1) := by decide +kernel
theorem dL_law_18 : decode cL_law 18 = .ok (.iload_n 3, 1) := by decide +kernel
theorem dL_law_19 : decode cL_law 19 = .ok (.aload_n 0, 1) := by decide +kernel
theorem dL_law_20 : decode cL_law 20 = .ok (.arraylength, 1) := by decide +kernel
theorem dL_law_21 : decode cL_law 21 = .ok (.iconst 5, 1) := by decide +kernel
theorem dL_law_22 : decode cL_law 22 = .ok (.isub, 1) := by decide +kernel
theorem dL_law_23 : decode cL_law 23 = .ok (.if_icmp .gt 734, 3) := by decide +kernel
theorem dL_law_26 : decode cL_law 26 = .ok (.aload_n 0, 1) := by decide +kernel
theorem dL_law_27 : decode cL_law 27 = .ok (.iload_n 3, 1) := by decide +kernel
theorem dL_law_28 : decode cL_law 28 = .ok (.iaload, 1) := by decide +kernel
theorem dL_law_29 : decode cL_law 29 = .ok (.bipush 31, 2) := by decide +kernel
theorem dL_law_31 : decode cL_law 31 = .ok (.iand, 1) := by decide +kernel
theorem dL_law_32 : decode cL_law 32 = .ok (.tableswitch 719 0 18 #[92, 135, 178, 221, 254, 287, 310, 363, 386, 419, 452, 485, 528, 561, 594, 617, 650, 673, 696], 92) := by decide +kernel
theorem dL_law_124 : decode cL_law 124 = .ok (.aload_n 1, 1) := by decide +kernel
theorem dL_law_125 : decode cL_law 125 = .ok (.aload_n 0, 1) := by decide +kernel
theorem dL_law_126 : decode cL_law 126 = .ok (.iload_n 3, 1) := by decide +kernel
theorem dL_law_127 : decode cL_law 127 = .ok (.iconst 1, 1) := by decide +kernel
theorem dL_law_128 : decode cL_law 128 = .ok (.iadd, 1) := by decide +kernel
theorem dL_law_129 : decode cL_law 129 = .ok (.iaload, 1) := by decide +kernel
theorem dL_law_130 : decode cL_law 130 = .ok (.aload_n 0, 1) := by decide +kernel
theorem dL_law_131 : decode cL_law 131 = .ok (.iload_n 3, 1) := by decide +kernel
theorem dL_law_132 : decode cL_law 132 = .ok (.iconst 2, 1) := by decide +kernel
theorem dL_law_133 : decode cL_law 133 = .ok (.iadd, 1) := by decide +kernel
theorem dL_law_134 : decode cL_law 134 = .ok (.iaload, 1) := by decide +kernel
theorem dL_law_135 : decode cL_law 135 = .ok (.aload_n 0, 1) := by decide +kernel
theorem dL_law_136 : decode cL_law 136 = .ok (.iload_n 3, 1) := by decide +kernel
theorem dL_law_137 : decode cL_law 137 = .ok (.iconst 3, 1) := by decide +kernel
theorem dL_law_138 : decode cL_law 138 = .ok (.iadd, 1) := by decide +kernel
theorem dL_law_139 : decode cL_law 139 = .ok (.iaload, 1) := by decide +kernel
theorem dL_law_140 : decode cL_law 140 = .ok (.invokevirtual 13, 3) := by decide +kernel
theorem dL_law_143 : decode cL_law 143 = .ok (.aload_n 2, 1) := by decide +kernel
theorem dL_law_144 : decode cL_law 144 = .ok (.aload_n 0, 1) := by decide +kernel
theorem dL_law_145 : decode cL_law 145 = .ok (.iload_n 3, 1) := by decide +kernel
theorem dL_law_146 : decode cL_law 146 = .ok (.iconst 1, 1) := by decide +kernel
theorem dL_law_147 : decode cL_law 147 = .ok (.iadd, 1) := by decide +kernel
theorem dL_law_148 : decode cL_law 148 = .ok (.iaload, 1) := by decide +kernel
theorem dL_law_149 : decode cL_law 149 = .ok (.aload_n 0, 1) := by decide +kernel
theorem dL_law_150 : decode cL_law 150 = .ok (.iload_n 3, 1) := by decide +kernel
theorem dL_law_151 : decode cL_law 151 = .ok (.iconst 2, 1) := by decide +kernel
theorem dL_law_152 : decode cL_law 152 = .ok (.iadd, 1) := by decide +kernel
theorem dL_law_153 : decode cL_law 153 = .ok (.iaload, 1) := by decide +kernel
theorem dL_law_154 : decode cL_law 154 = .ok (.aload_n 0, 1) := by decide +kernel
theorem dL_law_155 : decode cL_law 155 = .ok (.iload_n 3, 1) := by decide +kernel
theorem dL_law_156 : decode cL_law 156 = .ok (.iconst 3, 1) := by decide +kernel
theorem dL_law_157 : decode cL_law 157 = .ok (.iadd, 1) := by decide +kernel
theorem dL_law_158 : decode cL_law 158 = .ok (.iaload, 1) := by decide +kernel
theorem dL_law_159 : decode cL_law 159 = .ok (.invokevirtual 17, 3) := by decide +kernel
theorem dL_law_162 : decode cL_law 162 = .ok (.if_icmp .eq 589, 3) := by decide +kernel
theorem dL_law_165 : decode cL_law 165 = .ok (.iconst 0, 1) := by decide +kernel
theorem dL_law_166 : decode cL_law 166 = .ok (.ireturn, 1) := by decide +kernel
theorem dL_law_167 : decode cL_law 167 = .ok (.aload_n 1, 1) := by decide +kernel
theorem dL_law_168 : decode cL_law 168 = .ok (.aload_n 0, 1) := by decide +kernel
theorem dL_law_169 : decode cL_law 169 = .ok (.iload_n 3, 1) := by decide +kernel
theorem dL_law_170 : decode cL_law 170 = .ok (.iconst 1, 1) := by decide +kernel
theorem dL_law_171 : decode cL_law 171 = .ok (.iadd, 1) := by decide +kernel
theorem dL_law_172 : decode cL_law 172 = .ok (.iaload, 1) := by decide +kernel
theorem dL_law_173 : decode cL_law 173 = .ok (.aload_n 0, 1) := by decide +kernel
theorem dL_law_174 : decode cL_law 174 = .ok (.iload_n 3, 1) := by decide +kernel
theorem dL_law_175 : decode cL_law 175 = .ok (.iconst 2, 1) := by decide +kernel
theorem dL_law_176 : decode cL_law 176 = .ok (.iadd, 1) := by decide +kernel
theorem dL_law_177 : decode cL_law 177 = .ok (.iaload, 1) := by decide +kernel
theorem dL_law_178 : decode cL_law 178 = .ok (.aload_n 0, 1) := by decide +kernel
theorem dL_law_179 : decode cL_law 179 = .ok (.iload_n 3, 1) := by decide +kernel
theorem dL_law_180 : decode cL_law 180 = .ok (.iconst 3, 1) := by decide +kernel
theorem dL_law_181 : decode cL_law 181 = .ok (.iadd, 1) := by decide +kernel
theorem dL_law_182 : decode cL_law 182 = .ok (.iaload, 1) := by decide +kernel
theorem dL_law_183 : decode cL_law 183 = .ok (.invokevirtual 18, 3) := by decide +kernel
theorem dL_law_186 : decode cL_law 186 = .ok (.aload_n 2, 1) := by decide +kernel
theorem dL_law_187 : decode cL_law 187 = .ok (.aload_n 0, 1) := by decide +kernel
theorem dL_law_188 : decode cL_law 188 = .ok (.iload_n 3, 1) := by decide +kernel
theorem dL_law_189 : decode cL_law 189 = .ok (.iconst 1, 1) := by decide +kernel
theorem dL_law_190 : decode cL_law 190 = .ok (.iadd, 1) := by decide +kernel
theorem dL_law_191 : decode cL_law 191 = .ok (.iaload, 1) := by decide +kernel
theorem dL_law_192 : decode cL_law 192 = .ok (.aload_n 0, 1) := by decide +kernel
theorem dL_law_193 : decode cL_law 193 = .ok (.iload_n 3, 1) := by decide +kernel
theorem dL_law_194 : decode cL_law 194 = .ok (.iconst 2, 1) := by decide +kernel
theorem dL_law_195 : decode cL_law 195 = .ok (.iadd, 1) := by decide +kernel
theorem dL_law_196 : decode cL_law 196 = .ok (.iaload, 1) := by decide +kernel
theorem dL_law_197 : decode cL_law 197 = .ok (.aload_n 0, 1) := by decide +kernel
theorem dL_law_198 : decode cL_law 198 = .ok (.iload_n 3, 1) := by decide +kernel
theorem dL_law_199 : decode cL_law 199 = .ok (.iconst 3, 1) := by decide +kernel
theorem dL_law_200 : decode cL_law 200 = .ok (.iadd, 1) := by decide +kernel
theorem dL_law_201 : decode cL_law 201 = .ok (.iaload, 1) := by decide +kernel
theorem dL_law_202 : decode cL_law 202 = .ok (.invokevirtual 21, 3) := by decide +kernel
theorem dL_law_205 : decode cL_law 205 = .ok (.if_icmp .eq 546, 3) := by decide +kernel
theorem dL_law_208 : decode cL_law 208 = .ok (.iconst 0, 1) := by decide +kernel
theorem dL_law_209 : decode cL_law 209 = .ok (.ireturn, 1) := by decide +kernel
theorem dL_law_210 : decode cL_law 210 = .ok (.aload_n 1, 1) := by decide +kernel
theorem dL_law_211 : decode cL_law 211 = .ok (.aload_n 0, 1) := by decide +kernel
theorem dL_law_212 : decode cL_law 212 = .ok (.iload_n 3, 1) := by decide +kernel
theorem dL_law_213 : decode cL_law 213 = .ok (.iconst 1, 1) := by decide +kernel
theorem dL_law_214 : decode cL_law 214 = .ok (.iadd, 1) := by decide +kernel
theorem dL_law_215 : decode cL_law 215 = .ok (.iaload, 1) := by decide +kernel
theorem dL_law_216 : decode cL_law 216 = .ok (.aload_n 0, 1) := by decide +kernel
theorem dL_law_217 : decode cL_law 217 = .ok (.iload_n 3, 1) := by decide +kernel
theorem dL_law_218 : decode cL_law 218 = .ok (.iconst 2, 1) := by decide +kernel
theorem dL_law_219 : decode cL_law 219 = .ok (.iadd, 1) := by decide +kernel
theorem dL_law_220 : decode cL_law 220 = .ok (.iaload, 1) := by decide +kernel
theorem dL_law_221 : decode cL_law 221 = .ok (.aload_n 0, 1) := by decide +kernel
theorem dL_law_222 : decode cL_law 222 = .ok (.iload_n 3, 1) := by decide +kernel
theorem dL_law_223 : decode cL_law 223 = .ok (.iconst 3, 1) := by decide +kernel
theorem dL_law_224 : decode cL_law 224 = .ok (.iadd, 1) := by decide +kernel
theorem dL_law_225 : decode cL_law 225 = .ok (.iaload, 1) := by decide +kernel
theorem dL_law_226 : decode cL_law 226 = .ok (.invokevirtual 22, 3) := by decide +kernel
theorem dL_law_229 : decode cL_law 229 = .ok (.aload_n 2, 1) := by decide +kernel
theorem dL_law_230 : decode cL_law 230 = .ok (.aload_n 0, 1) := by decide +kernel
theorem dL_law_231 : decode cL_law 231 = .ok (.iload_n 3, 1) := by decide +kernel
theorem dL_law_232 : decode cL_law 232 = .ok (.iconst 1, 1) := by decide +kernel
theorem dL_law_233 : decode cL_law 233 = .ok (.iadd, 1) := by decide +kernel
theorem dL_law_234 : decode cL_law 234 = .ok (.iaload, 1) := by decide +kernel
theorem dL_law_235 : decode cL_law 235 = .ok (.aload_n 0, 1) := by decide +kernel
theorem dL_law_236 : decode cL_law 236 = .ok (.iload_n 3, 1) := by decide +kernel
theorem dL_law_237 : decode cL_law 237 = .ok (.iconst 2, 1) := by decide +kernel
theorem dL_law_238 : decode cL_law 238 = .ok (.iadd, 1) := by decide +kernel
theorem dL_law_239 : decode cL_law 239 = .ok (.iaload, 1) := by decide +kernel
theorem dL_law_240 : decode cL_law 240 = .ok (.aload_n 0, 1) := by decide +kernel
theorem dL_law_241 : decode cL_law 241 = .ok (.iload_n 3, 1) := by decide +kernel
theorem dL_law_242 : decode cL_law 242 = .ok (.iconst 3, 1) := by decide +kernel
theorem dL_law_243 : decode cL_law 243 = .ok (.iadd, 1) := by decide +kernel
theorem dL_law_244 : decode cL_law 244 = .ok (.iaload, 1) := by decide +kernel
theorem dL_law_245 : decode cL_law 245 = .ok (.invokevirtual 25, 3) := by decide +kernel
theorem dL_law_248 : decode cL_law 248 = .ok (.if_icmp .eq 503, 3) := by decide +kernel
theorem dL_law_251 : decode cL_law 251 = .ok (.iconst 0, 1) := by decide +kernel
theorem dL_law_252 : decode cL_law 252 = .ok (.ireturn, 1) := by decide +kernel
theorem dL_law_253 : decode cL_law 253 = .ok (.aload_n 1, 1) := by decide +kernel
theorem dL_law_254 : decode cL_law 254 = .ok (.aload_n 0, 1) := by decide +kernel
theorem dL_law_255 : decode cL_law 255 = .ok (.iload_n 3, 1) := by decide +kernel
theorem dL_law_256 : decode cL_law 256 = .ok (.iconst 1, 1) := by decide +kernel
theorem dL_law_257 : decode cL_law 257 = .ok (.iadd, 1) := by decide +kernel
theorem dL_law_258 : decode cL_law 258 = .ok (.iaload, 1) := by decide +kernel
theorem dL_law_259 : decode cL_law 259 = .ok (.aload_n 0, 1) := by decide +kernel
theorem dL_law_260 : decode cL_law 260 = .ok (.iload_n 3, 1) := by decide +kernel
theorem dL_law_261 : decode cL_law 261 = .ok (.iconst 2, 1) := by decide +kernel
theorem dL_law_262 : decode cL_law 262 = .ok (.iadd, 1) := by decide +kernel
theorem dL_law_263 : decode cL_law 263 = .ok (.iaload, 1) := by decide +kernel
theorem dL_law_264 : decode cL_law 264 = .ok (.invokevirtual 26, 3) := by decide +kernel
theorem dL_law_267 : decode cL_law 267 = .ok (.aload_n 2, 1) := by decide +kernel
theorem dL_law_268 : decode cL_law 268 = .ok (.aload_n 0, 1) := by decide +kernel
theorem dL_law_269 : decode cL_law 269 = .ok (.iload_n 3, 1) := by decide +kernel
theorem dL_law_270 : decode cL_law 270 = .ok (.iconst 1, 1) := by decide +kernel
theorem dL_law_271 : decode cL_law 271 = .ok (.iadd, 1) := by decide +kernel
theorem dL_law_272 : decode cL_law 272 = .ok (.iaload, 1) := by decide +kernel
theorem dL_law_273 : decode cL_law 273 = .ok (.aload_n 0, 1) := by decide +kernel
theorem dL_law_274 : decode cL_law 274 = .ok (.iload_n 3, 1) := by decide +kernel
theorem dL_law_275 : decode cL_law 275 = .ok (.iconst 2, 1) := by decide +kernel
theorem dL_law_276 : decode cL_law 276 = .ok (.iadd, 1) := by decide +kernel
theorem dL_law_277 : decode cL_law 277 = .ok (.iaload, 1) := by decide +kernel
theorem dL_law_278 : decode cL_law 278 = .ok (.invokevirtual 30, 3) := by decide +kernel
theorem dL_law_281 : decode cL_law 281 = .ok (.if_icmp .eq 470, 3) := by decide +kernel
theorem dL_law_284 : decode cL_law 284 = .ok (.iconst 0, 1) := by decide +kernel
theorem dL_law_285 : decode cL_law 285 = .ok (.ireturn, 1) := by decide +kernel
theorem dL_law_286 : decode cL_law 286 = .ok (.aload_n 1, 1) := by decide +kernel
theorem dL_law_287 : decode cL_law 287 = .ok (.aload_n 0, 1) := by decide +kernel
theorem dL_law_288 : decode cL_law 288 = .ok (.iload_n 3, 1) := by decide +kernel
theorem dL_law_289 : decode cL_law 289 = .ok (.iconst 1, 1) := by decide +kernel
theorem dL_law_290 : decode cL_law 290 = .ok (.iadd, 1) := by decide +kernel
theorem dL_law_291 : decode cL_law 291 = .ok (.iaload, 1) := by decide +kernel
theorem dL_law_292 : decode cL_law 292 = .ok (.aload_n 0, 1) := by decide +kernel
theorem dL_law_293 : decode cL_law 293 = .ok (.iload_n 3, 1) := by decide +kernel
theorem dL_law_294 : decode cL_law 294 = .ok (.iconst 2, 1) := by decide +kernel
theorem dL_law_295 : decode cL_law 295 = .ok (.iadd, 1) := by decide +kernel
theorem dL_law_296 : decode cL_law 296 = .ok (.iaload, 1) := by decide +kernel
theorem dL_law_297 : decode cL_law 297 = .ok (.invokevirtual 31, 3) := by decide +kernel
theorem dL_law_300 : decode cL_law 300 = .ok (.aload_n 2, 1) := by decide +kernel
theorem dL_law_301 : decode cL_law 301 = .ok (.aload_n 0, 1) := by decide +kernel
theorem dL_law_302 : decode cL_law 302 = .ok (.iload_n 3, 1) := by decide +kernel
theorem dL_law_303 : decode cL_law 303 = .ok (.iconst 1, 1) := by decide +kernel
theorem dL_law_304 : decode cL_law 304 = .ok (.iadd, 1) := by decide +kernel
theorem dL_law_305 : decode cL_law 305 = .ok (.iaload, 1) := by decide +kernel
theorem dL_law_306 : decode cL_law 306 = .ok (.aload_n 0, 1) := by decide +kernel
theorem dL_law_307 : decode cL_law 307 = .ok (.iload_n 3, 1) := by decide +kernel
theorem dL_law_308 : decode cL_law 308 = .ok (.iconst 2, 1) := by decide +kernel
theorem dL_law_309 : decode cL_law 309 = .ok (.iadd, 1) := by decide +kernel
theorem dL_law_310 : decode cL_law 310 = .ok (.iaload, 1) := by decide +kernel
theorem dL_law_311 : decode cL_law 311 = .ok (.invokevirtual 34, 3) := by decide +kernel
theorem dL_law_314 : decode cL_law 314 = .ok (.if_icmp .eq 437, 3) := by decide +kernel
theorem dL_law_317 : decode cL_law 317 = .ok (.iconst 0, 1) := by decide +kernel
theorem dL_law_318 : decode cL_law 318 = .ok (.ireturn, 1) := by decide +kernel
theorem dL_law_319 : decode cL_law 319 = .ok (.aload_n 1, 1) := by decide +kernel
theorem dL_law_320 : decode cL_law 320 = .ok (.aload_n 0, 1) := by decide +kernel
theorem dL_law_321 : decode cL_law 321 = .ok (.iload_n 3, 1) := by decide +kernel
theorem dL_law_322 : decode cL_law 322 = .ok (.iconst 1, 1) := by decide +kernel
theorem dL_law_323 : decode cL_law 323 = .ok (.iadd, 1) := by decide +kernel
theorem dL_law_324 : decode cL_law 324 = .ok (.iaload, 1) := by decide +kernel
theorem dL_law_325 : decode cL_law 325 = .ok (.invokevirtual 35, 3) := by decide +kernel
theorem dL_law_328 : decode cL_law 328 = .ok (.aload_n 2, 1) := by decide +kernel
theorem dL_law_329 : decode cL_law 329 = .ok (.aload_n 0, 1) := by decide +kernel
theorem dL_law_330 : decode cL_law 330 = .ok (.iload_n 3, 1) := by decide +kernel
theorem dL_law_331 : decode cL_law 331 = .ok (.iconst 1, 1) := by decide +kernel
theorem dL_law_332 : decode cL_law 332 = .ok (.iadd, 1) := by decide +kernel
theorem dL_law_333 : decode cL_law 333 = .ok (.iaload, 1) := by decide +kernel
theorem dL_law_334 : decode cL_law 334 = .ok (.invokevirtual 39, 3) := by decide +kernel
theorem dL_law_337 : decode cL_law 337 = .ok (.if_icmp .eq 414, 3) := by decide +kernel
theorem dL_law_340 : decode cL_law 340 = .ok (.iconst 0, 1) := by decide +kernel
theorem dL_law_341 : decode cL_law 341 = .ok (.ireturn, 1) := by decide +kernel
theorem dL_law_342 : decode cL_law 342 = .ok (.aload_n 1, 1) := by decide +kernel
theorem dL_law_343 : decode cL_law 343 = .ok (.aload_n 0, 1) := by decide +kernel
theorem dL_law_344 : decode cL_law 344 = .ok (.iload_n 3, 1) := by decide +kernel
theorem dL_law_345 : decode cL_law 345 = .ok (.iconst 1, 1) := by decide +kernel
theorem dL_law_346 : decode cL_law 346 = .ok (.iadd, 1) := by decide +kernel
theorem dL_law_347 : decode cL_law 347 = .ok (.iaload, 1) := by decide +kernel
theorem dL_law_348 : decode cL_law 348 = .ok (.aload_n 0, 1) := by decide +kernel
theorem dL_law_349 : decode cL_law 349 = .ok (.iload_n 3, 1) := by decide +kernel
theorem dL_law_350 : decode cL_law 350 = .ok (.iconst 2, 1) := by decide +kernel
theorem dL_law_351 : decode cL_law 351 = .ok (.iadd, 1) := by decide +kernel
theorem dL_law_352 : decode cL_law 352 = .ok (.iaload, 1) := by decide +kernel
theorem dL_law_353 : decode cL_law 353 = .ok (.aload_n 0, 1) := by decide +kernel
theorem dL_law_354 : decode cL_law 354 = .ok (.iload_n 3, 1) := by decide +kernel
theorem dL_law_355 : decode cL_law 355 = .ok (.iconst 3, 1) := by decide +kernel
theorem dL_law_356 : decode cL_law 356 = .ok (.iadd, 1) := by decide +kernel
theorem dL_law_357 : decode cL_law 357 = .ok (.iaload, 1) := by decide +kernel
theorem dL_law_358 : decode cL_law 358 = .ok (.aload_n 0, 1) := by decide +kernel
theorem dL_law_359 : decode cL_law 359 = .ok (.iload_n 3, 1) := by decide +kernel
theorem dL_law_360 : decode cL_law 360 = .ok (.iconst 4, 1) := by decide +kernel
theorem dL_law_361 : decode cL_law 361 = .ok (.iadd, 1) := by decide +kernel
theorem dL_law_362 : decode cL_law 362 = .ok (.iaload, 1) := by decide +kernel
theorem dL_law_363 : decode cL_law 363 = .ok (.invokevirtual 40, 3) := by decide +kernel
theorem dL_law_366 : decode cL_law 366 = .ok (.aload_n 2, 1) := by decide +kernel
theorem dL_law_367 : decode cL_law 367 = .ok (.aload_n 0, 1) := by decide +kernel
theorem dL_law_368 : decode cL_law 368 = .ok (.iload_n 3, 1) := by decide +kernel
theorem dL_law_369 : decode cL_law 369 = .ok (.iconst 1, 1) := by decide +kernel
theorem dL_law_370 : decode cL_law 370 = .ok (.iadd, 1) := by decide +kernel
theorem dL_law_371 : decode cL_law 371 = .ok (.iaload, 1) := by decide +kernel
theorem dL_law_372 : decode cL_law 372 = .ok (.aload_n 0, 1) := by decide +kernel
theorem dL_law_373 : decode cL_law 373 = .ok (.iload_n 3, 1) := by decide +kernel
theorem dL_law_374 : decode cL_law 374 = .ok (.iconst 2, 1) := by decide +kernel
theorem dL_law_375 : decode cL_law 375 = .ok (.iadd, 1) := by decide +kernel
theorem dL_law_376 : decode cL_law 376 = .ok (.iaload, 1) := by decide +kernel
theorem dL_law_377 : decode cL_law 377 = .ok (.aload_n 0, 1) := by decide +kernel
theorem dL_law_378 : decode cL_law 378 = .ok (.iload_n 3, 1) := by decide +kernel
theorem dL_law_379 : decode cL_law 379 = .ok (.iconst 3, 1) := by decide +kernel
theorem dL_law_380 : decode cL_law 380 = .ok (.iadd, 1) := by decide +kernel
theorem dL_law_381 : decode cL_law 381 = .ok (.iaload, 1) := by decide +kernel
theorem dL_law_382 : decode cL_law 382 = .ok (.aload_n 0, 1) := by decide +kernel
theorem dL_law_383 : decode cL_law 383 = .ok (.iload_n 3, 1) := by decide +kernel
theorem dL_law_384 : decode cL_law 384 = .ok (.iconst 4, 1) := by decide +kernel
theorem dL_law_385 : decode cL_law 385 = .ok (.iadd, 1) := by decide +kernel
theorem dL_law_386 : decode cL_law 386 = .ok (.iaload, 1) := by decide +kernel
theorem dL_law_387 : decode cL_law 387 = .ok (.invokevirtual 44, 3) := by decide +kernel
theorem dL_law_390 : decode cL_law 390 = .ok (.if_icmp .eq 361, 3) := by decide +kernel
theorem dL_law_393 : decode cL_law 393 = .ok (.iconst 0, 1) := by decide +kernel
theorem dL_law_394 : decode cL_law 394 = .ok (.ireturn, 1) := by decide +kernel
theorem dL_law_395 : decode cL_law 395 = .ok (.aload_n 1, 1) := by decide +kernel
theorem dL_law_396 : decode cL_law 396 = .ok (.aload_n 0, 1) := by decide +kernel
theorem dL_law_397 : decode cL_law 397 = .ok (.iload_n 3, 1) := by decide +kernel
theorem dL_law_398 : decode cL_law 398 = .ok (.iconst 1, 1) := by decide +kernel
theorem dL_law_399 : decode cL_law 399 = .ok (.iadd, 1) := by decide +kernel
theorem dL_law_400 : decode cL_law 400 = .ok (.iaload, 1) := by decide +kernel
theorem dL_law_401 : decode cL_law 401 = .ok (.invokevirtual 45, 3) := by decide +kernel
theorem dL_law_404 : decode cL_law 404 = .ok (.aload_n 2, 1) := by decide +kernel
theorem dL_law_405 : decode cL_law 405 = .ok (.aload_n 0, 1) := by decide +kernel
theorem dL_law_406 : decode cL_law 406 = .ok (.iload_n 3, 1) := by decide +kernel
theorem dL_law_407 : decode cL_law 407 = .ok (.iconst 1, 1) := by decide +kernel
theorem dL_law_408 : decode cL_law 408 = .ok (.iadd, 1) := by decide +kernel
theorem dL_law_409 : decode cL_law 409 = .ok (.iaload, 1) := by decide +kernel
theorem dL_law_410 : decode cL_law 410 = .ok (.invokevirtual 48, 3) := by decide +kernel
theorem dL_law_413 : decode cL_law 413 = .ok (.if_icmp .eq 338, 3) := by decide +kernel
theorem dL_law_416 : decode cL_law 416 = .ok (.iconst 0, 1) := by decide +kernel
theorem dL_law_417 : decode cL_law 417 = .ok (.ireturn, 1) := by decide +kernel
theorem dL_law_418 : decode cL_law 418 = .ok (.aload_n 1, 1) := by decide +kernel
theorem dL_law_419 : decode cL_law 419 = .ok (.aload_n 0, 1) := by decide +kernel
theorem dL_law_420 : decode cL_law 420 = .ok (.iload_n 3, 1) := by decide +kernel
theorem dL_law_421 : decode cL_law 421 = .ok (.iconst 1, 1) := by decide +kernel
theorem dL_law_422 : decode cL_law 422 = .ok (.iadd, 1) := by decide +kernel
theorem dL_law_423 : decode cL_law 423 = .ok (.iaload, 1) := by decide +kernel
theorem dL_law_424 : decode cL_law 424 = .ok (.aload_n 0, 1) := by decide +kernel
theorem dL_law_425 : decode cL_law 425 = .ok (.iload_n 3, 1) := by decide +kernel
theorem dL_law_426 : decode cL_law 426 = .ok (.iconst 2, 1) := by decide +kernel
theorem dL_law_427 : decode cL_law 427 = .ok (.iadd, 1) := by decide +kernel
theorem dL_law_428 : decode cL_law 428 = .ok (.iaload, 1) := by decide +kernel
theorem dL_law_429 : decode cL_law 429 = .ok (.invokevirtual 49, 3) := by decide +kernel
theorem dL_law_432 : decode cL_law 432 = .ok (.aload_n 2, 1) := by decide +kernel
theorem dL_law_433 : decode cL_law 433 = .ok (.aload_n 0, 1) := by decide +kernel
theorem dL_law_434 : decode cL_law 434 = .ok (.iload_n 3, 1) := by decide +kernel
theorem dL_law_435 : decode cL_law 435 = .ok (.iconst 1, 1) := by decide +kernel
theorem dL_law_436 : decode cL_law 436 = .ok (.iadd, 1) := by decide +kernel
theorem dL_law_437 : decode cL_law 437 = .ok (.iaload, 1) := by decide +kernel
theorem dL_law_438 : decode cL_law 438 = .ok (.aload_n 0, 1) := by decide +kernel
theorem dL_law_439 : decode cL_law 439 = .ok (.iload_n 3, 1) := by decide +kernel
theorem dL_law_440 : decode cL_law 440 = .ok (.iconst 2, 1) := by decide +kernel
theorem dL_law_441 : decode cL_law 441 = .ok (.iadd, 1) := by decide +kernel
theorem dL_law_442 : decode cL_law 442 = .ok (.iaload, 1) := by decide +kernel
theorem dL_law_443 : decode cL_law 443 = .ok (.invokevirtual 52, 3) := by decide +kernel
theorem dL_law_446 : decode cL_law 446 = .ok (.if_icmp .eq 305, 3) := by decide +kernel
theorem dL_law_449 : decode cL_law 449 = .ok (.iconst 0, 1) := by decide +kernel
theorem dL_law_450 : decode cL_law 450 = .ok (.ireturn, 1) := by decide +kernel
theorem dL_law_451 : decode cL_law 451 = .ok (.aload_n 1, 1) := by decide +kernel
theorem dL_law_452 : decode cL_law 452 = .ok (.aload_n 0, 1) := by decide +kernel
theorem dL_law_453 : decode cL_law 453 = .ok (.iload_n 3, 1) := by decide +kernel
theorem dL_law_454 : decode cL_law 454 = .ok (.iconst 1, 1) := by decide +kernel
theorem dL_law_455 : decode cL_law 455 = .ok (.iadd, 1) := by decide +kernel
theorem dL_law_456 : decode cL_law 456 = .ok (.iaload, 1) := by decide +kernel
theorem dL_law_457 : decode cL_law 457 = .ok (.aload_n 0, 1) := by decide +kernel
theorem dL_law_458 : decode cL_law 458 = .ok (.iload_n 3, 1) := by decide +kernel
theorem dL_law_459 : decode cL_law 459 = .ok (.iconst 2, 1) := by decide +kernel
theorem dL_law_460 : decode cL_law 460 = .ok (.iadd, 1) := by decide +kernel
theorem dL_law_461 : decode cL_law 461 = .ok (.iaload, 1) := by decide +kernel
theorem dL_law_462 : decode cL_law 462 = .ok (.invokevirtual 53, 3) := by decide +kernel
theorem dL_law_465 : decode cL_law 465 = .ok (.aload_n 2, 1) := by decide +kernel
theorem dL_law_466 : decode cL_law 466 = .ok (.aload_n 0, 1) := by decide +kernel
theorem dL_law_467 : decode cL_law 467 = .ok (.iload_n 3, 1) := by decide +kernel
theorem dL_law_468 : decode cL_law 468 = .ok (.iconst 1, 1) := by decide +kernel
theorem dL_law_469 : decode cL_law 469 = .ok (.iadd, 1) := by decide +kernel
theorem dL_law_470 : decode cL_law 470 = .ok (.iaload, 1) := by decide +kernel
theorem dL_law_471 : decode cL_law 471 = .ok (.aload_n 0, 1) := by decide +kernel
theorem dL_law_472 : decode cL_law 472 = .ok (.iload_n 3, 1) := by decide +kernel
theorem dL_law_473 : decode cL_law 473 = .ok (.iconst 2, 1) := by decide +kernel
theorem dL_law_474 : decode cL_law 474 = .ok (.iadd, 1) := by decide +kernel
theorem dL_law_475 : decode cL_law 475 = .ok (.iaload, 1) := by decide +kernel
theorem dL_law_476 : decode cL_law 476 = .ok (.invokevirtual 56, 3) := by decide +kernel
theorem dL_law_479 : decode cL_law 479 = .ok (.if_icmp .eq 272, 3) := by decide +kernel
theorem dL_law_482 : decode cL_law 482 = .ok (.iconst 0, 1) := by decide +kernel
theorem dL_law_483 : decode cL_law 483 = .ok (.ireturn, 1) := by decide +kernel
theorem dL_law_484 : decode cL_law 484 = .ok (.aload_n 1, 1) := by decide +kernel
theorem dL_law_485 : decode cL_law 485 = .ok (.aload_n 0, 1) := by decide +kernel
theorem dL_law_486 : decode cL_law 486 = .ok (.iload_n 3, 1) := by decide +kernel
theorem dL_law_487 : decode cL_law 487 = .ok (.iconst 1, 1) := by decide +kernel
theorem dL_law_488 : decode cL_law 488 = .ok (.iadd, 1) := by decide +kernel
theorem dL_law_489 : decode cL_law 489 = .ok (.iaload, 1) := by decide +kernel
theorem dL_law_490 : decode cL_law 490 = .ok (.aload_n 0, 1) := by decide +kernel
theorem dL_law_491 : decode cL_law 491 = .ok (.iload_n 3, 1) := by decide +kernel
theorem dL_law_492 : decode cL_law 492 = .ok (.iconst 2, 1) := by decide +kernel
theorem dL_law_493 : decode cL_law 493 = .ok (.iadd, 1) := by decide +kernel
theorem dL_law_494 : decode cL_law 494 = .ok (.iaload, 1) := by decide +kernel
theorem dL_law_495 : decode cL_law 495 = .ok (.invokevirtual 57, 3) := by decide +kernel
theorem dL_law_498 : decode cL_law 498 = .ok (.aload_n 2, 1) := by decide +kernel
theorem dL_law_499 : decode cL_law 499 = .ok (.aload_n 0, 1) := by decide +kernel
theorem dL_law_500 : decode cL_law 500 = .ok (.iload_n 3, 1) := by decide +kernel
theorem dL_law_501 : decode cL_law 501 = .ok (.iconst 1, 1) := by decide +kernel
theorem dL_law_502 : decode cL_law 502 = .ok (.iadd, 1) := by decide +kernel
theorem dL_law_503 : decode cL_law 503 = .ok (.iaload, 1) := by decide +kernel
theorem dL_law_504 : decode cL_law 504 = .ok (.aload_n 0, 1) := by decide +kernel
theorem dL_law_505 : decode cL_law 505 = .ok (.iload_n 3, 1) := by decide +kernel
theorem dL_law_506 : decode cL_law 506 = .ok (.iconst 2, 1) := by decide +kernel
theorem dL_law_507 : decode cL_law 507 = .ok (.iadd, 1) := by decide +kernel
theorem dL_law_508 : decode cL_law 508 = .ok (.iaload, 1) := by decide +kernel
theorem dL_law_509 : decode cL_law 509 = .ok (.invokevirtual 60, 3) := by decide +kernel
theorem dL_law_512 : decode cL_law 512 = .ok (.if_icmp .eq 239, 3) := by decide +kernel
theorem dL_law_515 : decode cL_law 515 = .ok (.iconst 0, 1) := by decide +kernel
theorem dL_law_516 : decode cL_law 516 = .ok (.ireturn, 1) := by decide +kernel
theorem dL_law_517 : decode cL_law 517 = .ok (.aload_n 1, 1) := by decide +kernel
theorem dL_law_518 : decode cL_law 518 = .ok (.aload_n 0, 1) := by decide +kernel
theorem dL_law_519 : decode cL_law 519 = .ok (.iload_n 3, 1) := by decide +kernel
theorem dL_law_520 : decode cL_law 520 = .ok (.iconst 1, 1) := by decide +kernel
theorem dL_law_521 : decode cL_law 521 = .ok (.iadd, 1) := by decide +kernel
theorem dL_law_522 : decode cL_law 522 = .ok (.iaload, 1) := by decide +kernel
theorem dL_law_523 : decode cL_law 523 = .ok (.aload_n 0, 1) := by decide +kernel
theorem dL_law_524 : decode cL_law 524 = .ok (.iload_n 3, 1) := by decide +kernel
theorem dL_law_525 : decode cL_law 525 = .ok (.iconst 2, 1) := by decide +kernel
theorem dL_law_526 : decode cL_law 526 = .ok (.iadd, 1) := by decide +kernel
theorem dL_law_527 : decode cL_law 527 = .ok (.iaload, 1) := by decide +kernel
theorem dL_law_528 : decode cL_law 528 = .ok (.aload_n 0, 1) := by decide +kernel
theorem dL_law_529 : decode cL_law 529 = .ok (.iload_n 3, 1) := by decide +kernel
theorem dL_law_530 : decode cL_law 530 = .ok (.iconst 3, 1) := by decide +kernel
theorem dL_law_531 : decode cL_law 531 = .ok (.iadd, 1) := by decide +kernel
theorem dL_law_532 : decode cL_law 532 = .ok (.iaload, 1) := by decide +kernel
theorem dL_law_533 : decode cL_law 533 = .ok (.invokevirtual 61, 3) := by decide +kernel
theorem dL_law_536 : decode cL_law 536 = .ok (.aload_n 2, 1) := by decide +kernel
theorem dL_law_537 : decode cL_law 537 = .ok (.aload_n 0, 1) := by decide +kernel
theorem dL_law_538 : decode cL_law 538 = .ok (.iload_n 3, 1) := by decide +kernel
theorem dL_law_539 : decode cL_law 539 = .ok (.iconst 1, 1) := by decide +kernel
theorem dL_law_540 : decode cL_law 540 = .ok (.iadd, 1) := by decide +kernel
theorem dL_law_541 : decode cL_law 541 = .ok (.iaload, 1) := by decide +kernel
theorem dL_law_542 : decode cL_law 542 = .ok (.aload_n 0, 1) := by decide +kernel
theorem dL_law_543 : decode cL_law 543 = .ok (.iload_n 3, 1) := by decide +kernel
theorem dL_law_544 : decode cL_law 544 = .ok (.iconst 2, 1) := by decide +kernel
theorem dL_law_545 : decode cL_law 545 = .ok (.iadd, 1) := by decide +kernel
theorem dL_law_546 : decode cL_law 546 = .ok (.iaload, 1) := by decide +kernel
theorem dL_law_547 : decode cL_law 547 = .ok (.aload_n 0, 1) := by decide +kernel
theorem dL_law_548 : decode cL_law 548 = .ok (.iload_n 3, 1) := by decide +kernel
theorem dL_law_549 : decode cL_law 549 = .ok (.iconst 3, 1) := by decide +kernel
theorem dL_law_550 : decode cL_law 550 = .ok (.iadd, 1) := by decide +kernel
theorem dL_law_551 : decode cL_law 551 = .ok (.iaload, 1) := by decide +kernel
theorem dL_law_552 : decode cL_law 552 = .ok (.invokevirtual 64, 3) := by decide +kernel
theorem dL_law_555 : decode cL_law 555 = .ok (.if_icmp .eq 196, 3) := by decide +kernel
theorem dL_law_558 : decode cL_law 558 = .ok (.iconst 0, 1) := by decide +kernel
theorem dL_law_559 : decode cL_law 559 = .ok (.ireturn, 1) := by decide +kernel
theorem dL_law_560 : decode cL_law 560 = .ok (.aload_n 1, 1) := by decide +kernel
theorem dL_law_561 : decode cL_law 561 = .ok (.aload_n 0, 1) := by decide +kernel
theorem dL_law_562 : decode cL_law 562 = .ok (.iload_n 3, 1) := by decide +kernel
theorem dL_law_563 : decode cL_law 563 = .ok (.iconst 1, 1) := by decide +kernel
theorem dL_law_564 : decode cL_law 564 = .ok (.iadd, 1) := by decide +kernel
theorem dL_law_565 : decode cL_law 565 = .ok (.iaload, 1) := by decide +kernel
theorem dL_law_566 : decode cL_law 566 = .ok (.aload_n 0, 1) := by decide +kernel
theorem dL_law_567 : decode cL_law 567 = .ok (.iload_n 3, 1) := by decide +kernel
theorem dL_law_568 : decode cL_law 568 = .ok (.iconst 2, 1) := by decide +kernel
theorem dL_law_569 : decode cL_law 569 = .ok (.iadd, 1) := by decide +kernel
theorem dL_law_570 : decode cL_law 570 = .ok (.iaload, 1) := by decide +kernel
theorem dL_law_571 : decode cL_law 571 = .ok (.invokevirtual 65, 3) := by decide +kernel
theorem dL_law_574 : decode cL_law 574 = .ok (.aload_n 2, 1) := by decide +kernel
theorem dL_law_575 : decode cL_law 575 = .ok (.aload_n 0, 1) := by decide +kernel
theorem dL_law_576 : decode cL_law 576 = .ok (.iload_n 3, 1) := by decide +kernel
theorem dL_law_577 : decode cL_law 577 = .ok (.iconst 1, 1) := by decide +kernel
theorem dL_law_578 : decode cL_law 578 = .ok (.iadd, 1) := by decide +kernel
theorem dL_law_579 : decode cL_law 579 = .ok (.iaload, 1) := by decide +kernel
theorem dL_law_580 : decode cL_law 580 = .ok (.aload_n 0, 1) := by decide +kernel
theorem dL_law_581 : decode cL_law 581 = .ok (.iload_n 3, 1) := by decide +kernel
theorem dL_law_582 : decode cL_law 582 = .ok (.iconst 2, 1) := by decide +kernel
theorem dL_law_583 : decode cL_law 583 = .ok (.iadd, 1) := by decide +kernel
theorem dL_law_584 : decode cL_law 584 = .ok (.iaload, 1) := by decide +kernel
theorem dL_law_585 : decode cL_law 585 = .ok (.invokevirtual 68, 3) := by decide +kernel
theorem dL_law_588 : decode cL_law 588 = .ok (.if_icmp .eq 163, 3) := by decide +kernel
theorem dL_law_591 : decode cL_law 591 = .ok (.iconst 0, 1) := by decide +kernel
theorem dL_law_592 : decode cL_law 592 = .ok (.ireturn, 1) := by decide +kernel
theorem dL_law_593 : decode cL_law 593 = .ok (.aload_n 1, 1) := by decide +kernel
theorem dL_law_594 : decode cL_law 594 = .ok (.aload_n 0, 1) := by decide +kernel
theorem dL_law_595 : decode cL_law 595 = .ok (.iload_n 3, 1) := by decide +kernel
theorem dL_law_596 : decode cL_law 596 = .ok (.iconst 1, 1) := by decide +kernel
theorem dL_law_597 : decode cL_law 597 = .ok (.iadd, 1) := by decide +kernel
theorem dL_law_598 : decode cL_law 598 = .ok (.iaload, 1) := by decide +kernel
theorem dL_law_599 : decode cL_law 599 = .ok (.aload_n 0, 1) := by decide +kernel
theorem dL_law_600 : decode cL_law 600 = .ok (.iload_n 3, 1) := by decide +kernel
theorem dL_law_601 : decode cL_law 601 = .ok (.iconst 2, 1) := by decide +kernel
theorem dL_law_602 : decode cL_law 602 = .ok (.iadd, 1) := by decide +kernel
theorem dL_law_603 : decode cL_law 603 = .ok (.iaload, 1) := by decide +kernel
theorem dL_law_604 : decode cL_law 604 = .ok (.invokevirtual 69, 3) := by decide +kernel
theorem dL_law_607 : decode cL_law 607 = .ok (.aload_n 2, 1) := by decide +kernel
theorem dL_law_608 : decode cL_law 608 = .ok (.aload_n 0, 1) := by decide +kernel
theorem dL_law_609 : decode cL_law 609 = .ok (.iload_n 3, 1) := by decide +kernel
theorem dL_law_610 : decode cL_law 610 = .ok (.iconst 1, 1) := by decide +kernel
theorem dL_law_611 : decode cL_law 611 = .ok (.iadd, 1) := by decide +kernel
theorem dL_law_612 : decode cL_law 612 = .ok (.iaload, 1) := by decide +kernel
theorem dL_law_613 : decode cL_law 613 = .ok (.aload_n 0, 1) := by decide +kernel
theorem dL_law_614 : decode cL_law 614 = .ok (.iload_n 3, 1) := by decide +kernel
theorem dL_law_615 : decode cL_law 615 = .ok (.iconst 2, 1) := by decide +kernel
theorem dL_law_616 : decode cL_law 616 = .ok (.iadd, 1) := by decide +kernel
theorem dL_law_617 : decode cL_law 617 = .ok (.iaload, 1) := by decide +kernel
theorem dL_law_618 : decode cL_law 618 = .ok (.invokevirtual 72, 3) := by decide +kernel
theorem dL_law_621 : decode cL_law 621 = .ok (.if_icmp .eq 130, 3) := by decide +kernel
theorem dL_law_624 : decode cL_law 624 = .ok (.iconst 0, 1) := by decide +kernel
theorem dL_law_625 : decode cL_law 625 = .ok (.ireturn, 1) := by decide +kernel
theorem dL_law_626 : decode cL_law 626 = .ok (.aload_n 1, 1) := by decide +kernel
theorem dL_law_627 : decode cL_law 627 = .ok (.aload_n 0, 1) := by decide +kernel
theorem dL_law_628 : decode cL_law 628 = .ok (.iload_n 3, 1) := by decide +kernel
theorem dL_law_629 : decode cL_law 629 = .ok (.iconst 1, 1) := by decide +kernel
theorem dL_law_630 : decode cL_law 630 = .ok (.iadd, 1) := by decide +kernel
theorem dL_law_631 : decode cL_law 631 = .ok (.iaload, 1) := by decide +kernel
theorem dL_law_632 : decode cL_law 632 = .ok (.invokevirtual 73, 3) := by decide +kernel
theorem dL_law_635 : decode cL_law 635 = .ok (.aload_n 2, 1) := by decide +kernel
theorem dL_law_636 : decode cL_law 636 = .ok (.aload_n 0, 1) := by decide +kernel
theorem dL_law_637 : decode cL_law 637 = .ok (.iload_n 3, 1) := by decide +kernel
theorem dL_law_638 : decode cL_law 638 = .ok (.iconst 1, 1) := by decide +kernel
theorem dL_law_639 : decode cL_law 639 = .ok (.iadd, 1) := by decide +kernel
theorem dL_law_640 : decode cL_law 640 = .ok (.iaload, 1) := by decide +kernel
theorem dL_law_641 : decode cL_law 641 = .ok (.invokevirtual 76, 3) := by decide +kernel
theorem dL_law_644 : decode cL_law 644 = .ok (.if_icmp .eq 107, 3) := by decide +kernel
theorem dL_law_647 : decode cL_law 647 = .ok (.iconst 0, 1) := by decide +kernel
theorem dL_law_648 : decode cL_law 648 = .ok (.ireturn, 1) := by decide +kernel
theorem dL_law_649 : decode cL_law 649 = .ok (.aload_n 1, 1) := by decide +kernel
theorem dL_law_650 : decode cL_law 650 = .ok (.aload_n 0, 1) := by decide +kernel
theorem dL_law_651 : decode cL_law 651 = .ok (.iload_n 3, 1) := by decide +kernel
theorem dL_law_652 : decode cL_law 652 = .ok (.iconst 1, 1) := by decide +kernel
theorem dL_law_653 : decode cL_law 653 = .ok (.iadd, 1) := by decide +kernel
theorem dL_law_654 : decode cL_law 654 = .ok (.iaload, 1) := by decide +kernel
theorem dL_law_655 : decode cL_law 655 = .ok (.aload_n 0, 1) := by decide +kernel
theorem dL_law_656 : decode cL_law 656 = .ok (.iload_n 3, 1) := by decide +kernel
theorem dL_law_657 : decode cL_law 657 = .ok (.iconst 2, 1) := by decide +kernel
theorem dL_law_658 : decode cL_law 658 = .ok (.iadd, 1) := by decide +kernel
theorem dL_law_659 : decode cL_law 659 = .ok (.iaload, 1) := by decide +kernel
theorem dL_law_660 : decode cL_law 660 = .ok (.invokevirtual 77, 3) := by decide +kernel
theorem dL_law_663 : decode cL_law 663 = .ok (.aload_n 2, 1) := by decide +kernel
theorem dL_law_664 : decode cL_law 664 = .ok (.aload_n 0, 1) := by decide +kernel
theorem dL_law_665 : decode cL_law 665 = .ok (.iload_n 3, 1) := by decide +kernel
theorem dL_law_666 : decode cL_law 666 = .ok (.iconst 1, 1) := by decide +kernel
theorem dL_law_667 : decode cL_law 667 = .ok (.iadd, 1) := by decide +kernel
theorem dL_law_668 : decode cL_law 668 = .ok (.iaload, 1) := by decide +kernel
