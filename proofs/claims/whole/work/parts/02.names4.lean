theorem dX8_loading_55 : decode cX8_loading 55 = .ok (.istore 4, 2) := by decide +kernel
theorem dX8_loading_57 : decode cX8_loading 57 = .ok (.iconst 0, 1) := by decide +kernel
theorem dX8_loading_58 : decode cX8_loading 58 = .ok (.istore 5, 2) := by decide +kernel
theorem dX8_loading_60 : decode cX8_loading 60 = .ok (.iload 5, 2) := by decide +kernel
theorem dX8_loading_62 : decode cX8_loading 62 = .ok (.iload_n 2, 1) := by decide +kernel
theorem dX8_loading_63 : decode cX8_loading 63 = .ok (.if_icmp .gt 48, 3) := by decide +kernel
theorem dX8_loading_66 : decode cX8_loading 66 = .ok (.iconst 0, 1) := by decide +kernel
theorem dX8_loading_67 : decode cX8_loading 67 = .ok (.istore 4, 2) := by decide +kernel
theorem dX8_loading_69 : decode cX8_loading 69 = .ok (.iload_n 3, 1) := by decide +kernel
theorem dX8_loading_70 : decode cX8_loading 70 = .ok (.iload 4, 2) := by decide +kernel
theorem dX8_loading_72 : decode cX8_loading 72 = .ok (.invokestatic 80, 3) := by decide +kernel
theorem dX8_loading_75 : decode cX8_loading 75 = .ok (.ifCond .ne 17, 3) := by decide +kernel
theorem dX8_loading_78 : decode cX8_loading 78 = .ok (.aload_n 0, 1) := by decide +kernel
theorem dX8_loading_79 : decode cX8_loading 79 = .ok (.getfield 20, 3) := by decide +kernel
theorem dX8_loading_82 : decode cX8_loading 82 = .ok (.iload_n 3, 1) := by decide +kernel
theorem dX8_loading_83 : decode cX8_loading 83 = .ok (.iconst 1, 1) := by decide +kernel
theorem dX8_loading_84 : decode cX8_loading 84 = .ok (.iload 4, 2) := by decide +kernel
theorem dX8_loading_86 : decode cX8_loading 86 = .ok (.ishl, 1) := by decide +kernel
theorem dX8_loading_87 : decode cX8_loading 87 = .ok (.ior, 1) := by decide +kernel
theorem dX8_loading_88 : decode cX8_loading 88 = .ok (.iaload, 1) := by decide +kernel
theorem dX8_loading_89 : decode cX8_loading 89 = .ok (.ifCond .ne 9, 3) := by decide +kernel
theorem dX8_loading_92 : decode cX8_loading 92 = .ok (.iinc 4 1, 3) := by decide +kernel
theorem dX8_loading_95 : decode cX8_loading 95 = .ok (.goto (-26), 3) := by decide +kernel
theorem dX8_loading_98 : decode cX8_loading 98 = .ok (.iload_n 3, 1) := by decide +kernel
theorem dX8_loading_99 : decode cX8_loading 99 = .ok (.iconst 1, 1) := by decide +kernel
theorem dX8_loading_100 : decode cX8_loading 100 = .ok (.iload 4, 2) := by decide +kernel
theorem dX8_loading_102 : decode cX8_loading 102 = .ok (.ishl, 1) := by decide +kernel
theorem dX8_loading_103 : decode cX8_loading 103 = .ok (.ior, 1) := by decide +kernel
theorem dX8_loading_104 : decode cX8_loading 104 = .ok (.istore_n 3, 1) := by decide +kernel
theorem dX8_loading_105 : decode cX8_loading 105 = .ok (.iinc 5 1, 3) := by decide +kernel
theorem dX8_loading_108 : decode cX8_loading 108 = .ok (.goto (-48), 3) := by decide +kernel
theorem dX8_loading_111 : decode cX8_loading 111 = .ok (.iload 4, 2) := by decide +kernel
theorem dX8_loading_113 : decode cX8_loading 113 = .ok (.aload_n 0, 1) := by decide +kernel
theorem dX8_loading_114 : decode cX8_loading 114 = .ok (.iload_n 1, 1) := by decide +kernel
theorem dX8_loading_115 : decode cX8_loading 115 = .ok (.iconst 0, 1) := by decide +kernel
theorem dX8_loading_116 : decode cX8_loading 116 = .ok (.invokevirtual 48, 3) := by decide +kernel
theorem dX8_loading_119 : decode cX8_loading 119 = .ok (.if_icmp .ge 8, 3) := by decide +kernel
theorem dX8_loading_122 : decode cX8_loading 122 = .ok (.iload 4, 2) := by decide +kernel
theorem dX8_loading_124 : decode cX8_loading 124 = .ok (.goto 15, 3) := by decide +kernel
theorem dX8_loading_127 : decode cX8_loading 127 = .ok (.bipush 10, 2) := by decide +kernel
theorem dX8_loading_129 : decode cX8_loading 129 = .ok (.iload 4, 2) := by decide +kernel
theorem dX8_loading_131 : decode cX8_loading 131 = .ok (.iadd, 1) := by decide +kernel
theorem dX8_loading_132 : decode cX8_loading 132 = .ok (.aload_n 0, 1) := by decide +kernel
theorem dX8_loading_133 : decode cX8_loading 133 = .ok (.iload_n 1, 1) := by decide +kernel
theorem dX8_loading_134 : decode cX8_loading 134 = .ok (.iconst 0, 1) := by decide +kernel
theorem dX8_loading_135 : decode cX8_loading 135 = .ok (.invokevirtual 48, 3) := by decide +kernel
theorem dX8_loading_138 : decode cX8_loading 138 = .ok (.isub, 1) := by decide +kernel
theorem dX8_loading_139 : decode cX8_loading 139 = .ok (.ireturn, 1) := by decide +kernel
set_option maxRecDepth 20000 in
theorem ggX8_loadings_X8_isBar : GoodIn wsX8_loadings wsX8_isBar := goodIn_r _ [5, 6, 7, 4, 8] (by decide +kernel) (by decide +kernel)
set_option maxRecDepth 20000 in
theorem gX8_loadings_X8_isBar : GoodIn wsX8_loadings (va_wsS RX8 63 yX8_isBar wsX8_isBar) := goodIn_app (goodIn_of _ (by decide +kernel)) ggX8_loadings_X8_isBar
set_option maxRecDepth 20000 in
theorem ggX8_loadings_X8_layWays : GoodIn wsX8_loadings wsX8_layWays := goodIn_r _ [12, 13, 1, 14, 15, 16, 17, 4, 18, 19, 20, 21, 22, 23, 24, 25, 26, 27, 28, 29, 30, 31, 32, 33, 34, 35, 36, 37, 38, 39, 40, 41, 42, 43, 44, 45] (by decide +kernel) (by decide +kernel)
set_option maxRecDepth 20000 in
theorem gX8_loadings_X8_layWays : GoodIn wsX8_loadings (wsV RX8 87 RX8 yX8_layWays wsX8_layWays) := goodIn_app (goodIn_of _ (by decide +kernel)) ggX8_loadings_X8_layWays
theorem dX8_loadings_0 : decode cX8_loadings 0 = .ok (.iload_n 1, 1) := by decide +kernel
theorem dX8_loadings_1 : decode cX8_loadings 1 = .ok (.invokestatic 63, 3) := by decide +kernel
theorem dX8_loadings_4 : decode cX8_loadings 4 = .ok (.ifCond .ne 5, 3) := by decide +kernel
theorem dX8_loadings_7 : decode cX8_loadings 7 = .ok (.iconst (-1), 1) := by decide +kernel
theorem dX8_loadings_8 : decode cX8_loadings 8 = .ok (.ireturn, 1) := by decide +kernel
theorem dX8_loadings_9 : decode cX8_loadings 9 = .ok (.aload_n 0, 1) := by decide +kernel
theorem dX8_loadings_10 : decode cX8_loadings 10 = .ok (.iload_n 1, 1) := by decide +kernel
theorem dX8_loadings_11 : decode cX8_loadings 11 = .ok (.invokevirtual 87, 3) := by decide +kernel
theorem dX8_loadings_14 : decode cX8_loadings 14 = .ok (.aload_n 0, 1) := by decide +kernel
theorem dX8_loadings_15 : decode cX8_loadings 15 = .ok (.getfield 20, 3) := by decide +kernel
theorem dX8_loadings_18 : decode cX8_loadings 18 = .ok (.iconst 0, 1) := by decide +kernel
theorem dX8_loadings_19 : decode cX8_loadings 19 = .ok (.iaload, 1) := by decide +kernel
theorem dX8_loadings_20 : decode cX8_loadings 20 = .ok (.ireturn, 1) := by decide +kernel
theorem dX8_moveAt_0 : decode cX8_moveAt 0 = .ok (.bipush (-6), 2) := by decide +kernel
theorem dX8_moveAt_2 : decode cX8_moveAt 2 = .ok (.istore_n 3, 1) := by decide +kernel
theorem dX8_moveAt_3 : decode cX8_moveAt 3 = .ok (.iconst 0, 1) := by decide +kernel
theorem dX8_moveAt_4 : decode cX8_moveAt 4 = .ok (.istore 4, 2) := by decide +kernel
theorem dX8_moveAt_6 : decode cX8_moveAt 6 = .ok (.iload 4, 2) := by decide +kernel
theorem dX8_moveAt_8 : decode cX8_moveAt 8 = .ok (.aload_n 0, 1) := by decide +kernel
theorem dX8_moveAt_9 : decode cX8_moveAt 9 = .ok (.getfield 7, 3) := by decide +kernel
theorem dX8_moveAt_12 : decode cX8_moveAt 12 = .ok (.sipush 211, 3) := by decide +kernel
theorem dX8_moveAt_15 : decode cX8_moveAt 15 = .ok (.iaload, 1) := by decide +kernel
theorem dX8_moveAt_16 : decode cX8_moveAt 16 = .ok (.if_icmp .ge 46, 3) := by decide +kernel
theorem dX8_moveAt_19 : decode cX8_moveAt 19 = .ok (.aload_n 0, 1) := by decide +kernel
theorem dX8_moveAt_20 : decode cX8_moveAt 20 = .ok (.getfield 7, 3) := by decide +kernel
theorem dX8_moveAt_23 : decode cX8_moveAt 23 = .ok (.sipush 171, 3) := by decide +kernel
theorem dX8_moveAt_26 : decode cX8_moveAt 26 = .ok (.iload 4, 2) := by decide +kernel
theorem dX8_moveAt_28 : decode cX8_moveAt 28 = .ok (.iadd, 1) := by decide +kernel
theorem dX8_moveAt_29 : decode cX8_moveAt 29 = .ok (.iaload, 1) := by decide +kernel
theorem dX8_moveAt_30 : decode cX8_moveAt 30 = .ok (.iload_n 1, 1) := by decide +kernel
theorem dX8_moveAt_31 : decode cX8_moveAt 31 = .ok (.if_icmp .ne 23, 3) := by decide +kernel
theorem dX8_moveAt_34 : decode cX8_moveAt 34 = .ok (.aload_n 0, 1) := by decide +kernel
theorem dX8_moveAt_35 : decode cX8_moveAt 35 = .ok (.getfield 7, 3) := by decide +kernel
theorem dX8_moveAt_38 : decode cX8_moveAt 38 = .ok (.sipush 181, 3) := by decide +kernel
theorem dX8_moveAt_41 : decode cX8_moveAt 41 = .ok (.iload 4, 2) := by decide +kernel
theorem dX8_moveAt_43 : decode cX8_moveAt 43 = .ok (.iadd, 1) := by decide +kernel
theorem dX8_moveAt_44 : decode cX8_moveAt 44 = .ok (.iaload, 1) := by decide +kernel
theorem dX8_moveAt_45 : decode cX8_moveAt 45 = .ok (.iload_n 2, 1) := by decide +kernel
theorem dX8_moveAt_46 : decode cX8_moveAt 46 = .ok (.if_icmp .ne 8, 3) := by decide +kernel
theorem dX8_moveAt_49 : decode cX8_moveAt 49 = .ok (.iload 4, 2) := by decide +kernel
theorem dX8_moveAt_51 : decode cX8_moveAt 51 = .ok (.goto 4, 3) := by decide +kernel
theorem dX8_moveAt_54 : decode cX8_moveAt 54 = .ok (.iload_n 3, 1) := by decide +kernel
theorem dX8_moveAt_55 : decode cX8_moveAt 55 = .ok (.istore_n 3, 1) := by decide +kernel
theorem dX8_moveAt_56 : decode cX8_moveAt 56 = .ok (.iinc 4 1, 3) := by decide +kernel
theorem dX8_moveAt_59 : decode cX8_moveAt 59 = .ok (.goto (-53), 3) := by decide +kernel
theorem dX8_moveAt_62 : decode cX8_moveAt 62 = .ok (.iload_n 3, 1) := by decide +kernel
theorem dX8_moveAt_63 : decode cX8_moveAt 63 = .ok (.ireturn, 1) := by decide +kernel
set_option maxRecDepth 20000 in
theorem ggX8_move_X8_isBar : GoodIn wsX8_move wsX8_isBar := goodIn_r _ [5, 6, 7, 4, 8] (by decide +kernel) (by decide +kernel)
set_option maxRecDepth 20000 in
theorem gX8_move_X8_isBar : GoodIn wsX8_move (va_wsS RX8 63 yX8_isBar wsX8_isBar) := goodIn_app (goodIn_of _ (by decide +kernel)) ggX8_move_X8_isBar
set_option maxRecDepth 20000 in
theorem ggX8_move_X8_in : GoodIn wsX8_move wsX8_in := goodIn_r _ [8] (by decide +kernel) (by decide +kernel)
set_option maxRecDepth 20000 in
theorem gX8_move_X8_in : GoodIn wsX8_move (va_wsS RX8 44 yX8_in wsX8_in) := goodIn_app (goodIn_of _ (by decide +kernel)) ggX8_move_X8_in
set_option maxRecDepth 20000 in
theorem ggX8_move_X8_moveAt : GoodIn wsX8_move wsX8_moveAt := goodIn_r _ [12, 1, 13, 14, 15, 16, 17, 18, 19, 20, 21, 22, 23, 24, 25] (by decide +kernel) (by decide +kernel)
set_option maxRecDepth 20000 in
theorem gX8_move_X8_moveAt : GoodIn wsX8_move (wsV RX8 91 RX8 yX8_moveAt wsX8_moveAt) := goodIn_app (goodIn_of _ (by decide +kernel)) ggX8_move_X8_moveAt
theorem dX8_move_0 : decode cX8_move 0 = .ok (.iload_n 1, 1) := by decide +kernel
theorem dX8_move_1 : decode cX8_move 1 = .ok (.invokestatic 63, 3) := by decide +kernel
theorem dX8_move_4 : decode cX8_move 4 = .ok (.ifCond .ne 5, 3) := by decide +kernel
theorem dX8_move_7 : decode cX8_move 7 = .ok (.iconst (-1), 1) := by decide +kernel
theorem dX8_move_8 : decode cX8_move 8 = .ok (.ireturn, 1) := by decide +kernel
theorem dX8_move_9 : decode cX8_move 9 = .ok (.iload_n 2, 1) := by decide +kernel
theorem dX8_move_10 : decode cX8_move 10 = .ok (.iconst 0, 1) := by decide +kernel
theorem dX8_move_11 : decode cX8_move 11 = .ok (.sipush 200, 3) := by decide +kernel
theorem dX8_move_14 : decode cX8_move 14 = .ok (.invokestatic 44, 3) := by decide +kernel
theorem dX8_move_17 : decode cX8_move 17 = .ok (.ifCond .eq 23, 3) := by decide +kernel
theorem dX8_move_20 : decode cX8_move 20 = .ok (.iload_n 3, 1) := by decide +kernel
theorem dX8_move_21 : decode cX8_move 21 = .ok (.iconst 0, 1) := by decide +kernel
theorem dX8_move_22 : decode cX8_move 22 = .ok (.bipush 60, 2) := by decide +kernel
theorem dX8_move_24 : decode cX8_move 24 = .ok (.invokestatic 44, 3) := by decide +kernel
theorem dX8_move_27 : decode cX8_move 27 = .ok (.ifCond .eq 13, 3) := by decide +kernel
theorem dX8_move_30 : decode cX8_move 30 = .ok (.iload 4, 2) := by decide +kernel
theorem dX8_move_32 : decode cX8_move 32 = .ok (.iconst 1, 1) := by decide +kernel
theorem dX8_move_33 : decode cX8_move 33 = .ok (.iconst 5, 1) := by decide +kernel
theorem dX8_move_34 : decode cX8_move 34 = .ok (.invokestatic 44, 3) := by decide +kernel
theorem dX8_move_37 : decode cX8_move 37 = .ok (.ifCond .ne 6, 3) := by decide +kernel
theorem dX8_move_40 : decode cX8_move 40 = .ok (.bipush (-2), 2) := by decide +kernel
theorem dX8_move_42 : decode cX8_move 42 = .ok (.ireturn, 1) := by decide +kernel
theorem dX8_move_43 : decode cX8_move 43 = .ok (.aload_n 0, 1) := by decide +kernel
theorem dX8_move_44 : decode cX8_move 44 = .ok (.iload_n 1, 1) := by decide +kernel
theorem dX8_move_45 : decode cX8_move 45 = .ok (.iload_n 2, 1) := by decide +kernel
theorem dX8_move_46 : decode cX8_move 46 = .ok (.invokevirtual 91, 3) := by decide +kernel
theorem dX8_move_49 : decode cX8_move 49 = .ok (.ifCond .lt 6, 3) := by decide +kernel
theorem dX8_move_52 : decode cX8_move 52 = .ok (.bipush (-5), 2) := by decide +kernel
theorem dX8_move_54 : decode cX8_move 54 = .ok (.ireturn, 1) := by decide +kernel
theorem dX8_move_55 : decode cX8_move 55 = .ok (.aload_n 0, 1) := by decide +kernel
theorem dX8_move_56 : decode cX8_move 56 = .ok (.getfield 7, 3) := by decide +kernel
theorem dX8_move_59 : decode cX8_move 59 = .ok (.sipush 211, 3) := by decide +kernel
theorem dX8_move_62 : decode cX8_move 62 = .ok (.iaload, 1) := by decide +kernel
theorem dX8_move_63 : decode cX8_move 63 = .ok (.istore 5, 2) := by decide +kernel
theorem dX8_move_65 : decode cX8_move 65 = .ok (.iload 5, 2) := by decide +kernel
theorem dX8_move_67 : decode cX8_move 67 = .ok (.bipush 10, 2) := by decide +kernel
theorem dX8_move_69 : decode cX8_move 69 = .ok (.if_icmp .ne 6, 3) := by decide +kernel
theorem dX8_move_72 : decode cX8_move 72 = .ok (.bipush (-4), 2) := by decide +kernel
theorem dX8_move_74 : decode cX8_move 74 = .ok (.ireturn, 1) := by decide +kernel
theorem dX8_move_75 : decode cX8_move 75 = .ok (.aload_n 0, 1) := by decide +kernel
theorem dX8_move_76 : decode cX8_move 76 = .ok (.getfield 7, 3) := by decide +kernel
theorem dX8_move_79 : decode cX8_move 79 = .ok (.sipush 171, 3) := by decide +kernel
theorem dX8_move_82 : decode cX8_move 82 = .ok (.iload 5, 2) := by decide +kernel
theorem dX8_move_84 : decode cX8_move 84 = .ok (.iadd, 1) := by decide +kernel
theorem dX8_move_85 : decode cX8_move 85 = .ok (.iload_n 1, 1) := by decide +kernel
theorem dX8_move_86 : decode cX8_move 86 = .ok (.iastore, 1) := by decide +kernel
theorem dX8_move_87 : decode cX8_move 87 = .ok (.aload_n 0, 1) := by decide +kernel
theorem dX8_move_88 : decode cX8_move 88 = .ok (.getfield 7, 3) := by decide +kernel
theorem dX8_move_91 : decode cX8_move 91 = .ok (.sipush 181, 3) := by decide +kernel
theorem dX8_move_94 : decode cX8_move 94 = .ok (.iload 5, 2) := by decide +kernel
theorem dX8_move_96 : decode cX8_move 96 = .ok (.iadd, 1) := by decide +kernel
theorem dX8_move_97 : decode cX8_move 97 = .ok (.iload_n 2, 1) := by decide +kernel
theorem dX8_move_98 : decode cX8_move 98 = .ok (.iastore, 1) := by decide +kernel
theorem dX8_move_99 : decode cX8_move 99 = .ok (.aload_n 0, 1) := by decide +kernel
theorem dX8_move_100 : decode cX8_move 100 = .ok (.getfield 7, 3) := by decide +kernel
theorem dX8_move_103 : decode cX8_move 103 = .ok (.sipush 191, 3) := by decide +kernel
theorem dX8_move_106 : decode cX8_move 106 = .ok (.iload 5, 2) := by decide +kernel
theorem dX8_move_108 : decode cX8_move 108 = .ok (.iadd, 1) := by decide +kernel
theorem dX8_move_109 : decode cX8_move 109 = .ok (.iload_n 3, 1) := by decide +kernel
theorem dX8_move_110 : decode cX8_move 110 = .ok (.iastore, 1) := by decide +kernel
theorem dX8_move_111 : decode cX8_move 111 = .ok (.aload_n 0, 1) := by decide +kernel
theorem dX8_move_112 : decode cX8_move 112 = .ok (.getfield 7, 3) := by decide +kernel
theorem dX8_move_115 : decode cX8_move 115 = .ok (.sipush 201, 3) := by decide +kernel
theorem dX8_move_118 : decode cX8_move 118 = .ok (.iload 5, 2) := by decide +kernel
theorem dX8_move_120 : decode cX8_move 120 = .ok (.iadd, 1) := by decide +kernel
theorem dX8_move_121 : decode cX8_move 121 = .ok (.iload 4, 2) := by decide +kernel
theorem dX8_move_123 : decode cX8_move 123 = .ok (.iastore, 1) := by decide +kernel
theorem dX8_move_124 : decode cX8_move 124 = .ok (.aload_n 0, 1) := by decide +kernel
theorem dX8_move_125 : decode cX8_move 125 = .ok (.getfield 7, 3) := by decide +kernel
theorem dX8_move_128 : decode cX8_move 128 = .ok (.sipush 211, 3) := by decide +kernel
theorem dX8_move_131 : decode cX8_move 131 = .ok (.dup2, 1) := by decide +kernel
theorem dX8_move_132 : decode cX8_move 132 = .ok (.iaload, 1) := by decide +kernel
theorem dX8_move_133 : decode cX8_move 133 = .ok (.iconst 1, 1) := by decide +kernel
theorem dX8_move_134 : decode cX8_move 134 = .ok (.iadd, 1) := by decide +kernel
theorem dX8_move_135 : decode cX8_move 135 = .ok (.iastore, 1) := by decide +kernel
theorem dX8_move_136 : decode cX8_move 136 = .ok (.iload 5, 2) := by decide +kernel
theorem dX8_move_138 : decode cX8_move 138 = .ok (.ireturn, 1) := by decide +kernel
set_option maxRecDepth 20000 in
theorem ggX8_drop_X8_isMove : GoodIn wsX8_drop wsX8_isMove := goodIn_r _ [6, 1, 7, 8, 5, 9, 10, 11, 12, 13, 14, 15, 16, 17, 18, 19, 20, 21, 22] (by decide +kernel) (by decide +kernel)
set_option maxRecDepth 20000 in
theorem gX8_drop_X8_isMove : GoodIn wsX8_drop (wsV RX8 94 RX8 yX8_isMove wsX8_isMove) := goodIn_app (goodIn_of _ (by decide +kernel)) ggX8_drop_X8_isMove
theorem dX8_drop_0 : decode cX8_drop 0 = .ok (.aload_n 0, 1) := by decide +kernel
theorem dX8_drop_1 : decode cX8_drop 1 = .ok (.iload_n 1, 1) := by decide +kernel
theorem dX8_drop_2 : decode cX8_drop 2 = .ok (.invokevirtual 94, 3) := by decide +kernel
theorem dX8_drop_5 : decode cX8_drop 5 = .ok (.ifCond .ne 5, 3) := by decide +kernel
theorem dX8_drop_8 : decode cX8_drop 8 = .ok (.iconst (-1), 1) := by decide +kernel
theorem dX8_drop_9 : decode cX8_drop 9 = .ok (.ireturn, 1) := by decide +kernel
theorem dX8_drop_10 : decode cX8_drop 10 = .ok (.aload_n 0, 1) := by decide +kernel
theorem dX8_drop_11 : decode cX8_drop 11 = .ok (.getfield 7, 3) := by decide +kernel
theorem dX8_drop_14 : decode cX8_drop 14 = .ok (.sipush 211, 3) := by decide +kernel
theorem dX8_drop_17 : decode cX8_drop 17 = .ok (.dup2, 1) := by decide +kernel
theorem dX8_drop_18 : decode cX8_drop 18 = .ok (.iaload, 1) := by decide +kernel
theorem dX8_drop_19 : decode cX8_drop 19 = .ok (.iconst 1, 1) := by decide +kernel
theorem dX8_drop_20 : decode cX8_drop 20 = .ok (.isub, 1) := by decide +kernel
theorem dX8_drop_21 : decode cX8_drop 21 = .ok (.iastore, 1) := by decide +kernel
theorem dX8_drop_22 : decode cX8_drop 22 = .ok (.iload_n 1, 1) := by decide +kernel
theorem dX8_drop_23 : decode cX8_drop 23 = .ok (.istore_n 2, 1) := by decide +kernel
theorem dX8_drop_24 : decode cX8_drop 24 = .ok (.iload_n 2, 1) := by decide +kernel
theorem dX8_drop_25 : decode cX8_drop 25 = .ok (.aload_n 0, 1) := by decide +kernel
theorem dX8_drop_26 : decode cX8_drop 26 = .ok (.getfield 7, 3) := by decide +kernel
theorem dX8_drop_29 : decode cX8_drop 29 = .ok (.sipush 211, 3) := by decide +kernel
theorem dX8_drop_32 : decode cX8_drop 32 = .ok (.iaload, 1) := by decide +kernel
theorem dX8_drop_33 : decode cX8_drop 33 = .ok (.if_icmp .ge 44, 3) := by decide +kernel
theorem dX8_drop_36 : decode cX8_drop 36 = .ok (.sipush 171, 3) := by decide +kernel
theorem dX8_drop_39 : decode cX8_drop 39 = .ok (.istore_n 3, 1) := by decide +kernel
theorem dX8_drop_40 : decode cX8_drop 40 = .ok (.iload_n 3, 1) := by decide +kernel
theorem dX8_drop_41 : decode cX8_drop 41 = .ok (.sipush 201, 3) := by decide +kernel
theorem dX8_drop_44 : decode cX8_drop 44 = .ok (.if_icmp .gt 27, 3) := by decide +kernel
theorem dX8_drop_47 : decode cX8_drop 47 = .ok (.aload_n 0, 1) := by decide +kernel
theorem dX8_drop_48 : decode cX8_drop 48 = .ok (.getfield 7, 3) := by decide +kernel
theorem dX8_drop_51 : decode cX8_drop 51 = .ok (.iload_n 3, 1) := by decide +kernel
theorem dX8_drop_52 : decode cX8_drop 52 = .ok (.iload_n 2, 1) := by decide +kernel
theorem dX8_drop_53 : decode cX8_drop 53 = .ok (.iadd, 1) := by decide +kernel
theorem dX8_drop_54 : decode cX8_drop 54 = .ok (.aload_n 0, 1) := by decide +kernel
theorem dX8_drop_55 : decode cX8_drop 55 = .ok (.getfield 7, 3) := by decide +kernel
theorem dX8_drop_58 : decode cX8_drop 58 = .ok (.iload_n 3, 1) := by decide +kernel
theorem dX8_drop_59 : decode cX8_drop 59 = .ok (.iload_n 2, 1) := by decide +kernel
theorem dX8_drop_60 : decode cX8_drop 60 = .ok (.iadd, 1) := by decide +kernel
theorem dX8_drop_61 : decode cX8_drop 61 = .ok (.iconst 1, 1) := by decide +kernel
theorem dX8_drop_62 : decode cX8_drop 62 = .ok (.iadd, 1) := by decide +kernel
theorem dX8_drop_63 : decode cX8_drop 63 = .ok (.iaload, 1) := by decide +kernel
theorem dX8_drop_64 : decode cX8_drop 64 = .ok (.iastore, 1) := by decide +kernel
theorem dX8_drop_65 : decode cX8_drop 65 = .ok (.iinc 3 10, 3) := by decide +kernel
theorem dX8_drop_68 : decode cX8_drop 68 = .ok (.goto (-28), 3) := by decide +kernel
theorem dX8_drop_71 : decode cX8_drop 71 = .ok (.iinc 2 1, 3) := by decide +kernel
theorem dX8_drop_74 : decode cX8_drop 74 = .ok (.goto (-50), 3) := by decide +kernel
theorem dX8_drop_77 : decode cX8_drop 77 = .ok (.aload_n 0, 1) := by decide +kernel
theorem dX8_drop_78 : decode cX8_drop 78 = .ok (.getfield 7, 3) := by decide +kernel
theorem dX8_drop_81 : decode cX8_drop 81 = .ok (.sipush 211, 3) := by decide +kernel
theorem dX8_drop_84 : decode cX8_drop 84 = .ok (.iaload, 1) := by decide +kernel
theorem dX8_drop_85 : decode cX8_drop 85 = .ok (.ireturn, 1) := by decide +kernel
set_option maxRecDepth 20000 in
theorem ggX8_shift_X8_isMove : GoodIn wsX8_shift wsX8_isMove := goodIn_r _ [6, 1, 7, 8, 5, 9, 14, 15, 16, 17, 18, 19, 20, 21, 22, 23, 24, 25, 26] (by decide +kernel) (by decide +kernel)
set_option maxRecDepth 20000 in
theorem gX8_shift_X8_isMove : GoodIn wsX8_shift (wsV RX8 94 RX8 yX8_isMove wsX8_isMove) := goodIn_app (goodIn_of _ (by decide +kernel)) ggX8_shift_X8_isMove
set_option maxRecDepth 20000 in
theorem ggX8_shift_X8_in : GoodIn wsX8_shift wsX8_in := goodIn_r _ [9] (by decide +kernel) (by decide +kernel)
set_option maxRecDepth 20000 in
theorem gX8_shift_X8_in : GoodIn wsX8_shift (va_wsS RX8 44 yX8_in wsX8_in) := goodIn_app (goodIn_of _ (by decide +kernel)) ggX8_shift_X8_in
set_option maxRecDepth 20000 in
theorem ggX8_shift_X8_moveAt : GoodIn wsX8_shift wsX8_moveAt := goodIn_r _ [13, 1, 14, 15, 16, 17, 18, 19, 20, 21, 22, 23, 24, 25, 26] (by decide +kernel) (by decide +kernel)
set_option maxRecDepth 20000 in
theorem gX8_shift_X8_moveAt : GoodIn wsX8_shift (wsV RX8 91 RX8 yX8_moveAt wsX8_moveAt) := goodIn_app (goodIn_of _ (by decide +kernel)) ggX8_shift_X8_moveAt
theorem dX8_shift_0 : decode cX8_shift 0 = .ok (.aload_n 0, 1) := by decide +kernel
theorem dX8_shift_1 : decode cX8_shift 1 = .ok (.iload_n 1, 1) := by decide +kernel
theorem dX8_shift_2 : decode cX8_shift 2 = .ok (.invokevirtual 94, 3) := by decide +kernel
theorem dX8_shift_5 : decode cX8_shift 5 = .ok (.ifCond .ne 5, 3) := by decide +kernel
theorem dX8_shift_8 : decode cX8_shift 8 = .ok (.iconst (-1), 1) := by decide +kernel
theorem dX8_shift_9 : decode cX8_shift 9 = .ok (.ireturn, 1) := by decide +kernel
theorem dX8_shift_10 : decode cX8_shift 10 = .ok (.iload_n 2, 1) := by decide +kernel
theorem dX8_shift_11 : decode cX8_shift 11 = .ok (.sipush (-200), 3) := by decide +kernel
theorem dX8_shift_14 : decode cX8_shift 14 = .ok (.sipush 200, 3) := by decide +kernel
theorem dX8_shift_17 : decode cX8_shift 17 = .ok (.invokestatic 44, 3) := by decide +kernel
theorem dX8_shift_20 : decode cX8_shift 20 = .ok (.ifCond .eq 25, 3) := by decide +kernel
theorem dX8_shift_23 : decode cX8_shift 23 = .ok (.aload_n 0, 1) := by decide +kernel
theorem dX8_shift_24 : decode cX8_shift 24 = .ok (.getfield 7, 3) := by decide +kernel
theorem dX8_shift_27 : decode cX8_shift 27 = .ok (.sipush 181, 3) := by decide +kernel
theorem dX8_shift_30 : decode cX8_shift 30 = .ok (.iload_n 1, 1) := by decide +kernel
theorem dX8_shift_31 : decode cX8_shift 31 = .ok (.iadd, 1) := by decide +kernel
theorem dX8_shift_32 : decode cX8_shift 32 = .ok (.iaload, 1) := by decide +kernel
theorem dX8_shift_33 : decode cX8_shift 33 = .ok (.iload_n 2, 1) := by decide +kernel
theorem dX8_shift_34 : decode cX8_shift 34 = .ok (.iadd, 1) := by decide +kernel
theorem dX8_shift_35 : decode cX8_shift 35 = .ok (.iconst 0, 1) := by decide +kernel
theorem dX8_shift_36 : decode cX8_shift 36 = .ok (.sipush 200, 3) := by decide +kernel
theorem dX8_shift_39 : decode cX8_shift 39 = .ok (.invokestatic 44, 3) := by decide +kernel
theorem dX8_shift_42 : decode cX8_shift 42 = .ok (.ifCond .ne 6, 3) := by decide +kernel
theorem dX8_shift_45 : decode cX8_shift 45 = .ok (.bipush (-2), 2) := by decide +kernel
theorem dX8_shift_47 : decode cX8_shift 47 = .ok (.ireturn, 1) := by decide +kernel
theorem dX8_shift_48 : decode cX8_shift 48 = .ok (.aload_n 0, 1) := by decide +kernel
theorem dX8_shift_49 : decode cX8_shift 49 = .ok (.getfield 7, 3) := by decide +kernel
theorem dX8_shift_52 : decode cX8_shift 52 = .ok (.sipush 181, 3) := by decide +kernel
theorem dX8_shift_55 : decode cX8_shift 55 = .ok (.iload_n 1, 1) := by decide +kernel
theorem dX8_shift_56 : decode cX8_shift 56 = .ok (.iadd, 1) := by decide +kernel
theorem dX8_shift_57 : decode cX8_shift 57 = .ok (.iaload, 1) := by decide +kernel
theorem dX8_shift_58 : decode cX8_shift 58 = .ok (.iload_n 2, 1) := by decide +kernel
theorem dX8_shift_59 : decode cX8_shift 59 = .ok (.iadd, 1) := by decide +kernel
theorem dX8_shift_60 : decode cX8_shift 60 = .ok (.istore_n 3, 1) := by decide +kernel
theorem dX8_shift_61 : decode cX8_shift 61 = .ok (.aload_n 0, 1) := by decide +kernel
theorem dX8_shift_62 : decode cX8_shift 62 = .ok (.aload_n 0, 1) := by decide +kernel
theorem dX8_shift_63 : decode cX8_shift 63 = .ok (.getfield 7, 3) := by decide +kernel
theorem dX8_shift_66 : decode cX8_shift 66 = .ok (.sipush 171, 3) := by decide +kernel
theorem dX8_shift_69 : decode cX8_shift 69 = .ok (.iload_n 1, 1) := by decide +kernel
theorem dX8_shift_70 : decode cX8_shift 70 = .ok (.iadd, 1) := by decide +kernel
theorem dX8_shift_71 : decode cX8_shift 71 = .ok (.iaload, 1) := by decide +kernel
theorem dX8_shift_72 : decode cX8_shift 72 = .ok (.iload_n 3, 1) := by decide +kernel
theorem dX8_shift_73 : decode cX8_shift 73 = .ok (.invokevirtual 91, 3) := by decide +kernel
theorem dX8_shift_76 : decode cX8_shift 76 = .ok (.istore 4, 2) := by decide +kernel
theorem dX8_shift_78 : decode cX8_shift 78 = .ok (.iload 4, 2) := by decide +kernel
theorem dX8_shift_80 : decode cX8_shift 80 = .ok (.ifCond .lt 12, 3) := by decide +kernel
theorem dX8_shift_83 : decode cX8_shift 83 = .ok (.iload 4, 2) := by decide +kernel
theorem dX8_shift_85 : decode cX8_shift 85 = .ok (.iload_n 1, 1) := by decide +kernel
theorem dX8_shift_86 : decode cX8_shift 86 = .ok (.if_icmp .eq 6, 3) := by decide +kernel
theorem dX8_shift_89 : decode cX8_shift 89 = .ok (.bipush (-5), 2) := by decide +kernel
theorem dX8_shift_91 : decode cX8_shift 91 = .ok (.ireturn, 1) := by decide +kernel
theorem dX8_shift_92 : decode cX8_shift 92 = .ok (.aload_n 0, 1) := by decide +kernel
theorem dX8_shift_93 : decode cX8_shift 93 = .ok (.getfield 7, 3) := by decide +kernel
theorem dX8_shift_96 : decode cX8_shift 96 = .ok (.sipush 181, 3) := by decide +kernel
theorem dX8_shift_99 : decode cX8_shift 99 = .ok (.iload_n 1, 1) := by decide +kernel
theorem dX8_shift_100 : decode cX8_shift 100 = .ok (.iadd, 1) := by decide +kernel
theorem dX8_shift_101 : decode cX8_shift 101 = .ok (.iload_n 3, 1) := by decide +kernel
theorem dX8_shift_102 : decode cX8_shift 102 = .ok (.iastore, 1) := by decide +kernel
theorem dX8_shift_103 : decode cX8_shift 103 = .ok (.iload_n 3, 1) := by decide +kernel
theorem dX8_shift_104 : decode cX8_shift 104 = .ok (.ireturn, 1) := by decide +kernel
theorem dX8_latest_0 : decode cX8_latest 0 = .ok (.bipush (-6), 2) := by decide +kernel
theorem dX8_latest_2 : decode cX8_latest 2 = .ok (.istore_n 3, 1) := by decide +kernel
theorem dX8_latest_3 : decode cX8_latest 3 = .ok (.iconst 0, 1) := by decide +kernel
theorem dX8_latest_4 : decode cX8_latest 4 = .ok (.istore 4, 2) := by decide +kernel
theorem dX8_latest_6 : decode cX8_latest 6 = .ok (.iload 4, 2) := by decide +kernel
theorem dX8_latest_8 : decode cX8_latest 8 = .ok (.aload_n 0, 1) := by decide +kernel
theorem dX8_latest_9 : decode cX8_latest 9 = .ok (.getfield 7, 3) := by decide +kernel
theorem dX8_latest_12 : decode cX8_latest 12 = .ok (.sipush 211, 3) := by decide +kernel
theorem dX8_latest_15 : decode cX8_latest 15 = .ok (.iaload, 1) := by decide +kernel
theorem dX8_latest_16 : decode cX8_latest 16 = .ok (.if_icmp .ge 70, 3) := by decide +kernel
theorem dX8_latest_19 : decode cX8_latest 19 = .ok (.aload_n 0, 1) := by decide +kernel
theorem dX8_latest_20 : decode cX8_latest 20 = .ok (.getfield 7, 3) := by decide +kernel
theorem dX8_latest_23 : decode cX8_latest 23 = .ok (.sipush 171, 3) := by decide +kernel
theorem dX8_latest_26 : decode cX8_latest 26 = .ok (.iload 4, 2) := by decide +kernel
theorem dX8_latest_28 : decode cX8_latest 28 = .ok (.iadd, 1) := by decide +kernel
theorem dX8_latest_29 : decode cX8_latest 29 = .ok (.iaload, 1) := by decide +kernel
theorem dX8_latest_30 : decode cX8_latest 30 = .ok (.iload_n 1, 1) := by decide +kernel
theorem dX8_latest_31 : decode cX8_latest 31 = .ok (.if_icmp .ne 49, 3) := by decide +kernel
theorem dX8_latest_34 : decode cX8_latest 34 = .ok (.aload_n 0, 1) := by decide +kernel
theorem dX8_latest_35 : decode cX8_latest 35 = .ok (.getfield 7, 3) := by decide +kernel
theorem dX8_latest_38 : decode cX8_latest 38 = .ok (.sipush 181, 3) := by decide +kernel
theorem dX8_latest_41 : decode cX8_latest 41 = .ok (.iload 4, 2) := by decide +kernel
theorem dX8_latest_43 : decode cX8_latest 43 = .ok (.iadd, 1) := by decide +kernel
theorem dX8_latest_44 : decode cX8_latest 44 = .ok (.iaload, 1) := by decide +kernel
theorem dX8_latest_45 : decode cX8_latest 45 = .ok (.iload_n 2, 1) := by decide +kernel
theorem dX8_latest_46 : decode cX8_latest 46 = .ok (.if_icmp .gt 34, 3) := by decide +kernel
theorem dX8_latest_49 : decode cX8_latest 49 = .ok (.iload_n 3, 1) := by decide +kernel
theorem dX8_latest_50 : decode cX8_latest 50 = .ok (.ifCond .lt 27, 3) := by decide +kernel
theorem dX8_latest_53 : decode cX8_latest 53 = .ok (.aload_n 0, 1) := by decide +kernel
theorem dX8_latest_54 : decode cX8_latest 54 = .ok (.getfield 7, 3) := by decide +kernel
theorem dX8_latest_57 : decode cX8_latest 57 = .ok (.sipush 181, 3) := by decide +kernel
theorem dX8_latest_60 : decode cX8_latest 60 = .ok (.iload 4, 2) := by decide +kernel
theorem dX8_latest_62 : decode cX8_latest 62 = .ok (.iadd, 1) := by decide +kernel
theorem dX8_latest_63 : decode cX8_latest 63 = .ok (.iaload, 1) := by decide +kernel
theorem dX8_latest_64 : decode cX8_latest 64 = .ok (.aload_n 0, 1) := by decide +kernel
theorem dX8_latest_65 : decode cX8_latest 65 = .ok (.getfield 7, 3) := by decide +kernel
theorem dX8_latest_68 : decode cX8_latest 68 = .ok (.sipush 181, 3) := by decide +kernel
theorem dX8_latest_71 : decode cX8_latest 71 = .ok (.iload_n 3, 1) := by decide +kernel
theorem dX8_latest_72 : decode cX8_latest 72 = .ok (.iadd, 1) := by decide +kernel
theorem dX8_latest_73 : decode cX8_latest 73 = .ok (.iaload, 1) := by decide +kernel
theorem dX8_latest_74 : decode cX8_latest 74 = .ok (.if_icmp .le 6, 3) := by decide +kernel
theorem dX8_latest_77 : decode cX8_latest 77 = .ok (.iload 4, 2) := by decide +kernel
theorem dX8_latest_79 : decode cX8_latest 79 = .ok (.istore_n 3, 1) := by decide +kernel
theorem dX8_latest_80 : decode cX8_latest 80 = .ok (.iinc 4 1, 3) := by decide +kernel
theorem dX8_latest_83 : decode cX8_latest 83 = .ok (.goto (-77), 3) := by decide +kernel
theorem dX8_latest_86 : decode cX8_latest 86 = .ok (.iload_n 3, 1) := by decide +kernel
theorem dX8_latest_87 : decode cX8_latest 87 = .ok (.ireturn, 1) := by decide +kernel
set_option maxRecDepth 20000 in
theorem ggX8_layHeights_X8_latest : GoodIn wsX8_layHeights wsX8_latest := goodIn_r _ [7, 2, 11, 12, 13, 14, 15, 16, 17, 18, 19, 20, 21, 22, 23] (by decide +kernel) (by decide +kernel)
set_option maxRecDepth 20000 in
theorem gX8_layHeights_X8_latest : GoodIn wsX8_layHeights (wsV RX8 97 RX8 yX8_latest wsX8_latest) := goodIn_app (goodIn_of _ (by decide +kernel)) ggX8_layHeights_X8_latest
set_option maxRecDepth 20000 in
theorem ggX8_layHeights_X8_size : GoodIn wsX8_layHeights wsX8_size := goodIn_r _ [10] (by decide +kernel) (by decide +kernel)
set_option maxRecDepth 20000 in
theorem gX8_layHeights_X8_size : GoodIn wsX8_layHeights (va_wsS RX8 59 yX8_size wsX8_size) := goodIn_app (goodIn_of _ (by decide +kernel)) ggX8_layHeights_X8_size
theorem dX8_layHeights_0 : decode cX8_layHeights 0 = .ok (.aload_n 0, 1) := by decide +kernel
theorem dX8_layHeights_1 : decode cX8_layHeights 1 = .ok (.getfield 23, 3) := by decide +kernel
theorem dX8_layHeights_4 : decode cX8_layHeights 4 = .ok (.iconst 0, 1) := by decide +kernel
theorem dX8_layHeights_5 : decode cX8_layHeights 5 = .ok (.aload_n 0, 1) := by decide +kernel
theorem dX8_layHeights_6 : decode cX8_layHeights 6 = .ok (.getfield 7, 3) := by decide +kernel
theorem dX8_layHeights_9 : decode cX8_layHeights 9 = .ok (.iconst 0, 1) := by decide +kernel
theorem dX8_layHeights_10 : decode cX8_layHeights 10 = .ok (.iload_n 1, 1) := by decide +kernel
theorem dX8_layHeights_11 : decode cX8_layHeights 11 = .ok (.iadd, 1) := by decide +kernel
theorem dX8_layHeights_12 : decode cX8_layHeights 12 = .ok (.iaload, 1) := by decide +kernel
theorem dX8_layHeights_13 : decode cX8_layHeights 13 = .ok (.iastore, 1) := by decide +kernel
theorem dX8_layHeights_14 : decode cX8_layHeights 14 = .ok (.iconst 1, 1) := by decide +kernel
theorem dX8_layHeights_15 : decode cX8_layHeights 15 = .ok (.istore_n 2, 1) := by decide +kernel
theorem dX8_layHeights_16 : decode cX8_layHeights 16 = .ok (.iload_n 2, 1) := by decide +kernel
theorem dX8_layHeights_17 : decode cX8_layHeights 17 = .ok (.sipush 300, 3) := by decide +kernel
theorem dX8_layHeights_20 : decode cX8_layHeights 20 = .ok (.if_icmp .gt 106, 3) := by decide +kernel
theorem dX8_layHeights_23 : decode cX8_layHeights 23 = .ok (.aload_n 0, 1) := by decide +kernel
theorem dX8_layHeights_24 : decode cX8_layHeights 24 = .ok (.getfield 23, 3) := by decide +kernel
theorem dX8_layHeights_27 : decode cX8_layHeights 27 = .ok (.iload_n 2, 1) := by decide +kernel
theorem dX8_layHeights_28 : decode cX8_layHeights 28 = .ok (.iconst 1, 1) := by decide +kernel
theorem dX8_layHeights_29 : decode cX8_layHeights 29 = .ok (.isub, 1) := by decide +kernel
theorem dX8_layHeights_30 : decode cX8_layHeights 30 = .ok (.iaload, 1) := by decide +kernel
theorem dX8_layHeights_31 : decode cX8_layHeights 31 = .ok (.istore_n 3, 1) := by decide +kernel
theorem dX8_layHeights_32 : decode cX8_layHeights 32 = .ok (.aload_n 0, 1) := by decide +kernel
theorem dX8_layHeights_33 : decode cX8_layHeights 33 = .ok (.iload_n 1, 1) := by decide +kernel
theorem dX8_layHeights_34 : decode cX8_layHeights 34 = .ok (.iload_n 2, 1) := by decide +kernel
theorem dX8_layHeights_35 : decode cX8_layHeights 35 = .ok (.iconst 1, 1) := by decide +kernel
theorem dX8_layHeights_36 : decode cX8_layHeights 36 = .ok (.isub, 1) := by decide +kernel
theorem dX8_layHeights_37 : decode cX8_layHeights 37 = .ok (.invokevirtual 97, 3) := by decide +kernel
theorem dX8_layHeights_40 : decode cX8_layHeights 40 = .ok (.istore 4, 2) := by decide +kernel
theorem dX8_layHeights_42 : decode cX8_layHeights 42 = .ok (.iload_n 3, 1) := by decide +kernel
theorem dX8_layHeights_43 : decode cX8_layHeights 43 = .ok (.istore 5, 2) := by decide +kernel
theorem dX8_layHeights_45 : decode cX8_layHeights 45 = .ok (.iload 4, 2) := by decide +kernel
theorem dX8_layHeights_47 : decode cX8_layHeights 47 = .ok (.ifCond .lt 65, 3) := by decide +kernel
theorem dX8_layHeights_50 : decode cX8_layHeights 50 = .ok (.aload_n 0, 1) := by decide +kernel
theorem dX8_layHeights_51 : decode cX8_layHeights 51 = .ok (.getfield 7, 3) := by decide +kernel
theorem dX8_layHeights_54 : decode cX8_layHeights 54 = .ok (.sipush 191, 3) := by decide +kernel
theorem dX8_layHeights_57 : decode cX8_layHeights 57 = .ok (.iload 4, 2) := by decide +kernel
theorem dX8_layHeights_59 : decode cX8_layHeights 59 = .ok (.iadd, 1) := by decide +kernel
theorem dX8_layHeights_60 : decode cX8_layHeights 60 = .ok (.iaload, 1) := by decide +kernel
theorem dX8_layHeights_61 : decode cX8_layHeights 61 = .ok (.istore 6, 2) := by decide +kernel
theorem dX8_layHeights_63 : decode cX8_layHeights 63 = .ok (.aload_n 0, 1) := by decide +kernel
theorem dX8_layHeights_64 : decode cX8_layHeights 64 = .ok (.getfield 7, 3) := by decide +kernel
theorem dX8_layHeights_67 : decode cX8_layHeights 67 = .ok (.sipush 201, 3) := by decide +kernel
theorem dX8_layHeights_70 : decode cX8_layHeights 70 = .ok (.iload 4, 2) := by decide +kernel
theorem dX8_layHeights_72 : decode cX8_layHeights 72 = .ok (.iadd, 1) := by decide +kernel
theorem dX8_layHeights_73 : decode cX8_layHeights 73 = .ok (.iaload, 1) := by decide +kernel
theorem dX8_layHeights_74 : decode cX8_layHeights 74 = .ok (.istore 7, 2) := by decide +kernel
theorem dX8_layHeights_76 : decode cX8_layHeights 76 = .ok (.iload 6, 2) := by decide +kernel
theorem dX8_layHeights_78 : decode cX8_layHeights 78 = .ok (.iload_n 3, 1) := by decide +kernel
theorem dX8_layHeights_79 : decode cX8_layHeights 79 = .ok (.isub, 1) := by decide +kernel
theorem dX8_layHeights_80 : decode cX8_layHeights 80 = .ok (.invokestatic 59, 3) := by decide +kernel
theorem dX8_layHeights_83 : decode cX8_layHeights 83 = .ok (.iload 7, 2) := by decide +kernel
theorem dX8_layHeights_85 : decode cX8_layHeights 85 = .ok (.if_icmp .gt 8, 3) := by decide +kernel
theorem dX8_layHeights_88 : decode cX8_layHeights 88 = .ok (.iload 6, 2) := by decide +kernel
theorem dX8_layHeights_90 : decode cX8_layHeights 90 = .ok (.goto 20, 3) := by decide +kernel
theorem dX8_layHeights_93 : decode cX8_layHeights 93 = .ok (.iload 6, 2) := by decide +kernel
theorem dX8_layHeights_95 : decode cX8_layHeights 95 = .ok (.iload_n 3, 1) := by decide +kernel
theorem dX8_layHeights_96 : decode cX8_layHeights 96 = .ok (.if_icmp .le 10, 3) := by decide +kernel
theorem dX8_layHeights_99 : decode cX8_layHeights 99 = .ok (.iload_n 3, 1) := by decide +kernel
theorem dX8_layHeights_100 : decode cX8_layHeights 100 = .ok (.iload 7, 2) := by decide +kernel
theorem dX8_layHeights_102 : decode cX8_layHeights 102 = .ok (.iadd, 1) := by decide +kernel
theorem dX8_layHeights_103 : decode cX8_layHeights 103 = .ok (.goto 7, 3) := by decide +kernel
theorem dX8_layHeights_106 : decode cX8_layHeights 106 = .ok (.iload_n 3, 1) := by decide +kernel
theorem dX8_layHeights_107 : decode cX8_layHeights 107 = .ok (.iload 7, 2) := by decide +kernel
theorem dX8_layHeights_109 : decode cX8_layHeights 109 = .ok (.isub, 1) := by decide +kernel
theorem dX8_layHeights_110 : decode cX8_layHeights 110 = .ok (.istore 5, 2) := by decide +kernel
theorem dX8_layHeights_112 : decode cX8_layHeights 112 = .ok (.aload_n 0, 1) := by decide +kernel
theorem dX8_layHeights_113 : decode cX8_layHeights 113 = .ok (.getfield 23, 3) := by decide +kernel
theorem dX8_layHeights_116 : decode cX8_layHeights 116 = .ok (.iload_n 2, 1) := by decide +kernel
theorem dX8_layHeights_117 : decode cX8_layHeights 117 = .ok (.iload 5, 2) := by decide +kernel
theorem dX8_layHeights_119 : decode cX8_layHeights 119 = .ok (.iastore, 1) := by decide +kernel
theorem dX8_layHeights_120 : decode cX8_layHeights 120 = .ok (.iinc 2 1, 3) := by decide +kernel
theorem dX8_layHeights_123 : decode cX8_layHeights 123 = .ok (.goto (-107), 3) := by decide +kernel
theorem dX8_layHeights_126 : decode cX8_layHeights 126 = .ok (.return_, 1) := by decide +kernel
theorem dX8_nextBegin_0 : decode cX8_nextBegin 0 = .ok (.bipush (-6), 2) := by decide +kernel
theorem dX8_nextBegin_2 : decode cX8_nextBegin 2 = .ok (.istore_n 2, 1) := by decide +kernel
theorem dX8_nextBegin_3 : decode cX8_nextBegin 3 = .ok (.iconst 0, 1) := by decide +kernel
theorem dX8_nextBegin_4 : decode cX8_nextBegin 4 = .ok (.istore_n 3, 1) := by decide +kernel
theorem dX8_nextBegin_5 : decode cX8_nextBegin 5 = .ok (.iload_n 3, 1) := by decide +kernel
theorem dX8_nextBegin_6 : decode cX8_nextBegin 6 = .ok (.aload_n 0, 1) := by decide +kernel
theorem dX8_nextBegin_7 : decode cX8_nextBegin 7 = .ok (.getfield 7, 3) := by decide +kernel
theorem dX8_nextBegin_10 : decode cX8_nextBegin 10 = .ok (.sipush 211, 3) := by decide +kernel
theorem dX8_nextBegin_13 : decode cX8_nextBegin 13 = .ok (.iaload, 1) := by decide +kernel
theorem dX8_nextBegin_14 : decode cX8_nextBegin 14 = .ok (.if_icmp .ge 84, 3) := by decide +kernel
theorem dX8_nextBegin_17 : decode cX8_nextBegin 17 = .ok (.aload_n 0, 1) := by decide +kernel
theorem dX8_nextBegin_18 : decode cX8_nextBegin 18 = .ok (.getfield 7, 3) := by decide +kernel
theorem dX8_nextBegin_21 : decode cX8_nextBegin 21 = .ok (.sipush 171, 3) := by decide +kernel
theorem dX8_nextBegin_24 : decode cX8_nextBegin 24 = .ok (.iload_n 3, 1) := by decide +kernel
theorem dX8_nextBegin_25 : decode cX8_nextBegin 25 = .ok (.iadd, 1) := by decide +kernel
theorem dX8_nextBegin_26 : decode cX8_nextBegin 26 = .ok (.iaload, 1) := by decide +kernel
theorem dX8_nextBegin_27 : decode cX8_nextBegin 27 = .ok (.aload_n 0, 1) := by decide +kernel
theorem dX8_nextBegin_28 : decode cX8_nextBegin 28 = .ok (.getfield 7, 3) := by decide +kernel
theorem dX8_nextBegin_31 : decode cX8_nextBegin 31 = .ok (.sipush 171, 3) := by decide +kernel
theorem dX8_nextBegin_34 : decode cX8_nextBegin 34 = .ok (.iload_n 1, 1) := by decide +kernel
theorem dX8_nextBegin_35 : decode cX8_nextBegin 35 = .ok (.iadd, 1) := by decide +kernel
theorem dX8_nextBegin_36 : decode cX8_nextBegin 36 = .ok (.iaload, 1) := by decide +kernel
theorem dX8_nextBegin_37 : decode cX8_nextBegin 37 = .ok (.if_icmp .ne 55, 3) := by decide +kernel
theorem dX8_nextBegin_40 : decode cX8_nextBegin 40 = .ok (.aload_n 0, 1) := by decide +kernel
theorem dX8_nextBegin_41 : decode cX8_nextBegin 41 = .ok (.getfield 7, 3) := by decide +kernel
theorem dX8_nextBegin_44 : decode cX8_nextBegin 44 = .ok (.sipush 181, 3) := by decide +kernel
theorem dX8_nextBegin_47 : decode cX8_nextBegin 47 = .ok (.iload_n 3, 1) := by decide +kernel
theorem dX8_nextBegin_48 : decode cX8_nextBegin 48 = .ok (.iadd, 1) := by decide +kernel
theorem dX8_nextBegin_49 : decode cX8_nextBegin 49 = .ok (.iaload, 1) := by decide +kernel
theorem dX8_nextBegin_50 : decode cX8_nextBegin 50 = .ok (.aload_n 0, 1) := by decide +kernel
theorem dX8_nextBegin_51 : decode cX8_nextBegin 51 = .ok (.getfield 7, 3) := by decide +kernel
theorem dX8_nextBegin_54 : decode cX8_nextBegin 54 = .ok (.sipush 181, 3) := by decide +kernel
theorem dX8_nextBegin_57 : decode cX8_nextBegin 57 = .ok (.iload_n 1, 1) := by decide +kernel
theorem dX8_nextBegin_58 : decode cX8_nextBegin 58 = .ok (.iadd, 1) := by decide +kernel
theorem dX8_nextBegin_59 : decode cX8_nextBegin 59 = .ok (.iaload, 1) := by decide +kernel
theorem dX8_nextBegin_60 : decode cX8_nextBegin 60 = .ok (.if_icmp .le 32, 3) := by decide +kernel
theorem dX8_nextBegin_63 : decode cX8_nextBegin 63 = .ok (.iload_n 2, 1) := by decide +kernel
theorem dX8_nextBegin_64 : decode cX8_nextBegin 64 = .ok (.ifCond .lt 17, 3) := by decide +kernel
theorem dX8_nextBegin_67 : decode cX8_nextBegin 67 = .ok (.aload_n 0, 1) := by decide +kernel
theorem dX8_nextBegin_68 : decode cX8_nextBegin 68 = .ok (.getfield 7, 3) := by decide +kernel
theorem dX8_nextBegin_71 : decode cX8_nextBegin 71 = .ok (.sipush 181, 3) := by decide +kernel
theorem dX8_nextBegin_74 : decode cX8_nextBegin 74 = .ok (.iload_n 3, 1) := by decide +kernel
theorem dX8_nextBegin_75 : decode cX8_nextBegin 75 = .ok (.iadd, 1) := by decide +kernel
theorem dX8_nextBegin_76 : decode cX8_nextBegin 76 = .ok (.iaload, 1) := by decide +kernel
theorem dX8_nextBegin_77 : decode cX8_nextBegin 77 = .ok (.iload_n 2, 1) := by decide +kernel
theorem dX8_nextBegin_78 : decode cX8_nextBegin 78 = .ok (.if_icmp .ge 14, 3) := by decide +kernel
theorem dX8_nextBegin_81 : decode cX8_nextBegin 81 = .ok (.aload_n 0, 1) := by decide +kernel
theorem dX8_nextBegin_82 : decode cX8_nextBegin 82 = .ok (.getfield 7, 3) := by decide +kernel
theorem dX8_nextBegin_85 : decode cX8_nextBegin 85 = .ok (.sipush 181, 3) := by decide +kernel
theorem dX8_nextBegin_88 : decode cX8_nextBegin 88 = .ok (.iload_n 3, 1) := by decide +kernel
theorem dX8_nextBegin_89 : decode cX8_nextBegin 89 = .ok (.iadd, 1) := by decide +kernel
theorem dX8_nextBegin_90 : decode cX8_nextBegin 90 = .ok (.iaload, 1) := by decide +kernel
theorem dX8_nextBegin_91 : decode cX8_nextBegin 91 = .ok (.istore_n 2, 1) := by decide +kernel
theorem dX8_nextBegin_92 : decode cX8_nextBegin 92 = .ok (.iinc 3 1, 3) := by decide +kernel
theorem dX8_nextBegin_95 : decode cX8_nextBegin 95 = .ok (.goto (-90), 3) := by decide +kernel
theorem dX8_nextBegin_98 : decode cX8_nextBegin 98 = .ok (.iload_n 2, 1) := by decide +kernel
theorem dX8_nextBegin_99 : decode cX8_nextBegin 99 = .ok (.ireturn, 1) := by decide +kernel
set_option maxRecDepth 20000 in
theorem ggX8_endOf_X8_layHeights : GoodIn wsX8_endOf wsX8_layHeights := goodIn_r _ [7, 2, 1, 8, 9, 10, 6, 11, 12, 13, 14, 19, 20, 21, 22, 23, 24, 25, 26, 27, 28, 29, 30, 31] (by decide +kernel) (by decide +kernel)
set_option maxRecDepth 20000 in
theorem gX8_endOf_X8_layHeights : GoodIn wsX8_endOf (wsV RX8 100 RX8 yX8_layHeights wsX8_layHeights) := goodIn_app (goodIn_of _ (by decide +kernel)) ggX8_endOf_X8_layHeights
set_option maxRecDepth 20000 in
theorem ggX8_endOf_X8_nextBegin : GoodIn wsX8_endOf wsX8_nextBegin := goodIn_r _ [18, 1, 19, 20, 21, 22, 23, 24, 25, 26, 27, 28, 29, 30, 31] (by decide +kernel) (by decide +kernel)
set_option maxRecDepth 20000 in
theorem gX8_endOf_X8_nextBegin : GoodIn wsX8_endOf (wsV RX8 103 RX8 yX8_nextBegin wsX8_nextBegin) := goodIn_app (goodIn_of _ (by decide +kernel)) ggX8_endOf_X8_nextBegin
theorem dX8_endOf_0 : decode cX8_endOf 0 = .ok (.aload_n 0, 1) := by decide +kernel
theorem dX8_endOf_1 : decode cX8_endOf 1 = .ok (.aload_n 0, 1) := by decide +kernel
theorem dX8_endOf_2 : decode cX8_endOf 2 = .ok (.getfield 7, 3) := by decide +kernel
theorem dX8_endOf_5 : decode cX8_endOf 5 = .ok (.sipush 171, 3) := by decide +kernel
theorem dX8_endOf_8 : decode cX8_endOf 8 = .ok (.iload_n 1, 1) := by decide +kernel
theorem dX8_endOf_9 : decode cX8_endOf 9 = .ok (.iadd, 1) := by decide +kernel
theorem dX8_endOf_10 : decode cX8_endOf 10 = .ok (.iaload, 1) := by decide +kernel
theorem dX8_endOf_11 : decode cX8_endOf 11 = .ok (.invokevirtual 100, 3) := by decide +kernel
theorem dX8_endOf_14 : decode cX8_endOf 14 = .ok (.aload_n 0, 1) := by decide +kernel
theorem dX8_endOf_15 : decode cX8_endOf 15 = .ok (.iload_n 1, 1) := by decide +kernel
theorem dX8_endOf_16 : decode cX8_endOf 16 = .ok (.invokevirtual 103, 3) := by decide +kernel
theorem dX8_endOf_19 : decode cX8_endOf 19 = .ok (.istore_n 2, 1) := by decide +kernel
theorem dX8_endOf_20 : decode cX8_endOf 20 = .ok (.aload_n 0, 1) := by decide +kernel
theorem dX8_endOf_21 : decode cX8_endOf 21 = .ok (.getfield 7, 3) := by decide +kernel
theorem dX8_endOf_24 : decode cX8_endOf 24 = .ok (.sipush 181, 3) := by decide +kernel
theorem dX8_endOf_27 : decode cX8_endOf 27 = .ok (.iload_n 1, 1) := by decide +kernel
theorem dX8_endOf_28 : decode cX8_endOf 28 = .ok (.iadd, 1) := by decide +kernel
theorem dX8_endOf_29 : decode cX8_endOf 29 = .ok (.iaload, 1) := by decide +kernel
theorem dX8_endOf_30 : decode cX8_endOf 30 = .ok (.istore_n 3, 1) := by decide +kernel
theorem dX8_endOf_31 : decode cX8_endOf 31 = .ok (.aload_n 0, 1) := by decide +kernel
theorem dX8_endOf_32 : decode cX8_endOf 32 = .ok (.getfield 23, 3) := by decide +kernel
theorem dX8_endOf_35 : decode cX8_endOf 35 = .ok (.iload_n 3, 1) := by decide +kernel
theorem dX8_endOf_36 : decode cX8_endOf 36 = .ok (.iaload, 1) := by decide +kernel
theorem dX8_endOf_37 : decode cX8_endOf 37 = .ok (.aload_n 0, 1) := by decide +kernel
theorem dX8_endOf_38 : decode cX8_endOf 38 = .ok (.getfield 7, 3) := by decide +kernel
theorem dX8_endOf_41 : decode cX8_endOf 41 = .ok (.sipush 191, 3) := by decide +kernel
theorem dX8_endOf_44 : decode cX8_endOf 44 = .ok (.iload_n 1, 1) := by decide +kernel
theorem dX8_endOf_45 : decode cX8_endOf 45 = .ok (.iadd, 1) := by decide +kernel
theorem dX8_endOf_46 : decode cX8_endOf 46 = .ok (.iaload, 1) := by decide +kernel
theorem dX8_endOf_47 : decode cX8_endOf 47 = .ok (.if_icmp .eq 14, 3) := by decide +kernel
theorem dX8_endOf_50 : decode cX8_endOf 50 = .ok (.iload_n 3, 1) := by decide +kernel
theorem dX8_endOf_51 : decode cX8_endOf 51 = .ok (.iload_n 2, 1) := by decide +kernel
theorem dX8_endOf_52 : decode cX8_endOf 52 = .ok (.if_icmp .eq 9, 3) := by decide +kernel
theorem dX8_endOf_55 : decode cX8_endOf 55 = .ok (.iinc 3 1, 3) := by decide +kernel
theorem dX8_endOf_58 : decode cX8_endOf 58 = .ok (.goto (-27), 3) := by decide +kernel
theorem dX8_endOf_61 : decode cX8_endOf 61 = .ok (.iload_n 3, 1) := by decide +kernel
theorem dX8_endOf_62 : decode cX8_endOf 62 = .ok (.ireturn, 1) := by decide +kernel
set_option maxRecDepth 20000 in
theorem ggX8_isCut_X8_endOf : GoodIn wsX8_isCut wsX8_endOf := goodIn_r _ [7, 2, 1, 8, 9, 10, 6, 11, 12, 13, 14, 15, 16, 17, 18, 19, 20, 21, 22, 23, 24, 25, 26, 27, 28, 29, 30, 31, 32, 33, 34, 35] (by decide +kernel) (by decide +kernel)
set_option maxRecDepth 20000 in
theorem gX8_isCut_X8_endOf : GoodIn wsX8_isCut (wsV RX8 106 RX8 yX8_endOf wsX8_endOf) := goodIn_app (goodIn_of _ (by decide +kernel)) ggX8_isCut_X8_endOf
theorem dX8_isCut_0 : decode cX8_isCut 0 = .ok (.aload_n 0, 1) := by decide +kernel
theorem dX8_isCut_1 : decode cX8_isCut 1 = .ok (.getfield 23, 3) := by decide +kernel
theorem dX8_isCut_4 : decode cX8_isCut 4 = .ok (.aload_n 0, 1) := by decide +kernel
theorem dX8_isCut_5 : decode cX8_isCut 5 = .ok (.iload_n 1, 1) := by decide +kernel
theorem dX8_isCut_6 : decode cX8_isCut 6 = .ok (.invokevirtual 106, 3) := by decide +kernel
theorem dX8_isCut_9 : decode cX8_isCut 9 = .ok (.iaload, 1) := by decide +kernel
theorem dX8_isCut_10 : decode cX8_isCut 10 = .ok (.aload_n 0, 1) := by decide +kernel
theorem dX8_isCut_11 : decode cX8_isCut 11 = .ok (.getfield 7, 3) := by decide +kernel
theorem dX8_isCut_14 : decode cX8_isCut 14 = .ok (.sipush 191, 3) := by decide +kernel
theorem dX8_isCut_17 : decode cX8_isCut 17 = .ok (.iload_n 1, 1) := by decide +kernel
theorem dX8_isCut_18 : decode cX8_isCut 18 = .ok (.iadd, 1) := by decide +kernel
theorem dX8_isCut_19 : decode cX8_isCut 19 = .ok (.iaload, 1) := by decide +kernel
theorem dX8_isCut_20 : decode cX8_isCut 20 = .ok (.if_icmp .eq 7, 3) := by decide +kernel
theorem dX8_isCut_23 : decode cX8_isCut 23 = .ok (.iconst 1, 1) := by decide +kernel
theorem dX8_isCut_24 : decode cX8_isCut 24 = .ok (.goto 4, 3) := by decide +kernel
theorem dX8_isCut_27 : decode cX8_isCut 27 = .ok (.iconst 0, 1) := by decide +kernel
theorem dX8_isCut_28 : decode cX8_isCut 28 = .ok (.ireturn, 1) := by decide +kernel
set_option maxRecDepth 20000 in
theorem ggX8_height_X8_isBar : GoodIn wsX8_height wsX8_isBar := goodIn_r _ [5, 6, 7, 4, 8] (by decide +kernel) (by decide +kernel)
set_option maxRecDepth 20000 in
theorem gX8_height_X8_isBar : GoodIn wsX8_height (va_wsS RX8 63 yX8_isBar wsX8_isBar) := goodIn_app (goodIn_of _ (by decide +kernel)) ggX8_height_X8_isBar
set_option maxRecDepth 20000 in
theorem ggX8_height_X8_in : GoodIn wsX8_height wsX8_in := goodIn_r _ [8] (by decide +kernel) (by decide +kernel)
set_option maxRecDepth 20000 in
theorem gX8_height_X8_in : GoodIn wsX8_height (va_wsS RX8 44 yX8_in wsX8_in) := goodIn_app (goodIn_of _ (by decide +kernel)) ggX8_height_X8_in
set_option maxRecDepth 20000 in
theorem ggX8_height_X8_layHeights : GoodIn wsX8_height wsX8_layHeights := goodIn_r _ [12, 1, 13, 14, 15, 16, 4, 17, 18, 19, 20, 21, 22, 23, 24, 25, 26, 27, 28, 29, 30, 31, 32, 33] (by decide +kernel) (by decide +kernel)
set_option maxRecDepth 20000 in
theorem gX8_height_X8_layHeights : GoodIn wsX8_height (wsV RX8 100 RX8 yX8_layHeights wsX8_layHeights) := goodIn_app (goodIn_of _ (by decide +kernel)) ggX8_height_X8_layHeights
theorem dX8_height_0 : decode cX8_height 0 = .ok (.iload_n 1, 1) := by decide +kernel
theorem dX8_height_1 : decode cX8_height 1 = .ok (.invokestatic 63, 3) := by decide +kernel
theorem dX8_height_4 : decode cX8_height 4 = .ok (.ifCond .ne 5, 3) := by decide +kernel
theorem dX8_height_7 : decode cX8_height 7 = .ok (.iconst (-1), 1) := by decide +kernel
theorem dX8_height_8 : decode cX8_height 8 = .ok (.ireturn, 1) := by decide +kernel
theorem dX8_height_9 : decode cX8_height 9 = .ok (.iload_n 2, 1) := by decide +kernel
theorem dX8_height_10 : decode cX8_height 10 = .ok (.iconst 0, 1) := by decide +kernel
theorem dX8_height_11 : decode cX8_height 11 = .ok (.sipush 300, 3) := by decide +kernel
theorem dX8_height_14 : decode cX8_height 14 = .ok (.invokestatic 44, 3) := by decide +kernel
theorem dX8_height_17 : decode cX8_height 17 = .ok (.ifCond .ne 6, 3) := by decide +kernel
theorem dX8_height_20 : decode cX8_height 20 = .ok (.bipush (-2), 2) := by decide +kernel
theorem dX8_height_22 : decode cX8_height 22 = .ok (.ireturn, 1) := by decide +kernel
theorem dX8_height_23 : decode cX8_height 23 = .ok (.aload_n 0, 1) := by decide +kernel
theorem dX8_height_24 : decode cX8_height 24 = .ok (.iload_n 1, 1) := by decide +kernel
theorem dX8_height_25 : decode cX8_height 25 = .ok (.invokevirtual 100, 3) := by decide +kernel
theorem dX8_height_28 : decode cX8_height 28 = .ok (.aload_n 0, 1) := by decide +kernel
theorem dX8_height_29 : decode cX8_height 29 = .ok (.getfield 23, 3) := by decide +kernel
theorem dX8_height_32 : decode cX8_height 32 = .ok (.iload_n 2, 1) := by decide +kernel
theorem dX8_height_33 : decode cX8_height 33 = .ok (.iaload, 1) := by decide +kernel
theorem dX8_height_34 : decode cX8_height 34 = .ok (.ireturn, 1) := by decide +kernel
set_option maxRecDepth 20000 in
theorem ggX8_layRows_X8_layHeights : GoodIn wsX8_layRows wsX8_layHeights := goodIn_r _ [7, 2, 8, 9, 10, 11, 6, 12, 13, 14, 15, 16, 17, 18, 19, 20, 21, 22, 23, 24, 25, 26, 27, 28] (by decide +kernel) (by decide +kernel)
set_option maxRecDepth 20000 in
theorem gX8_layRows_X8_layHeights : GoodIn wsX8_layRows (wsV RX8 100 RX8 yX8_layHeights wsX8_layHeights) := goodIn_app (goodIn_of _ (by decide +kernel)) ggX8_layRows_X8_layHeights
theorem dX8_layRows_0 : decode cX8_layRows 0 = .ok (.iconst 0, 1) := by decide +kernel
theorem dX8_layRows_1 : decode cX8_layRows 1 = .ok (.istore_n 1, 1) := by decide +kernel
theorem dX8_layRows_2 : decode cX8_layRows 2 = .ok (.iload_n 1, 1) := by decide +kernel
theorem dX8_layRows_3 : decode cX8_layRows 3 = .ok (.bipush 10, 2) := by decide +kernel
theorem dX8_layRows_5 : decode cX8_layRows 5 = .ok (.if_icmp .ge 47, 3) := by decide +kernel
theorem dX8_layRows_8 : decode cX8_layRows 8 = .ok (.aload_n 0, 1) := by decide +kernel
theorem dX8_layRows_9 : decode cX8_layRows 9 = .ok (.iload_n 1, 1) := by decide +kernel
theorem dX8_layRows_10 : decode cX8_layRows 10 = .ok (.invokevirtual 100, 3) := by decide +kernel
theorem dX8_layRows_13 : decode cX8_layRows 13 = .ok (.iconst 0, 1) := by decide +kernel
theorem dX8_layRows_14 : decode cX8_layRows 14 = .ok (.istore_n 2, 1) := by decide +kernel
theorem dX8_layRows_15 : decode cX8_layRows 15 = .ok (.iload_n 2, 1) := by decide +kernel
theorem dX8_layRows_16 : decode cX8_layRows 16 = .ok (.sipush 300, 3) := by decide +kernel
theorem dX8_layRows_19 : decode cX8_layRows 19 = .ok (.if_icmp .gt 27, 3) := by decide +kernel
theorem dX8_layRows_22 : decode cX8_layRows 22 = .ok (.aload_n 0, 1) := by decide +kernel
theorem dX8_layRows_23 : decode cX8_layRows 23 = .ok (.getfield 26, 3) := by decide +kernel
theorem dX8_layRows_26 : decode cX8_layRows 26 = .ok (.sipush 301, 3) := by decide +kernel
theorem dX8_layRows_29 : decode cX8_layRows 29 = .ok (.iload_n 1, 1) := by decide +kernel
theorem dX8_layRows_30 : decode cX8_layRows 30 = .ok (.imul, 1) := by decide +kernel
theorem dX8_layRows_31 : decode cX8_layRows 31 = .ok (.iload_n 2, 1) := by decide +kernel
theorem dX8_layRows_32 : decode cX8_layRows 32 = .ok (.iadd, 1) := by decide +kernel
theorem dX8_layRows_33 : decode cX8_layRows 33 = .ok (.aload_n 0, 1) := by decide +kernel
theorem dX8_layRows_34 : decode cX8_layRows 34 = .ok (.getfield 23, 3) := by decide +kernel
theorem dX8_layRows_37 : decode cX8_layRows 37 = .ok (.iload_n 2, 1) := by decide +kernel
theorem dX8_layRows_38 : decode cX8_layRows 38 = .ok (.iaload, 1) := by decide +kernel
theorem dX8_layRows_39 : decode cX8_layRows 39 = .ok (.iastore, 1) := by decide +kernel
theorem dX8_layRows_40 : decode cX8_layRows 40 = .ok (.iinc 2 1, 3) := by decide +kernel
theorem dX8_layRows_43 : decode cX8_layRows 43 = .ok (.goto (-28), 3) := by decide +kernel
theorem dX8_layRows_46 : decode cX8_layRows 46 = .ok (.iinc 1 1, 3) := by decide +kernel
theorem dX8_layRows_49 : decode cX8_layRows 49 = .ok (.goto (-47), 3) := by decide +kernel
theorem dX8_layRows_52 : decode cX8_layRows 52 = .ok (.return_, 1) := by decide +kernel
set_option maxRecDepth 20000 in
theorem ggX8_areNear_X8_size : GoodIn wsX8_areNear wsX8_size := goodIn_r _ [5] (by decide +kernel) (by decide +kernel)
set_option maxRecDepth 20000 in
theorem gX8_areNear_X8_size : GoodIn wsX8_areNear (va_wsS RX8 59 yX8_size wsX8_size) := goodIn_app (goodIn_of _ (by decide +kernel)) ggX8_areNear_X8_size
theorem dX8_areNear_0 : decode cX8_areNear 0 = .ok (.iload_n 1, 1) := by decide +kernel
theorem dX8_areNear_1 : decode cX8_areNear 1 = .ok (.iload_n 2, 1) := by decide +kernel
theorem dX8_areNear_2 : decode cX8_areNear 2 = .ok (.isub, 1) := by decide +kernel
theorem dX8_areNear_3 : decode cX8_areNear 3 = .ok (.invokestatic 59, 3) := by decide +kernel
theorem dX8_areNear_6 : decode cX8_areNear 6 = .ok (.aload_n 0, 1) := by decide +kernel
theorem dX8_areNear_7 : decode cX8_areNear 7 = .ok (.getfield 7, 3) := by decide +kernel
theorem dX8_areNear_10 : decode cX8_areNear 10 = .ok (.bipush 20, 2) := by decide +kernel
theorem dX8_areNear_12 : decode cX8_areNear 12 = .ok (.iload_n 1, 1) := by decide +kernel
theorem dX8_areNear_13 : decode cX8_areNear 13 = .ok (.iadd, 1) := by decide +kernel
theorem dX8_areNear_14 : decode cX8_areNear 14 = .ok (.iaload, 1) := by decide +kernel
theorem dX8_areNear_15 : decode cX8_areNear 15 = .ok (.aload_n 0, 1) := by decide +kernel
theorem dX8_areNear_16 : decode cX8_areNear 16 = .ok (.getfield 7, 3) := by decide +kernel
theorem dX8_areNear_19 : decode cX8_areNear 19 = .ok (.bipush 20, 2) := by decide +kernel
theorem dX8_areNear_21 : decode cX8_areNear 21 = .ok (.iload_n 2, 1) := by decide +kernel
theorem dX8_areNear_22 : decode cX8_areNear 22 = .ok (.iadd, 1) := by decide +kernel
theorem dX8_areNear_23 : decode cX8_areNear 23 = .ok (.iaload, 1) := by decide +kernel
theorem dX8_areNear_24 : decode cX8_areNear 24 = .ok (.iadd, 1) := by decide +kernel
theorem dX8_areNear_25 : decode cX8_areNear 25 = .ok (.if_icmp .gt 7, 3) := by decide +kernel
theorem dX8_areNear_28 : decode cX8_areNear 28 = .ok (.iconst 1, 1) := by decide +kernel
theorem dX8_areNear_29 : decode cX8_areNear 29 = .ok (.goto 4, 3) := by decide +kernel
theorem dX8_areNear_32 : decode cX8_areNear 32 = .ok (.iconst 0, 1) := by decide +kernel
theorem dX8_areNear_33 : decode cX8_areNear 33 = .ok (.ireturn, 1) := by decide +kernel
set_option maxRecDepth 20000 in
theorem ggX8_doStrike_X8_areNear : GoodIn wsX8_doStrike wsX8_areNear := goodIn_r _ [7, 2, 8, 9, 6, 10, 11, 12, 13, 14, 15, 16, 17, 18, 19, 20, 21, 22, 23] (by decide +kernel) (by decide +kernel)
set_option maxRecDepth 20000 in
theorem gX8_doStrike_X8_areNear : GoodIn wsX8_doStrike (wsV RX8 109 RX8 yX8_areNear wsX8_areNear) := goodIn_app (goodIn_of _ (by decide +kernel)) ggX8_doStrike_X8_areNear
theorem dX8_doStrike_0 : decode cX8_doStrike 0 = .ok (.aload_n 0, 1) := by decide +kernel
theorem dX8_doStrike_1 : decode cX8_doStrike 1 = .ok (.getfield 26, 3) := by decide +kernel
theorem dX8_doStrike_4 : decode cX8_doStrike 4 = .ok (.sipush 301, 3) := by decide +kernel
theorem dX8_doStrike_7 : decode cX8_doStrike 7 = .ok (.iload_n 1, 1) := by decide +kernel
theorem dX8_doStrike_8 : decode cX8_doStrike 8 = .ok (.imul, 1) := by decide +kernel
theorem dX8_doStrike_9 : decode cX8_doStrike 9 = .ok (.iload_n 3, 1) := by decide +kernel
theorem dX8_doStrike_10 : decode cX8_doStrike 10 = .ok (.iadd, 1) := by decide +kernel
theorem dX8_doStrike_11 : decode cX8_doStrike 11 = .ok (.iaload, 1) := by decide +kernel
theorem dX8_doStrike_12 : decode cX8_doStrike 12 = .ok (.istore 4, 2) := by decide +kernel
theorem dX8_doStrike_14 : decode cX8_doStrike 14 = .ok (.aload_n 0, 1) := by decide +kernel
theorem dX8_doStrike_15 : decode cX8_doStrike 15 = .ok (.getfield 26, 3) := by decide +kernel
theorem dX8_doStrike_18 : decode cX8_doStrike 18 = .ok (.sipush 301, 3) := by decide +kernel
theorem dX8_doStrike_21 : decode cX8_doStrike 21 = .ok (.iload_n 2, 1) := by decide +kernel
theorem dX8_doStrike_22 : decode cX8_doStrike 22 = .ok (.imul, 1) := by decide +kernel
theorem dX8_doStrike_23 : decode cX8_doStrike 23 = .ok (.iload_n 3, 1) := by decide +kernel
theorem dX8_doStrike_24 : decode cX8_doStrike 24 = .ok (.iadd, 1) := by decide +kernel
theorem dX8_doStrike_25 : decode cX8_doStrike 25 = .ok (.iaload, 1) := by decide +kernel
theorem dX8_doStrike_26 : decode cX8_doStrike 26 = .ok (.istore 5, 2) := by decide +kernel
theorem dX8_doStrike_28 : decode cX8_doStrike 28 = .ok (.aload_n 0, 1) := by decide +kernel
theorem dX8_doStrike_29 : decode cX8_doStrike 29 = .ok (.getfield 7, 3) := by decide +kernel
theorem dX8_doStrike_32 : decode cX8_doStrike 32 = .ok (.bipush 10, 2) := by decide +kernel
theorem dX8_doStrike_34 : decode cX8_doStrike 34 = .ok (.iload_n 1, 1) := by decide +kernel
theorem dX8_doStrike_35 : decode cX8_doStrike 35 = .ok (.iadd, 1) := by decide +kernel
theorem dX8_doStrike_36 : decode cX8_doStrike 36 = .ok (.iaload, 1) := by decide +kernel
theorem dX8_doStrike_37 : decode cX8_doStrike 37 = .ok (.ifCond .le 19, 3) := by decide +kernel
theorem dX8_doStrike_40 : decode cX8_doStrike 40 = .ok (.aload_n 0, 1) := by decide +kernel
theorem dX8_doStrike_41 : decode cX8_doStrike 41 = .ok (.getfield 7, 3) := by decide +kernel
theorem dX8_doStrike_44 : decode cX8_doStrike 44 = .ok (.bipush 10, 2) := by decide +kernel
theorem dX8_doStrike_46 : decode cX8_doStrike 46 = .ok (.iload_n 2, 1) := by decide +kernel
theorem dX8_doStrike_47 : decode cX8_doStrike 47 = .ok (.iadd, 1) := by decide +kernel
theorem dX8_doStrike_48 : decode cX8_doStrike 48 = .ok (.iaload, 1) := by decide +kernel
theorem dX8_doStrike_49 : decode cX8_doStrike 49 = .ok (.ifCond .le 7, 3) := by decide +kernel
theorem dX8_doStrike_52 : decode cX8_doStrike 52 = .ok (.iconst 1, 1) := by decide +kernel
theorem dX8_doStrike_53 : decode cX8_doStrike 53 = .ok (.goto 4, 3) := by decide +kernel
theorem dX8_doStrike_56 : decode cX8_doStrike 56 = .ok (.iconst 0, 1) := by decide +kernel
theorem dX8_doStrike_57 : decode cX8_doStrike 57 = .ok (.istore 6, 2) := by decide +kernel
theorem dX8_doStrike_59 : decode cX8_doStrike 59 = .ok (.iload 6, 2) := by decide +kernel
theorem dX8_doStrike_61 : decode cX8_doStrike 61 = .ok (.ifCond .eq 50, 3) := by decide +kernel
theorem dX8_doStrike_64 : decode cX8_doStrike 64 = .ok (.aload_n 0, 1) := by decide +kernel
theorem dX8_doStrike_65 : decode cX8_doStrike 65 = .ok (.iload_n 1, 1) := by decide +kernel
theorem dX8_doStrike_66 : decode cX8_doStrike 66 = .ok (.iload_n 2, 1) := by decide +kernel
theorem dX8_doStrike_67 : decode cX8_doStrike 67 = .ok (.invokevirtual 109, 3) := by decide +kernel
theorem dX8_doStrike_70 : decode cX8_doStrike 70 = .ok (.ifCond .eq 41, 3) := by decide +kernel
theorem dX8_doStrike_73 : decode cX8_doStrike 73 = .ok (.iload 4, 2) := by decide +kernel
theorem dX8_doStrike_75 : decode cX8_doStrike 75 = .ok (.aload_n 0, 1) := by decide +kernel
theorem dX8_doStrike_76 : decode cX8_doStrike 76 = .ok (.getfield 7, 3) := by decide +kernel
theorem dX8_doStrike_79 : decode cX8_doStrike 79 = .ok (.bipush 10, 2) := by decide +kernel
theorem dX8_doStrike_81 : decode cX8_doStrike 81 = .ok (.iload_n 1, 1) := by decide +kernel
theorem dX8_doStrike_82 : decode cX8_doStrike 82 = .ok (.iadd, 1) := by decide +kernel
theorem dX8_doStrike_83 : decode cX8_doStrike 83 = .ok (.iaload, 1) := by decide +kernel
theorem dX8_doStrike_84 : decode cX8_doStrike 84 = .ok (.isub, 1) := by decide +kernel
theorem dX8_doStrike_85 : decode cX8_doStrike 85 = .ok (.iload 5, 2) := by decide +kernel
theorem dX8_doStrike_87 : decode cX8_doStrike 87 = .ok (.if_icmp .ge 24, 3) := by decide +kernel
theorem dX8_doStrike_90 : decode cX8_doStrike 90 = .ok (.iload 5, 2) := by decide +kernel
theorem dX8_doStrike_92 : decode cX8_doStrike 92 = .ok (.aload_n 0, 1) := by decide +kernel
theorem dX8_doStrike_93 : decode cX8_doStrike 93 = .ok (.getfield 7, 3) := by decide +kernel
theorem dX8_doStrike_96 : decode cX8_doStrike 96 = .ok (.bipush 10, 2) := by decide +kernel
theorem dX8_doStrike_98 : decode cX8_doStrike 98 = .ok (.iload_n 2, 1) := by decide +kernel
theorem dX8_doStrike_99 : decode cX8_doStrike 99 = .ok (.iadd, 1) := by decide +kernel
theorem dX8_doStrike_100 : decode cX8_doStrike 100 = .ok (.iaload, 1) := by decide +kernel
theorem dX8_doStrike_101 : decode cX8_doStrike 101 = .ok (.isub, 1) := by decide +kernel
theorem dX8_doStrike_102 : decode cX8_doStrike 102 = .ok (.iload 4, 2) := by decide +kernel
theorem dX8_doStrike_104 : decode cX8_doStrike 104 = .ok (.if_icmp .ge 7, 3) := by decide +kernel
theorem dX8_doStrike_107 : decode cX8_doStrike 107 = .ok (.iconst 1, 1) := by decide +kernel
theorem dX8_doStrike_108 : decode cX8_doStrike 108 = .ok (.goto 4, 3) := by decide +kernel
theorem dX8_doStrike_111 : decode cX8_doStrike 111 = .ok (.iconst 0, 1) := by decide +kernel
theorem dX8_doStrike_112 : decode cX8_doStrike 112 = .ok (.ireturn, 1) := by decide +kernel
set_option maxRecDepth 20000 in
theorem ggX8_strike_X8_isBar : GoodIn wsX8_strike wsX8_isBar := goodIn_r _ [4, 5, 6, 3, 7] (by decide +kernel) (by decide +kernel)
set_option maxRecDepth 20000 in
theorem gX8_strike_X8_isBar : GoodIn wsX8_strike (va_wsS RX8 63 yX8_isBar wsX8_isBar) := goodIn_app (goodIn_of _ (by decide +kernel)) ggX8_strike_X8_isBar
set_option maxRecDepth 20000 in
theorem ggX8_strike_X8_in : GoodIn wsX8_strike wsX8_in := goodIn_r _ [7] (by decide +kernel) (by decide +kernel)
set_option maxRecDepth 20000 in
theorem gX8_strike_X8_in : GoodIn wsX8_strike (va_wsS RX8 44 yX8_in wsX8_in) := goodIn_app (goodIn_of _ (by decide +kernel)) ggX8_strike_X8_in
set_option maxRecDepth 20000 in
theorem ggX8_strike_X8_layRows : GoodIn wsX8_strike wsX8_layRows := goodIn_r _ [11, 12, 13, 14, 15, 16, 3, 17, 18, 19, 20, 21, 22, 23, 24, 25, 34, 35, 36, 37, 38, 39, 40, 41, 42, 43, 44, 45, 46] (by decide +kernel) (by decide +kernel)
set_option maxRecDepth 20000 in
theorem gX8_strike_X8_layRows : GoodIn wsX8_strike (wsV RX8 112 RX8 yX8_layRows wsX8_layRows) := goodIn_app (goodIn_of _ (by decide +kernel)) ggX8_strike_X8_layRows
set_option maxRecDepth 20000 in
theorem ggX8_strike_X8_doStrike : GoodIn wsX8_strike wsX8_doStrike := goodIn_r _ [29, 12, 18, 30, 31, 32, 3, 33, 23, 24, 25, 34, 35, 36, 37, 38, 39, 40, 41, 42, 43, 44, 45, 46] (by decide +kernel) (by decide +kernel)
set_option maxRecDepth 20000 in
theorem gX8_strike_X8_doStrike : GoodIn wsX8_strike (wsV RX8 115 RX8 yX8_doStrike wsX8_doStrike) := goodIn_app (goodIn_of _ (by decide +kernel)) ggX8_strike_X8_doStrike
theorem dX8_strike_0 : decode cX8_strike 0 = .ok (.iload_n 1, 1) := by decide +kernel
theorem dX8_strike_1 : decode cX8_strike 1 = .ok (.invokestatic 63, 3) := by decide +kernel
theorem dX8_strike_4 : decode cX8_strike 4 = .ok (.ifCond .eq 10, 3) := by decide +kernel
theorem dX8_strike_7 : decode cX8_strike 7 = .ok (.iload_n 2, 1) := by decide +kernel
theorem dX8_strike_8 : decode cX8_strike 8 = .ok (.invokestatic 63, 3) := by decide +kernel
theorem dX8_strike_11 : decode cX8_strike 11 = .ok (.ifCond .ne 5, 3) := by decide +kernel
theorem dX8_strike_14 : decode cX8_strike 14 = .ok (.iconst (-1), 1) := by decide +kernel
theorem dX8_strike_15 : decode cX8_strike 15 = .ok (.ireturn, 1) := by decide +kernel
theorem dX8_strike_16 : decode cX8_strike 16 = .ok (.iload_n 1, 1) := by decide +kernel
theorem dX8_strike_17 : decode cX8_strike 17 = .ok (.iload_n 2, 1) := by decide +kernel
theorem dX8_strike_18 : decode cX8_strike 18 = .ok (.if_icmp .eq 14, 3) := by decide +kernel
theorem dX8_strike_21 : decode cX8_strike 21 = .ok (.iload_n 3, 1) := by decide +kernel
theorem dX8_strike_22 : decode cX8_strike 22 = .ok (.iconst 0, 1) := by decide +kernel
theorem dX8_strike_23 : decode cX8_strike 23 = .ok (.sipush 300, 3) := by decide +kernel
theorem dX8_strike_26 : decode cX8_strike 26 = .ok (.invokestatic 44, 3) := by decide +kernel
theorem dX8_strike_29 : decode cX8_strike 29 = .ok (.ifCond .ne 6, 3) := by decide +kernel
theorem dX8_strike_32 : decode cX8_strike 32 = .ok (.bipush (-2), 2) := by decide +kernel
theorem dX8_strike_34 : decode cX8_strike 34 = .ok (.ireturn, 1) := by decide +kernel
theorem dX8_strike_35 : decode cX8_strike 35 = .ok (.aload_n 0, 1) := by decide +kernel
theorem dX8_strike_36 : decode cX8_strike 36 = .ok (.invokevirtual 112, 3) := by decide +kernel
theorem dX8_strike_39 : decode cX8_strike 39 = .ok (.aload_n 0, 1) := by decide +kernel
theorem dX8_strike_40 : decode cX8_strike 40 = .ok (.iload_n 1, 1) := by decide +kernel
theorem dX8_strike_41 : decode cX8_strike 41 = .ok (.iload_n 2, 1) := by decide +kernel
theorem dX8_strike_42 : decode cX8_strike 42 = .ok (.iload_n 3, 1) := by decide +kernel
theorem dX8_strike_43 : decode cX8_strike 43 = .ok (.invokevirtual 115, 3) := by decide +kernel
theorem dX8_strike_46 : decode cX8_strike 46 = .ok (.ifCond .eq 7, 3) := by decide +kernel
theorem dX8_strike_49 : decode cX8_strike 49 = .ok (.iconst 1, 1) := by decide +kernel
theorem dX8_strike_50 : decode cX8_strike 50 = .ok (.goto 4, 3) := by decide +kernel
theorem dX8_strike_53 : decode cX8_strike 53 = .ok (.iconst 0, 1) := by decide +kernel
theorem dX8_strike_54 : decode cX8_strike 54 = .ok (.ireturn, 1) := by decide +kernel
set_option maxRecDepth 20000 in
theorem ggX8_clash_X8_in : GoodIn wsX8_clash wsX8_in := goodIn_r _ [4] (by decide +kernel) (by decide +kernel)
set_option maxRecDepth 20000 in
theorem gX8_clash_X8_in : GoodIn wsX8_clash (va_wsS RX8 44 yX8_in wsX8_in) := goodIn_app (goodIn_of _ (by decide +kernel)) ggX8_clash_X8_in
set_option maxRecDepth 20000 in
theorem ggX8_clash_X8_layRows : GoodIn wsX8_clash wsX8_layRows := goodIn_r _ [8, 9, 10, 11, 12, 13, 3, 14, 15, 16, 17, 18, 19, 20, 21, 22, 31, 32, 33, 34, 35, 36, 37, 38, 39, 40, 41, 42, 43] (by decide +kernel) (by decide +kernel)
set_option maxRecDepth 20000 in
theorem gX8_clash_X8_layRows : GoodIn wsX8_clash (wsV RX8 112 RX8 yX8_layRows wsX8_layRows) := goodIn_app (goodIn_of _ (by decide +kernel)) ggX8_clash_X8_layRows
set_option maxRecDepth 20000 in
theorem ggX8_clash_X8_doStrike : GoodIn wsX8_clash wsX8_doStrike := goodIn_r _ [26, 9, 15, 27, 28, 29, 3, 30, 20, 21, 22, 31, 32, 33, 34, 35, 36, 37, 38, 39, 40, 41, 42, 43] (by decide +kernel) (by decide +kernel)
set_option maxRecDepth 20000 in
theorem gX8_clash_X8_doStrike : GoodIn wsX8_clash (wsV RX8 115 RX8 yX8_doStrike wsX8_doStrike) := goodIn_app (goodIn_of _ (by decide +kernel)) ggX8_clash_X8_doStrike
theorem dX8_clash_0 : decode cX8_clash 0 = .ok (.iload_n 1, 1) := by decide +kernel
theorem dX8_clash_1 : decode cX8_clash 1 = .ok (.iconst 0, 1) := by decide +kernel
theorem dX8_clash_2 : decode cX8_clash 2 = .ok (.sipush 300, 3) := by decide +kernel
theorem dX8_clash_5 : decode cX8_clash 5 = .ok (.invokestatic 44, 3) := by decide +kernel
theorem dX8_clash_8 : decode cX8_clash 8 = .ok (.ifCond .eq 12, 3) := by decide +kernel
theorem dX8_clash_11 : decode cX8_clash 11 = .ok (.iload_n 2, 1) := by decide +kernel
theorem dX8_clash_12 : decode cX8_clash 12 = .ok (.iconst 0, 1) := by decide +kernel
theorem dX8_clash_13 : decode cX8_clash 13 = .ok (.iconst 2, 1) := by decide +kernel
theorem dX8_clash_14 : decode cX8_clash 14 = .ok (.invokestatic 44, 3) := by decide +kernel
theorem dX8_clash_17 : decode cX8_clash 17 = .ok (.ifCond .ne 6, 3) := by decide +kernel
theorem dX8_clash_20 : decode cX8_clash 20 = .ok (.bipush (-2), 2) := by decide +kernel
theorem dX8_clash_22 : decode cX8_clash 22 = .ok (.ireturn, 1) := by decide +kernel
theorem dX8_clash_23 : decode cX8_clash 23 = .ok (.aload_n 0, 1) := by decide +kernel
theorem dX8_clash_24 : decode cX8_clash 24 = .ok (.invokevirtual 112, 3) := by decide +kernel
theorem dX8_clash_27 : decode cX8_clash 27 = .ok (.iload_n 1, 1) := by decide +kernel
theorem dX8_clash_28 : decode cX8_clash 28 = .ok (.istore_n 3, 1) := by decide +kernel
theorem dX8_clash_29 : decode cX8_clash 29 = .ok (.iload_n 3, 1) := by decide +kernel
theorem dX8_clash_30 : decode cX8_clash 30 = .ok (.sipush 300, 3) := by decide +kernel
theorem dX8_clash_33 : decode cX8_clash 33 = .ok (.if_icmp .gt 77, 3) := by decide +kernel
theorem dX8_clash_36 : decode cX8_clash 36 = .ok (.iconst 0, 1) := by decide +kernel
theorem dX8_clash_37 : decode cX8_clash 37 = .ok (.istore 4, 2) := by decide +kernel
theorem dX8_clash_39 : decode cX8_clash 39 = .ok (.iload 4, 2) := by decide +kernel
theorem dX8_clash_41 : decode cX8_clash 41 = .ok (.bipush 10, 2) := by decide +kernel
theorem dX8_clash_43 : decode cX8_clash 43 = .ok (.if_icmp .ge 61, 3) := by decide +kernel
theorem dX8_clash_46 : decode cX8_clash 46 = .ok (.iload 4, 2) := by decide +kernel
theorem dX8_clash_48 : decode cX8_clash 48 = .ok (.iconst 1, 1) := by decide +kernel
theorem dX8_clash_49 : decode cX8_clash 49 = .ok (.iadd, 1) := by decide +kernel
theorem dX8_clash_50 : decode cX8_clash 50 = .ok (.istore 5, 2) := by decide +kernel
theorem dX8_clash_52 : decode cX8_clash 52 = .ok (.iload 5, 2) := by decide +kernel
theorem dX8_clash_54 : decode cX8_clash 54 = .ok (.bipush 10, 2) := by decide +kernel
theorem dX8_clash_56 : decode cX8_clash 56 = .ok (.if_icmp .ge 42, 3) := by decide +kernel
theorem dX8_clash_59 : decode cX8_clash 59 = .ok (.aload_n 0, 1) := by decide +kernel
theorem dX8_clash_60 : decode cX8_clash 60 = .ok (.iload 4, 2) := by decide +kernel
theorem dX8_clash_62 : decode cX8_clash 62 = .ok (.iload 5, 2) := by decide +kernel
theorem dX8_clash_64 : decode cX8_clash 64 = .ok (.iload_n 3, 1) := by decide +kernel
theorem dX8_clash_65 : decode cX8_clash 65 = .ok (.invokevirtual 115, 3) := by decide +kernel
theorem dX8_clash_68 : decode cX8_clash 68 = .ok (.ifCond .eq 24, 3) := by decide +kernel
theorem dX8_clash_71 : decode cX8_clash 71 = .ok (.iload_n 2, 1) := by decide +kernel
theorem dX8_clash_72 : decode cX8_clash 72 = .ok (.ifCond .ne 7, 3) := by decide +kernel
theorem dX8_clash_75 : decode cX8_clash 75 = .ok (.iload_n 3, 1) := by decide +kernel
theorem dX8_clash_76 : decode cX8_clash 76 = .ok (.goto 15, 3) := by decide +kernel
theorem dX8_clash_79 : decode cX8_clash 79 = .ok (.iload_n 2, 1) := by decide +kernel
theorem dX8_clash_80 : decode cX8_clash 80 = .ok (.iconst 1, 1) := by decide +kernel
theorem dX8_clash_81 : decode cX8_clash 81 = .ok (.if_icmp .ne 8, 3) := by decide +kernel
theorem dX8_clash_84 : decode cX8_clash 84 = .ok (.iload 4, 2) := by decide +kernel
theorem dX8_clash_86 : decode cX8_clash 86 = .ok (.goto 5, 3) := by decide +kernel
theorem dX8_clash_89 : decode cX8_clash 89 = .ok (.iload 5, 2) := by decide +kernel
theorem dX8_clash_91 : decode cX8_clash 91 = .ok (.ireturn, 1) := by decide +kernel
theorem dX8_clash_92 : decode cX8_clash 92 = .ok (.iinc 5 1, 3) := by decide +kernel
theorem dX8_clash_95 : decode cX8_clash 95 = .ok (.goto (-43), 3) := by decide +kernel
theorem dX8_clash_98 : decode cX8_clash 98 = .ok (.iinc 4 1, 3) := by decide +kernel
theorem dX8_clash_101 : decode cX8_clash 101 = .ok (.goto (-62), 3) := by decide +kernel
theorem dX8_clash_104 : decode cX8_clash 104 = .ok (.iinc 3 1, 3) := by decide +kernel
theorem dX8_clash_107 : decode cX8_clash 107 = .ok (.goto (-78), 3) := by decide +kernel
theorem dX8_clash_110 : decode cX8_clash 110 = .ok (.bipush (-6), 2) := by decide +kernel
theorem dX8_clash_112 : decode cX8_clash 112 = .ok (.ireturn, 1) := by decide +kernel
set_option maxRecDepth 20000 in
theorem ggX8_often_X8_isBar : GoodIn wsX8_often wsX8_isBar := goodIn_r _ [4, 5, 6, 3, 7] (by decide +kernel) (by decide +kernel)
set_option maxRecDepth 20000 in
theorem gX8_often_X8_isBar : GoodIn wsX8_often (va_wsS RX8 63 yX8_isBar wsX8_isBar) := goodIn_app (goodIn_of _ (by decide +kernel)) ggX8_often_X8_isBar
set_option maxRecDepth 20000 in
theorem ggX8_often_X8_layRows : GoodIn wsX8_often wsX8_layRows := goodIn_r _ [11, 12, 13, 14, 15, 16, 3, 17, 18, 19, 20, 21, 22, 23, 24, 25, 34, 35, 36, 37, 38, 39, 40, 41, 42, 43, 44, 45, 46] (by decide +kernel) (by decide +kernel)
set_option maxRecDepth 20000 in
theorem gX8_often_X8_layRows : GoodIn wsX8_often (wsV RX8 112 RX8 yX8_layRows wsX8_layRows) := goodIn_app (goodIn_of _ (by decide +kernel)) ggX8_often_X8_layRows
set_option maxRecDepth 20000 in
theorem ggX8_often_X8_doStrike : GoodIn wsX8_often wsX8_doStrike := goodIn_r _ [29, 12, 18, 30, 31, 32, 3, 33, 23, 24, 25, 34, 35, 36, 37, 38, 39, 40, 41, 42, 43, 44, 45, 46] (by decide +kernel) (by decide +kernel)
set_option maxRecDepth 20000 in
theorem gX8_often_X8_doStrike : GoodIn wsX8_often (wsV RX8 115 RX8 yX8_doStrike wsX8_doStrike) := goodIn_app (goodIn_of _ (by decide +kernel)) ggX8_often_X8_doStrike
theorem dX8_often_0 : decode cX8_often 0 = .ok (.iload_n 1, 1) := by decide +kernel
theorem dX8_often_1 : decode cX8_often 1 = .ok (.invokestatic 63, 3) := by decide +kernel
theorem dX8_often_4 : decode cX8_often 4 = .ok (.ifCond .eq 10, 3) := by decide +kernel
theorem dX8_often_7 : decode cX8_often 7 = .ok (.iload_n 2, 1) := by decide +kernel
theorem dX8_often_8 : decode cX8_often 8 = .ok (.invokestatic 63, 3) := by decide +kernel
theorem dX8_often_11 : decode cX8_often 11 = .ok (.ifCond .ne 5, 3) := by decide +kernel
theorem dX8_often_14 : decode cX8_often 14 = .ok (.iconst (-1), 1) := by decide +kernel
theorem dX8_often_15 : decode cX8_often 15 = .ok (.ireturn, 1) := by decide +kernel
theorem dX8_often_16 : decode cX8_often 16 = .ok (.iload_n 1, 1) := by decide +kernel
theorem dX8_often_17 : decode cX8_often 17 = .ok (.iload_n 2, 1) := by decide +kernel
theorem dX8_often_18 : decode cX8_often 18 = .ok (.if_icmp .ne 6, 3) := by decide +kernel
theorem dX8_often_21 : decode cX8_often 21 = .ok (.bipush (-2), 2) := by decide +kernel
theorem dX8_often_23 : decode cX8_often 23 = .ok (.ireturn, 1) := by decide +kernel
theorem dX8_often_24 : decode cX8_often 24 = .ok (.aload_n 0, 1) := by decide +kernel
theorem dX8_often_25 : decode cX8_often 25 = .ok (.invokevirtual 112, 3) := by decide +kernel
theorem dX8_often_28 : decode cX8_often 28 = .ok (.iconst 0, 1) := by decide +kernel
theorem dX8_often_29 : decode cX8_often 29 = .ok (.istore_n 3, 1) := by decide +kernel
theorem dX8_often_30 : decode cX8_often 30 = .ok (.iconst 0, 1) := by decide +kernel
theorem dX8_often_31 : decode cX8_often 31 = .ok (.istore 4, 2) := by decide +kernel
theorem dX8_often_33 : decode cX8_often 33 = .ok (.iload 4, 2) := by decide +kernel
theorem dX8_often_35 : decode cX8_often 35 = .ok (.sipush 300, 3) := by decide +kernel
theorem dX8_often_38 : decode cX8_often 38 = .ok (.if_icmp .gt 28, 3) := by decide +kernel
theorem dX8_often_41 : decode cX8_often 41 = .ok (.iload_n 3, 1) := by decide +kernel
theorem dX8_often_42 : decode cX8_often 42 = .ok (.aload_n 0, 1) := by decide +kernel
theorem dX8_often_43 : decode cX8_often 43 = .ok (.iload_n 1, 1) := by decide +kernel
theorem dX8_often_44 : decode cX8_often 44 = .ok (.iload_n 2, 1) := by decide +kernel
theorem dX8_often_45 : decode cX8_often 45 = .ok (.iload 4, 2) := by decide +kernel
theorem dX8_often_47 : decode cX8_often 47 = .ok (.invokevirtual 115, 3) := by decide +kernel
theorem dX8_often_50 : decode cX8_often 50 = .ok (.ifCond .eq 7, 3) := by decide +kernel
theorem dX8_often_53 : decode cX8_often 53 = .ok (.iconst 1, 1) := by decide +kernel
theorem dX8_often_54 : decode cX8_often 54 = .ok (.goto 4, 3) := by decide +kernel
theorem dX8_often_57 : decode cX8_often 57 = .ok (.iconst 0, 1) := by decide +kernel
theorem dX8_often_58 : decode cX8_often 58 = .ok (.iadd, 1) := by decide +kernel
theorem dX8_often_59 : decode cX8_often 59 = .ok (.istore_n 3, 1) := by decide +kernel
theorem dX8_often_60 : decode cX8_often 60 = .ok (.iinc 4 1, 3) := by decide +kernel
theorem dX8_often_63 : decode cX8_often 63 = .ok (.goto (-30), 3) := by decide +kernel
theorem dX8_often_66 : decode cX8_often 66 = .ok (.iload_n 3, 1) := by decide +kernel
theorem dX8_often_67 : decode cX8_often 67 = .ok (.ireturn, 1) := by decide +kernel
theorem dX8_begin_0 : decode cX8_begin 0 = .ok (.aload_n 0, 1) := by decide +kernel
theorem dX8_begin_1 : decode cX8_begin 1 = .ok (.getfield 7, 3) := by decide +kernel
theorem dX8_begin_4 : decode cX8_begin 4 = .ok (.sipush 181, 3) := by decide +kernel
theorem dX8_begin_7 : decode cX8_begin 7 = .ok (.aload_n 0, 1) := by decide +kernel
theorem dX8_begin_8 : decode cX8_begin 8 = .ok (.getfield 29, 3) := by decide +kernel
theorem dX8_begin_11 : decode cX8_begin 11 = .ok (.iload_n 1, 1) := by decide +kernel
theorem dX8_begin_12 : decode cX8_begin 12 = .ok (.iaload, 1) := by decide +kernel
theorem dX8_begin_13 : decode cX8_begin 13 = .ok (.iadd, 1) := by decide +kernel
theorem dX8_begin_14 : decode cX8_begin 14 = .ok (.iaload, 1) := by decide +kernel
theorem dX8_begin_15 : decode cX8_begin 15 = .ok (.ireturn, 1) := by decide +kernel
set_option maxRecDepth 20000 in
theorem ggX8_canDoBoth_X8_size : GoodIn wsX8_canDoBoth wsX8_size := goodIn_r _ [7] (by decide +kernel) (by decide +kernel)
set_option maxRecDepth 20000 in
theorem gX8_canDoBoth_X8_size : GoodIn wsX8_canDoBoth (va_wsS RX8 59 yX8_size wsX8_size) := goodIn_app (goodIn_of _ (by decide +kernel)) ggX8_canDoBoth_X8_size
set_option maxRecDepth 20000 in
theorem ggX8_canDoBoth_X8_begin : GoodIn wsX8_canDoBoth wsX8_begin := goodIn_r _ [11, 1, 2, 12, 13, 14, 15, 16, 17, 18, 19, 20, 21, 22, 23, 24] (by decide +kernel) (by decide +kernel)
set_option maxRecDepth 20000 in
theorem gX8_canDoBoth_X8_begin : GoodIn wsX8_canDoBoth (wsV RX8 118 RX8 yX8_begin wsX8_begin) := goodIn_app (goodIn_of _ (by decide +kernel)) ggX8_canDoBoth_X8_begin
theorem dX8_canDoBoth_0 : decode cX8_canDoBoth 0 = .ok (.aload_n 0, 1) := by decide +kernel
theorem dX8_canDoBoth_1 : decode cX8_canDoBoth 1 = .ok (.getfield 7, 3) := by decide +kernel
theorem dX8_canDoBoth_4 : decode cX8_canDoBoth 4 = .ok (.sipush 171, 3) := by decide +kernel
theorem dX8_canDoBoth_7 : decode cX8_canDoBoth 7 = .ok (.aload_n 0, 1) := by decide +kernel
theorem dX8_canDoBoth_8 : decode cX8_canDoBoth 8 = .ok (.getfield 29, 3) := by decide +kernel
theorem dX8_canDoBoth_11 : decode cX8_canDoBoth 11 = .ok (.iload_n 1, 1) := by decide +kernel
theorem dX8_canDoBoth_12 : decode cX8_canDoBoth 12 = .ok (.iaload, 1) := by decide +kernel
theorem dX8_canDoBoth_13 : decode cX8_canDoBoth 13 = .ok (.iadd, 1) := by decide +kernel
theorem dX8_canDoBoth_14 : decode cX8_canDoBoth 14 = .ok (.iaload, 1) := by decide +kernel
theorem dX8_canDoBoth_15 : decode cX8_canDoBoth 15 = .ok (.aload_n 0, 1) := by decide +kernel
theorem dX8_canDoBoth_16 : decode cX8_canDoBoth 16 = .ok (.getfield 7, 3) := by decide +kernel
theorem dX8_canDoBoth_19 : decode cX8_canDoBoth 19 = .ok (.sipush 171, 3) := by decide +kernel
theorem dX8_canDoBoth_22 : decode cX8_canDoBoth 22 = .ok (.aload_n 0, 1) := by decide +kernel
theorem dX8_canDoBoth_23 : decode cX8_canDoBoth 23 = .ok (.getfield 29, 3) := by decide +kernel
theorem dX8_canDoBoth_26 : decode cX8_canDoBoth 26 = .ok (.iload_n 2, 1) := by decide +kernel
theorem dX8_canDoBoth_27 : decode cX8_canDoBoth 27 = .ok (.iaload, 1) := by decide +kernel
theorem dX8_canDoBoth_28 : decode cX8_canDoBoth 28 = .ok (.iadd, 1) := by decide +kernel
theorem dX8_canDoBoth_29 : decode cX8_canDoBoth 29 = .ok (.iaload, 1) := by decide +kernel
theorem dX8_canDoBoth_30 : decode cX8_canDoBoth 30 = .ok (.isub, 1) := by decide +kernel
theorem dX8_canDoBoth_31 : decode cX8_canDoBoth 31 = .ok (.invokestatic 59, 3) := by decide +kernel
theorem dX8_canDoBoth_34 : decode cX8_canDoBoth 34 = .ok (.istore_n 3, 1) := by decide +kernel
theorem dX8_canDoBoth_35 : decode cX8_canDoBoth 35 = .ok (.aload_n 0, 1) := by decide +kernel
theorem dX8_canDoBoth_36 : decode cX8_canDoBoth 36 = .ok (.getfield 32, 3) := by decide +kernel
theorem dX8_canDoBoth_39 : decode cX8_canDoBoth 39 = .ok (.iload_n 1, 1) := by decide +kernel
theorem dX8_canDoBoth_40 : decode cX8_canDoBoth 40 = .ok (.iaload, 1) := by decide +kernel
theorem dX8_canDoBoth_41 : decode cX8_canDoBoth 41 = .ok (.aload_n 0, 1) := by decide +kernel
theorem dX8_canDoBoth_42 : decode cX8_canDoBoth 42 = .ok (.iload_n 2, 1) := by decide +kernel
theorem dX8_canDoBoth_43 : decode cX8_canDoBoth 43 = .ok (.invokevirtual 118, 3) := by decide +kernel
theorem dX8_canDoBoth_46 : decode cX8_canDoBoth 46 = .ok (.iload_n 3, 1) := by decide +kernel
theorem dX8_canDoBoth_47 : decode cX8_canDoBoth 47 = .ok (.isub, 1) := by decide +kernel
theorem dX8_canDoBoth_48 : decode cX8_canDoBoth 48 = .ok (.if_icmp .le 19, 3) := by decide +kernel
theorem dX8_canDoBoth_51 : decode cX8_canDoBoth 51 = .ok (.aload_n 0, 1) := by decide +kernel
theorem dX8_canDoBoth_52 : decode cX8_canDoBoth 52 = .ok (.getfield 32, 3) := by decide +kernel
theorem dX8_canDoBoth_55 : decode cX8_canDoBoth 55 = .ok (.iload_n 2, 1) := by decide +kernel
theorem dX8_canDoBoth_56 : decode cX8_canDoBoth 56 = .ok (.iaload, 1) := by decide +kernel
theorem dX8_canDoBoth_57 : decode cX8_canDoBoth 57 = .ok (.aload_n 0, 1) := by decide +kernel
theorem dX8_canDoBoth_58 : decode cX8_canDoBoth 58 = .ok (.iload_n 1, 1) := by decide +kernel
theorem dX8_canDoBoth_59 : decode cX8_canDoBoth 59 = .ok (.invokevirtual 118, 3) := by decide +kernel
theorem dX8_canDoBoth_62 : decode cX8_canDoBoth 62 = .ok (.iload_n 3, 1) := by decide +kernel
theorem dX8_canDoBoth_63 : decode cX8_canDoBoth 63 = .ok (.isub, 1) := by decide +kernel
theorem dX8_canDoBoth_64 : decode cX8_canDoBoth 64 = .ok (.if_icmp .gt 7, 3) := by decide +kernel
theorem dX8_canDoBoth_67 : decode cX8_canDoBoth 67 = .ok (.iconst 1, 1) := by decide +kernel
theorem dX8_canDoBoth_68 : decode cX8_canDoBoth 68 = .ok (.goto 4, 3) := by decide +kernel
theorem dX8_canDoBoth_71 : decode cX8_canDoBoth 71 = .ok (.iconst 0, 1) := by decide +kernel
theorem dX8_canDoBoth_72 : decode cX8_canDoBoth 72 = .ok (.ireturn, 1) := by decide +kernel
set_option maxRecDepth 20000 in
theorem ggX8_layAble_X8_isEven : GoodIn wsX8_layAble wsX8_isEven := goodIn_r _ [9, 2, 10, 11, 12, 8, 13, 14, 15, 16, 17, 18, 19, 20, 21, 22, 23, 24, 42, 43, 44, 45, 46, 47, 48, 49, 50, 51, 52, 53, 54] (by decide +kernel) (by decide +kernel)
set_option maxRecDepth 20000 in
theorem gX8_layAble_X8_isEven : GoodIn wsX8_layAble (wsV RX8 70 RX8 yX8_isEven wsX8_isEven) := goodIn_app (goodIn_of _ (by decide +kernel)) ggX8_layAble_X8_isEven
set_option maxRecDepth 20000 in
theorem ggX8_layAble_X8_endOf : GoodIn wsX8_layAble wsX8_endOf := goodIn_r _ [28, 2, 29, 30, 31, 32, 8, 33, 34, 35, 36, 37, 22, 23, 24, 38, 39, 40, 41, 42, 43, 44, 45, 46, 47, 48, 49, 50, 51, 52, 53, 54] (by decide +kernel) (by decide +kernel)
set_option maxRecDepth 20000 in
theorem gX8_layAble_X8_endOf : GoodIn wsX8_layAble (wsV RX8 106 RX8 yX8_endOf wsX8_endOf) := goodIn_app (goodIn_of _ (by decide +kernel)) ggX8_layAble_X8_endOf
theorem dX8_layAble_0 : decode cX8_layAble 0 = .ok (.aload_n 0, 1) := by decide +kernel
theorem dX8_layAble_1 : decode cX8_layAble 1 = .ok (.iconst 0, 1) := by decide +kernel
theorem dX8_layAble_2 : decode cX8_layAble 2 = .ok (.putfield 121, 3) := by decide +kernel
theorem dX8_layAble_5 : decode cX8_layAble 5 = .ok (.iconst 0, 1) := by decide +kernel
theorem dX8_layAble_6 : decode cX8_layAble 6 = .ok (.istore_n 1, 1) := by decide +kernel
theorem dX8_layAble_7 : decode cX8_layAble 7 = .ok (.iload_n 1, 1) := by decide +kernel
theorem dX8_layAble_8 : decode cX8_layAble 8 = .ok (.aload_n 0, 1) := by decide +kernel
theorem dX8_layAble_9 : decode cX8_layAble 9 = .ok (.getfield 7, 3) := by decide +kernel
theorem dX8_layAble_12 : decode cX8_layAble 12 = .ok (.sipush 211, 3) := by decide +kernel
theorem dX8_layAble_15 : decode cX8_layAble 15 = .ok (.iaload, 1) := by decide +kernel
theorem dX8_layAble_16 : decode cX8_layAble 16 = .ok (.if_icmp .ge 60, 3) := by decide +kernel
theorem dX8_layAble_19 : decode cX8_layAble 19 = .ok (.aload_n 0, 1) := by decide +kernel
theorem dX8_layAble_20 : decode cX8_layAble 20 = .ok (.aload_n 0, 1) := by decide +kernel
theorem dX8_layAble_21 : decode cX8_layAble 21 = .ok (.getfield 7, 3) := by decide +kernel
theorem dX8_layAble_24 : decode cX8_layAble 24 = .ok (.sipush 171, 3) := by decide +kernel
theorem dX8_layAble_27 : decode cX8_layAble 27 = .ok (.iload_n 1, 1) := by decide +kernel
theorem dX8_layAble_28 : decode cX8_layAble 28 = .ok (.iadd, 1) := by decide +kernel
theorem dX8_layAble_29 : decode cX8_layAble 29 = .ok (.iaload, 1) := by decide +kernel
theorem dX8_layAble_30 : decode cX8_layAble 30 = .ok (.invokevirtual 70, 3) := by decide +kernel
theorem dX8_layAble_33 : decode cX8_layAble 33 = .ok (.ifCond .eq 37, 3) := by decide +kernel
theorem dX8_layAble_36 : decode cX8_layAble 36 = .ok (.aload_n 0, 1) := by decide +kernel
theorem dX8_layAble_37 : decode cX8_layAble 37 = .ok (.getfield 29, 3) := by decide +kernel
theorem dX8_layAble_40 : decode cX8_layAble 40 = .ok (.aload_n 0, 1) := by decide +kernel
theorem dX8_layAble_41 : decode cX8_layAble 41 = .ok (.getfield 121, 3) := by decide +kernel
theorem dX8_layAble_44 : decode cX8_layAble 44 = .ok (.iload_n 1, 1) := by decide +kernel
theorem dX8_layAble_45 : decode cX8_layAble 45 = .ok (.iastore, 1) := by decide +kernel
theorem dX8_layAble_46 : decode cX8_layAble 46 = .ok (.aload_n 0, 1) := by decide +kernel
theorem dX8_layAble_47 : decode cX8_layAble 47 = .ok (.getfield 32, 3) := by decide +kernel
theorem dX8_layAble_50 : decode cX8_layAble 50 = .ok (.aload_n 0, 1) := by decide +kernel
theorem dX8_layAble_51 : decode cX8_layAble 51 = .ok (.getfield 121, 3) := by decide +kernel
theorem dX8_layAble_54 : decode cX8_layAble 54 = .ok (.aload_n 0, 1) := by decide +kernel
theorem dX8_layAble_55 : decode cX8_layAble 55 = .ok (.iload_n 1, 1) := by decide +kernel
theorem dX8_layAble_56 : decode cX8_layAble 56 = .ok (.invokevirtual 106, 3) := by decide +kernel
theorem dX8_layAble_59 : decode cX8_layAble 59 = .ok (.iastore, 1) := by decide +kernel
theorem dX8_layAble_60 : decode cX8_layAble 60 = .ok (.aload_n 0, 1) := by decide +kernel
theorem dX8_layAble_61 : decode cX8_layAble 61 = .ok (.dup, 1) := by decide +kernel
theorem dX8_layAble_62 : decode cX8_layAble 62 = .ok (.getfield 121, 3) := by decide +kernel
theorem dX8_layAble_65 : decode cX8_layAble 65 = .ok (.iconst 1, 1) := by decide +kernel
theorem dX8_layAble_66 : decode cX8_layAble 66 = .ok (.iadd, 1) := by decide +kernel
theorem dX8_layAble_67 : decode cX8_layAble 67 = .ok (.putfield 121, 3) := by decide +kernel
theorem dX8_layAble_70 : decode cX8_layAble 70 = .ok (.iinc 1 1, 3) := by decide +kernel
theorem dX8_layAble_73 : decode cX8_layAble 73 = .ok (.goto (-66), 3) := by decide +kernel
theorem dX8_layAble_76 : decode cX8_layAble 76 = .ok (.return_, 1) := by decide +kernel
set_option maxRecDepth 20000 in
theorem ggX8_canBeOne_X8_has : GoodIn wsX8_canBeOne wsX8_has := goodIn_r _ [5] (by decide +kernel) (by decide +kernel)
set_option maxRecDepth 20000 in
theorem gX8_canBeOne_X8_has : GoodIn wsX8_canBeOne (va_wsS RX8 80 yX8_has wsX8_has) := goodIn_app (goodIn_of _ (by decide +kernel)) ggX8_canBeOne_X8_has
set_option maxRecDepth 20000 in
theorem ggX8_canBeOne_X8_canDoBoth : GoodIn wsX8_canBeOne wsX8_canDoBoth := goodIn_r _ [9, 10, 11, 12, 13, 14, 4, 15, 16, 17, 18, 19, 20, 21, 22, 23, 24, 25, 26, 27, 28, 29, 30, 31, 32] (by decide +kernel) (by decide +kernel)
set_option maxRecDepth 20000 in
theorem gX8_canBeOne_X8_canDoBoth : GoodIn wsX8_canBeOne (wsV RX8 124 RX8 yX8_canDoBoth wsX8_canDoBoth) := goodIn_app (goodIn_of _ (by decide +kernel)) ggX8_canBeOne_X8_canDoBoth
theorem dX8_canBeOne_0 : decode cX8_canBeOne 0 = .ok (.iconst 0, 1) := by decide +kernel
theorem dX8_canBeOne_1 : decode cX8_canBeOne 1 = .ok (.istore_n 2, 1) := by decide +kernel
theorem dX8_canBeOne_2 : decode cX8_canBeOne 2 = .ok (.iload_n 2, 1) := by decide +kernel
theorem dX8_canBeOne_3 : decode cX8_canBeOne 3 = .ok (.aload_n 0, 1) := by decide +kernel
theorem dX8_canBeOne_4 : decode cX8_canBeOne 4 = .ok (.getfield 121, 3) := by decide +kernel
theorem dX8_canBeOne_7 : decode cX8_canBeOne 7 = .ok (.if_icmp .ge 49, 3) := by decide +kernel
theorem dX8_canBeOne_10 : decode cX8_canBeOne 10 = .ok (.iconst 0, 1) := by decide +kernel
theorem dX8_canBeOne_11 : decode cX8_canBeOne 11 = .ok (.istore_n 3, 1) := by decide +kernel
theorem dX8_canBeOne_12 : decode cX8_canBeOne 12 = .ok (.iload_n 3, 1) := by decide +kernel
theorem dX8_canBeOne_13 : decode cX8_canBeOne 13 = .ok (.iload_n 2, 1) := by decide +kernel
theorem dX8_canBeOne_14 : decode cX8_canBeOne 14 = .ok (.if_icmp .ge 36, 3) := by decide +kernel
theorem dX8_canBeOne_17 : decode cX8_canBeOne 17 = .ok (.iload_n 1, 1) := by decide +kernel
theorem dX8_canBeOne_18 : decode cX8_canBeOne 18 = .ok (.iload_n 2, 1) := by decide +kernel
theorem dX8_canBeOne_19 : decode cX8_canBeOne 19 = .ok (.invokestatic 80, 3) := by decide +kernel
theorem dX8_canBeOne_22 : decode cX8_canBeOne 22 = .ok (.ifCond .eq 22, 3) := by decide +kernel
theorem dX8_canBeOne_25 : decode cX8_canBeOne 25 = .ok (.iload_n 1, 1) := by decide +kernel
theorem dX8_canBeOne_26 : decode cX8_canBeOne 26 = .ok (.iload_n 3, 1) := by decide +kernel
theorem dX8_canBeOne_27 : decode cX8_canBeOne 27 = .ok (.invokestatic 80, 3) := by decide +kernel
theorem dX8_canBeOne_30 : decode cX8_canBeOne 30 = .ok (.ifCond .eq 14, 3) := by decide +kernel
theorem dX8_canBeOne_33 : decode cX8_canBeOne 33 = .ok (.aload_n 0, 1) := by decide +kernel
theorem dX8_canBeOne_34 : decode cX8_canBeOne 34 = .ok (.iload_n 2, 1) := by decide +kernel
theorem dX8_canBeOne_35 : decode cX8_canBeOne 35 = .ok (.iload_n 3, 1) := by decide +kernel
theorem dX8_canBeOne_36 : decode cX8_canBeOne 36 = .ok (.invokevirtual 124, 3) := by decide +kernel
theorem dX8_canBeOne_39 : decode cX8_canBeOne 39 = .ok (.ifCond .ne 5, 3) := by decide +kernel
theorem dX8_canBeOne_42 : decode cX8_canBeOne 42 = .ok (.iconst 0, 1) := by decide +kernel
theorem dX8_canBeOne_43 : decode cX8_canBeOne 43 = .ok (.ireturn, 1) := by decide +kernel
theorem dX8_canBeOne_44 : decode cX8_canBeOne 44 = .ok (.iinc 3 1, 3) := by decide +kernel
theorem dX8_canBeOne_47 : decode cX8_canBeOne 47 = .ok (.goto (-35), 3) := by decide +kernel
theorem dX8_canBeOne_50 : decode cX8_canBeOne 50 = .ok (.iinc 2 1, 3) := by decide +kernel
theorem dX8_canBeOne_53 : decode cX8_canBeOne 53 = .ok (.goto (-51), 3) := by decide +kernel
theorem dX8_canBeOne_56 : decode cX8_canBeOne 56 = .ok (.iconst 1, 1) := by decide +kernel
theorem dX8_canBeOne_57 : decode cX8_canBeOne 57 = .ok (.ireturn, 1) := by decide +kernel
set_option maxRecDepth 20000 in
theorem ggX8_layHands_X8_layAble : GoodIn wsX8_layHands wsX8_layAble := goodIn_r _ [8, 1, 9, 10, 11, 12, 13, 14, 7, 15, 16, 17, 18, 19, 20, 21, 22, 23, 24, 25, 26, 27, 28, 29, 30, 31, 32, 33, 34, 35, 36, 37, 38, 39, 40, 41, 42, 43, 44, 45, 46, 47, 63, 64, 65, 66, 67, 68, 69, 70, 71, 72, 73, 74, 75] (by decide +kernel) (by decide +kernel)
set_option maxRecDepth 20000 in
theorem gX8_layHands_X8_layAble : GoodIn wsX8_layHands (wsV RX8 127 RX8 yX8_layAble wsX8_layAble) := goodIn_app (goodIn_of _ (by decide +kernel)) ggX8_layHands_X8_layAble
set_option maxRecDepth 20000 in
theorem ggX8_layHands_X8_canBeOne : GoodIn wsX8_layHands wsX8_canBeOne := goodIn_r _ [51, 1, 52, 53, 7, 54, 55, 56, 57, 58, 9, 10, 11, 28, 29, 30, 59, 60, 61, 62, 63, 64, 65, 66, 67, 68, 69, 70, 71, 72, 73, 74, 75] (by decide +kernel) (by decide +kernel)
set_option maxRecDepth 20000 in
theorem gX8_layHands_X8_canBeOne : GoodIn wsX8_layHands (wsV RX8 130 RX8 yX8_canBeOne wsX8_canBeOne) := goodIn_app (goodIn_of _ (by decide +kernel)) ggX8_layHands_X8_canBeOne
theorem dX8_layHands_0 : decode cX8_layHands 0 = .ok (.aload_n 0, 1) := by decide +kernel
theorem dX8_layHands_1 : decode cX8_layHands 1 = .ok (.invokevirtual 127, 3) := by decide +kernel
theorem dX8_layHands_4 : decode cX8_layHands 4 = .ok (.iconst 1, 1) := by decide +kernel
theorem dX8_layHands_5 : decode cX8_layHands 5 = .ok (.aload_n 0, 1) := by decide +kernel
theorem dX8_layHands_6 : decode cX8_layHands 6 = .ok (.getfield 121, 3) := by decide +kernel
theorem dX8_layHands_9 : decode cX8_layHands 9 = .ok (.ishl, 1) := by decide +kernel
theorem dX8_layHands_10 : decode cX8_layHands 10 = .ok (.iconst 1, 1) := by decide +kernel
theorem dX8_layHands_11 : decode cX8_layHands 11 = .ok (.isub, 1) := by decide +kernel
theorem dX8_layHands_12 : decode cX8_layHands 12 = .ok (.istore_n 1, 1) := by decide +kernel
theorem dX8_layHands_13 : decode cX8_layHands 13 = .ok (.iconst 0, 1) := by decide +kernel
theorem dX8_layHands_14 : decode cX8_layHands 14 = .ok (.istore_n 2, 1) := by decide +kernel
theorem dX8_layHands_15 : decode cX8_layHands 15 = .ok (.iload_n 2, 1) := by decide +kernel
theorem dX8_layHands_16 : decode cX8_layHands 16 = .ok (.iload_n 1, 1) := by decide +kernel
theorem dX8_layHands_17 : decode cX8_layHands 17 = .ok (.if_icmp .gt 20, 3) := by decide +kernel
theorem dX8_layHands_20 : decode cX8_layHands 20 = .ok (.aload_n 0, 1) := by decide +kernel
theorem dX8_layHands_21 : decode cX8_layHands 21 = .ok (.getfield 35, 3) := by decide +kernel
theorem dX8_layHands_24 : decode cX8_layHands 24 = .ok (.iload_n 2, 1) := by decide +kernel
theorem dX8_layHands_25 : decode cX8_layHands 25 = .ok (.aload_n 0, 1) := by decide +kernel
theorem dX8_layHands_26 : decode cX8_layHands 26 = .ok (.iload_n 2, 1) := by decide +kernel
theorem dX8_layHands_27 : decode cX8_layHands 27 = .ok (.invokevirtual 130, 3) := by decide +kernel
theorem dX8_layHands_30 : decode cX8_layHands 30 = .ok (.bastore, 1) := by decide +kernel
theorem dX8_layHands_31 : decode cX8_layHands 31 = .ok (.iinc 2 1, 3) := by decide +kernel
theorem dX8_layHands_34 : decode cX8_layHands 34 = .ok (.goto (-19), 3) := by decide +kernel
theorem dX8_layHands_37 : decode cX8_layHands 37 = .ok (.aload_n 0, 1) := by decide +kernel
theorem dX8_layHands_38 : decode cX8_layHands 38 = .ok (.getfield 38, 3) := by decide +kernel
theorem dX8_layHands_41 : decode cX8_layHands 41 = .ok (.iconst 0, 1) := by decide +kernel
theorem dX8_layHands_42 : decode cX8_layHands 42 = .ok (.iconst 0, 1) := by decide +kernel
theorem dX8_layHands_43 : decode cX8_layHands 43 = .ok (.iastore, 1) := by decide +kernel
theorem dX8_layHands_44 : decode cX8_layHands 44 = .ok (.iconst 1, 1) := by decide +kernel
theorem dX8_layHands_45 : decode cX8_layHands 45 = .ok (.istore_n 2, 1) := by decide +kernel
theorem dX8_layHands_46 : decode cX8_layHands 46 = .ok (.iload_n 2, 1) := by decide +kernel
theorem dX8_layHands_47 : decode cX8_layHands 47 = .ok (.iload_n 1, 1) := by decide +kernel
theorem dX8_layHands_48 : decode cX8_layHands 48 = .ok (.if_icmp .gt 82, 3) := by decide +kernel
theorem dX8_layHands_51 : decode cX8_layHands 51 = .ok (.aload_n 0, 1) := by decide +kernel
theorem dX8_layHands_52 : decode cX8_layHands 52 = .ok (.getfield 38, 3) := by decide +kernel
theorem dX8_layHands_55 : decode cX8_layHands 55 = .ok (.iload_n 2, 1) := by decide +kernel
theorem dX8_layHands_56 : decode cX8_layHands 56 = .ok (.aload_n 0, 1) := by decide +kernel
theorem dX8_layHands_57 : decode cX8_layHands 57 = .ok (.getfield 121, 3) := by decide +kernel
theorem dX8_layHands_60 : decode cX8_layHands 60 = .ok (.iastore, 1) := by decide +kernel
theorem dX8_layHands_61 : decode cX8_layHands 61 = .ok (.iload_n 2, 1) := by decide +kernel
theorem dX8_layHands_62 : decode cX8_layHands 62 = .ok (.istore_n 3, 1) := by decide +kernel
theorem dX8_layHands_63 : decode cX8_layHands 63 = .ok (.iload_n 3, 1) := by decide +kernel
theorem dX8_layHands_64 : decode cX8_layHands 64 = .ok (.ifCond .le 60, 3) := by decide +kernel
theorem dX8_layHands_67 : decode cX8_layHands 67 = .ok (.aload_n 0, 1) := by decide +kernel
theorem dX8_layHands_68 : decode cX8_layHands 68 = .ok (.getfield 35, 3) := by decide +kernel
theorem dX8_layHands_71 : decode cX8_layHands 71 = .ok (.iload_n 3, 1) := by decide +kernel
theorem dX8_layHands_72 : decode cX8_layHands 72 = .ok (.baload, 1) := by decide +kernel
theorem dX8_layHands_73 : decode cX8_layHands 73 = .ok (.ifCond .eq 42, 3) := by decide +kernel
theorem dX8_layHands_76 : decode cX8_layHands 76 = .ok (.aload_n 0, 1) := by decide +kernel
theorem dX8_layHands_77 : decode cX8_layHands 77 = .ok (.getfield 38, 3) := by decide +kernel
theorem dX8_layHands_80 : decode cX8_layHands 80 = .ok (.iload_n 2, 1) := by decide +kernel
theorem dX8_layHands_81 : decode cX8_layHands 81 = .ok (.iload_n 3, 1) := by decide +kernel
theorem dX8_layHands_82 : decode cX8_layHands 82 = .ok (.iconst (-1), 1) := by decide +kernel
theorem dX8_layHands_83 : decode cX8_layHands 83 = .ok (.ixor, 1) := by decide +kernel
theorem dX8_layHands_84 : decode cX8_layHands 84 = .ok (.iand, 1) := by decide +kernel
theorem dX8_layHands_85 : decode cX8_layHands 85 = .ok (.iaload, 1) := by decide +kernel
theorem dX8_layHands_86 : decode cX8_layHands 86 = .ok (.iconst 1, 1) := by decide +kernel
theorem dX8_layHands_87 : decode cX8_layHands 87 = .ok (.iadd, 1) := by decide +kernel
theorem dX8_layHands_88 : decode cX8_layHands 88 = .ok (.aload_n 0, 1) := by decide +kernel
theorem dX8_layHands_89 : decode cX8_layHands 89 = .ok (.getfield 38, 3) := by decide +kernel
theorem dX8_layHands_92 : decode cX8_layHands 92 = .ok (.iload_n 2, 1) := by decide +kernel
theorem dX8_layHands_93 : decode cX8_layHands 93 = .ok (.iaload, 1) := by decide +kernel
theorem dX8_layHands_94 : decode cX8_layHands 94 = .ok (.if_icmp .ge 21, 3) := by decide +kernel
theorem dX8_layHands_97 : decode cX8_layHands 97 = .ok (.aload_n 0, 1) := by decide +kernel
theorem dX8_layHands_98 : decode cX8_layHands 98 = .ok (.getfield 38, 3) := by decide +kernel
theorem dX8_layHands_101 : decode cX8_layHands 101 = .ok (.iload_n 2, 1) := by decide +kernel
theorem dX8_layHands_102 : decode cX8_layHands 102 = .ok (.aload_n 0, 1) := by decide +kernel
theorem dX8_layHands_103 : decode cX8_layHands 103 = .ok (.getfield 38, 3) := by decide +kernel
theorem dX8_layHands_106 : decode cX8_layHands 106 = .ok (.iload_n 2, 1) := by decide +kernel
theorem dX8_layHands_107 : decode cX8_layHands 107 = .ok (.iload_n 3, 1) := by decide +kernel
theorem dX8_layHands_108 : decode cX8_layHands 108 = .ok (.iconst (-1), 1) := by decide +kernel
theorem dX8_layHands_109 : decode cX8_layHands 109 = .ok (.ixor, 1) := by decide +kernel
theorem dX8_layHands_110 : decode cX8_layHands 110 = .ok (.iand, 1) := by decide +kernel
theorem dX8_layHands_111 : decode cX8_layHands 111 = .ok (.iaload, 1) := by decide +kernel
theorem dX8_layHands_112 : decode cX8_layHands 112 = .ok (.iconst 1, 1) := by decide +kernel
theorem dX8_layHands_113 : decode cX8_layHands 113 = .ok (.iadd, 1) := by decide +kernel
theorem dX8_layHands_114 : decode cX8_layHands 114 = .ok (.iastore, 1) := by decide +kernel
theorem dX8_layHands_115 : decode cX8_layHands 115 = .ok (.iload_n 3, 1) := by decide +kernel
theorem dX8_layHands_116 : decode cX8_layHands 116 = .ok (.iconst 1, 1) := by decide +kernel
theorem dX8_layHands_117 : decode cX8_layHands 117 = .ok (.isub, 1) := by decide +kernel
theorem dX8_layHands_118 : decode cX8_layHands 118 = .ok (.iload_n 2, 1) := by decide +kernel
theorem dX8_layHands_119 : decode cX8_layHands 119 = .ok (.iand, 1) := by decide +kernel
theorem dX8_layHands_120 : decode cX8_layHands 120 = .ok (.istore_n 3, 1) := by decide +kernel
theorem dX8_layHands_121 : decode cX8_layHands 121 = .ok (.goto (-58), 3) := by decide +kernel
theorem dX8_layHands_124 : decode cX8_layHands 124 = .ok (.iinc 2 1, 3) := by decide +kernel
theorem dX8_layHands_127 : decode cX8_layHands 127 = .ok (.goto (-81), 3) := by decide +kernel
theorem dX8_layHands_130 : decode cX8_layHands 130 = .ok (.aload_n 0, 1) := by decide +kernel
theorem dX8_layHands_131 : decode cX8_layHands 131 = .ok (.getfield 38, 3) := by decide +kernel
theorem dX8_layHands_134 : decode cX8_layHands 134 = .ok (.iload_n 1, 1) := by decide +kernel
theorem dX8_layHands_135 : decode cX8_layHands 135 = .ok (.iaload, 1) := by decide +kernel
theorem dX8_layHands_136 : decode cX8_layHands 136 = .ok (.ireturn, 1) := by decide +kernel
set_option maxRecDepth 20000 in
theorem ggX8_fits_X8_canDoBoth : GoodIn wsX8_fits wsX8_canDoBoth := goodIn_r _ [6, 7, 8, 9, 10, 11, 5, 12, 13, 14, 15, 16, 17, 18, 19, 20, 21, 22, 23, 24, 25, 26, 27, 28, 29] (by decide +kernel) (by decide +kernel)
set_option maxRecDepth 20000 in
theorem gX8_fits_X8_canDoBoth : GoodIn wsX8_fits (wsV RX8 124 RX8 yX8_canDoBoth wsX8_canDoBoth) := goodIn_app (goodIn_of _ (by decide +kernel)) ggX8_fits_X8_canDoBoth
theorem dX8_fits_0 : decode cX8_fits 0 = .ok (.iconst 0, 1) := by decide +kernel
theorem dX8_fits_1 : decode cX8_fits 1 = .ok (.istore_n 2, 1) := by decide +kernel
theorem dX8_fits_2 : decode cX8_fits 2 = .ok (.iload_n 2, 1) := by decide +kernel
theorem dX8_fits_3 : decode cX8_fits 3 = .ok (.iload_n 1, 1) := by decide +kernel
theorem dX8_fits_4 : decode cX8_fits 4 = .ok (.if_icmp .ge 35, 3) := by decide +kernel
theorem dX8_fits_7 : decode cX8_fits 7 = .ok (.aload_n 0, 1) := by decide +kernel
theorem dX8_fits_8 : decode cX8_fits 8 = .ok (.getfield 41, 3) := by decide +kernel
theorem dX8_fits_11 : decode cX8_fits 11 = .ok (.iload_n 2, 1) := by decide +kernel
theorem dX8_fits_12 : decode cX8_fits 12 = .ok (.iaload, 1) := by decide +kernel
theorem dX8_fits_13 : decode cX8_fits 13 = .ok (.aload_n 0, 1) := by decide +kernel
theorem dX8_fits_14 : decode cX8_fits 14 = .ok (.getfield 41, 3) := by decide +kernel
theorem dX8_fits_17 : decode cX8_fits 17 = .ok (.iload_n 1, 1) := by decide +kernel
theorem dX8_fits_18 : decode cX8_fits 18 = .ok (.iaload, 1) := by decide +kernel
theorem dX8_fits_19 : decode cX8_fits 19 = .ok (.if_icmp .ne 14, 3) := by decide +kernel
theorem dX8_fits_22 : decode cX8_fits 22 = .ok (.aload_n 0, 1) := by decide +kernel
theorem dX8_fits_23 : decode cX8_fits 23 = .ok (.iload_n 1, 1) := by decide +kernel
theorem dX8_fits_24 : decode cX8_fits 24 = .ok (.iload_n 2, 1) := by decide +kernel
theorem dX8_fits_25 : decode cX8_fits 25 = .ok (.invokevirtual 124, 3) := by decide +kernel
theorem dX8_fits_28 : decode cX8_fits 28 = .ok (.ifCond .ne 5, 3) := by decide +kernel
theorem dX8_fits_31 : decode cX8_fits 31 = .ok (.iconst 0, 1) := by decide +kernel
theorem dX8_fits_32 : decode cX8_fits 32 = .ok (.ireturn, 1) := by decide +kernel
theorem dX8_fits_33 : decode cX8_fits 33 = .ok (.iinc 2 1, 3) := by decide +kernel
theorem dX8_fits_36 : decode cX8_fits 36 = .ok (.goto (-34), 3) := by decide +kernel
theorem dX8_fits_39 : decode cX8_fits 39 = .ok (.iconst 1, 1) := by decide +kernel
theorem dX8_fits_40 : decode cX8_fits 40 = .ok (.ireturn, 1) := by decide +kernel
set_option maxRecDepth 20000 in
theorem ggX8_layCrew_X8_layHands : GoodIn wsX8_layCrew wsX8_layHands := goodIn_r _ [7, 1, 8, 9, 10, 11, 12, 6, 13, 14, 15, 16, 17, 18, 19, 20, 21, 22, 23, 24, 25, 26, 27, 28, 29, 30, 31, 32, 33, 34, 35, 36, 37, 38, 39, 40, 41, 42, 43, 44, 45, 46, 47, 48, 49, 50, 51, 52, 53, 54, 55, 56, 57, 58, 59, 60, 61, 62, 63, 64, 65, 66, 67, 72, 73, 74, 75, 76, 77, 78, 79, 80, 81, 82, 83, 84] (by decide +kernel) (by decide +kernel)
set_option maxRecDepth 20000 in
theorem gX8_layCrew_X8_layHands : GoodIn wsX8_layCrew (wsV RX8 133 RX8 yX8_layHands wsX8_layHands) := goodIn_app (goodIn_of _ (by decide +kernel)) ggX8_layCrew_X8_layHands
set_option maxRecDepth 20000 in
theorem ggX8_layCrew_X8_fits : GoodIn wsX8_layCrew wsX8_fits := goodIn_r _ [71, 2, 60, 61, 62, 6, 63, 14, 15, 16, 33, 34, 35, 64, 65, 66, 67, 72, 73, 74, 75, 76, 77, 78, 79, 80, 81, 82, 83, 84] (by decide +kernel) (by decide +kernel)
set_option maxRecDepth 20000 in
theorem gX8_layCrew_X8_fits : GoodIn wsX8_layCrew (wsV RX8 137 RX8 yX8_fits wsX8_fits) := goodIn_app (goodIn_of _ (by decide +kernel)) ggX8_layCrew_X8_fits
theorem dX8_layCrew_0 : decode cX8_layCrew 0 = .ok (.aload_n 0, 1) := by decide +kernel
theorem dX8_layCrew_1 : decode cX8_layCrew 1 = .ok (.invokevirtual 133, 3) := by decide +kernel
theorem dX8_layCrew_4 : decode cX8_layCrew 4 = .ok (.istore_n 1, 1) := by decide +kernel
theorem dX8_layCrew_5 : decode cX8_layCrew 5 = .ok (.iconst 0, 1) := by decide +kernel
theorem dX8_layCrew_6 : decode cX8_layCrew 6 = .ok (.istore_n 2, 1) := by decide +kernel
theorem dX8_layCrew_7 : decode cX8_layCrew 7 = .ok (.iload_n 2, 1) := by decide +kernel
theorem dX8_layCrew_8 : decode cX8_layCrew 8 = .ok (.aload_n 0, 1) := by decide +kernel
theorem dX8_layCrew_9 : decode cX8_layCrew 9 = .ok (.getfield 121, 3) := by decide +kernel
theorem dX8_layCrew_12 : decode cX8_layCrew 12 = .ok (.if_icmp .ge 16, 3) := by decide +kernel
theorem dX8_layCrew_15 : decode cX8_layCrew 15 = .ok (.aload_n 0, 1) := by decide +kernel
theorem dX8_layCrew_16 : decode cX8_layCrew 16 = .ok (.getfield 41, 3) := by decide +kernel
theorem dX8_layCrew_19 : decode cX8_layCrew 19 = .ok (.iload_n 2, 1) := by decide +kernel
theorem dX8_layCrew_20 : decode cX8_layCrew 20 = .ok (.iconst (-1), 1) := by decide +kernel
