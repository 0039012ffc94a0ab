theorem dX4_stepFrom_39 : decode cX4_stepFrom 39 = .ok (.aload_n 0, 1) := by decide +kernel
theorem dX4_stepFrom_40 : decode cX4_stepFrom 40 = .ok (.getfield 19, 3) := by decide +kernel
theorem dX4_stepFrom_43 : decode cX4_stepFrom 43 = .ok (.isub, 1) := by decide +kernel
theorem dX4_stepFrom_44 : decode cX4_stepFrom 44 = .ok (.ireturn, 1) := by decide +kernel
theorem dX4_copyFrom_0 : decode cX4_copyFrom 0 = .ok (.aload_n 0, 1) := by decide +kernel
theorem dX4_copyFrom_1 : decode cX4_copyFrom 1 = .ok (.aload_n 1, 1) := by decide +kernel
theorem dX4_copyFrom_2 : decode cX4_copyFrom 2 = .ok (.getfield 7, 3) := by decide +kernel
theorem dX4_copyFrom_5 : decode cX4_copyFrom 5 = .ok (.putfield 7, 3) := by decide +kernel
theorem dX4_copyFrom_8 : decode cX4_copyFrom 8 = .ok (.aload_n 0, 1) := by decide +kernel
theorem dX4_copyFrom_9 : decode cX4_copyFrom 9 = .ok (.aload_n 1, 1) := by decide +kernel
theorem dX4_copyFrom_10 : decode cX4_copyFrom 10 = .ok (.getfield 13, 3) := by decide +kernel
theorem dX4_copyFrom_13 : decode cX4_copyFrom 13 = .ok (.putfield 13, 3) := by decide +kernel
theorem dX4_copyFrom_16 : decode cX4_copyFrom 16 = .ok (.aload_n 0, 1) := by decide +kernel
theorem dX4_copyFrom_17 : decode cX4_copyFrom 17 = .ok (.aload_n 1, 1) := by decide +kernel
theorem dX4_copyFrom_18 : decode cX4_copyFrom 18 = .ok (.getfield 16, 3) := by decide +kernel
theorem dX4_copyFrom_21 : decode cX4_copyFrom 21 = .ok (.putfield 16, 3) := by decide +kernel
theorem dX4_copyFrom_24 : decode cX4_copyFrom 24 = .ok (.aload_n 0, 1) := by decide +kernel
theorem dX4_copyFrom_25 : decode cX4_copyFrom 25 = .ok (.aload_n 1, 1) := by decide +kernel
theorem dX4_copyFrom_26 : decode cX4_copyFrom 26 = .ok (.getfield 19, 3) := by decide +kernel
theorem dX4_copyFrom_29 : decode cX4_copyFrom 29 = .ok (.putfield 19, 3) := by decide +kernel
theorem dX4_copyFrom_32 : decode cX4_copyFrom 32 = .ok (.return_, 1) := by decide +kernel
theorem dX5_init_0 : decode cX5_init 0 = .ok (.aload_n 0, 1) := by decide +kernel
theorem dX5_init_1 : decode cX5_init 1 = .ok (.invokespecial 3, 3) := by decide +kernel
theorem dX5_init_4 : decode cX5_init 4 = .ok (.aload_n 0, 1) := by decide +kernel
theorem dX5_init_5 : decode cX5_init 5 = .ok (.bipush 6, 2) := by decide +kernel
theorem dX5_init_7 : decode cX5_init 7 = .ok (.newarray .int, 2) := by decide +kernel
theorem dX5_init_9 : decode cX5_init 9 = .ok (.putfield 9, 3) := by decide +kernel
theorem dX5_init_12 : decode cX5_init 12 = .ok (.aload_n 0, 1) := by decide +kernel
theorem dX5_init_13 : decode cX5_init 13 = .ok (.iconst 0, 1) := by decide +kernel
theorem dX5_init_14 : decode cX5_init 14 = .ok (.putfield 15, 3) := by decide +kernel
theorem dX5_init_17 : decode cX5_init 17 = .ok (.return_, 1) := by decide +kernel
theorem dX5_add_0 : decode cX5_add 0 = .ok (.aload_n 0, 1) := by decide +kernel
theorem dX5_add_1 : decode cX5_add 1 = .ok (.getfield 9, 3) := by decide +kernel
theorem dX5_add_4 : decode cX5_add 4 = .ok (.aload_n 0, 1) := by decide +kernel
theorem dX5_add_5 : decode cX5_add 5 = .ok (.getfield 15, 3) := by decide +kernel
theorem dX5_add_8 : decode cX5_add 8 = .ok (.iload_n 1, 1) := by decide +kernel
theorem dX5_add_9 : decode cX5_add 9 = .ok (.iastore, 1) := by decide +kernel
theorem dX5_add_10 : decode cX5_add 10 = .ok (.aload_n 0, 1) := by decide +kernel
theorem dX5_add_11 : decode cX5_add 11 = .ok (.dup, 1) := by decide +kernel
theorem dX5_add_12 : decode cX5_add 12 = .ok (.getfield 15, 3) := by decide +kernel
theorem dX5_add_15 : decode cX5_add 15 = .ok (.iconst 1, 1) := by decide +kernel
theorem dX5_add_16 : decode cX5_add 16 = .ok (.iadd, 1) := by decide +kernel
theorem dX5_add_17 : decode cX5_add 17 = .ok (.putfield 15, 3) := by decide +kernel
theorem dX5_add_20 : decode cX5_add 20 = .ok (.return_, 1) := by decide +kernel
theorem dX5_remove_0 : decode cX5_remove 0 = .ok (.aload_n 0, 1) := by decide +kernel
theorem dX5_remove_1 : decode cX5_remove 1 = .ok (.getfield 9, 3) := by decide +kernel
theorem dX5_remove_4 : decode cX5_remove 4 = .ok (.iload_n 1, 1) := by decide +kernel
theorem dX5_remove_5 : decode cX5_remove 5 = .ok (.iaload, 1) := by decide +kernel
theorem dX5_remove_6 : decode cX5_remove 6 = .ok (.istore_n 2, 1) := by decide +kernel
theorem dX5_remove_7 : decode cX5_remove 7 = .ok (.iload_n 1, 1) := by decide +kernel
theorem dX5_remove_8 : decode cX5_remove 8 = .ok (.iconst 1, 1) := by decide +kernel
theorem dX5_remove_9 : decode cX5_remove 9 = .ok (.iadd, 1) := by decide +kernel
theorem dX5_remove_10 : decode cX5_remove 10 = .ok (.istore_n 3, 1) := by decide +kernel
theorem dX5_remove_11 : decode cX5_remove 11 = .ok (.iload_n 3, 1) := by decide +kernel
theorem dX5_remove_12 : decode cX5_remove 12 = .ok (.aload_n 0, 1) := by decide +kernel
theorem dX5_remove_13 : decode cX5_remove 13 = .ok (.getfield 15, 3) := by decide +kernel
theorem dX5_remove_16 : decode cX5_remove 16 = .ok (.if_icmp .ge 23, 3) := by decide +kernel
theorem dX5_remove_19 : decode cX5_remove 19 = .ok (.aload_n 0, 1) := by decide +kernel
theorem dX5_remove_20 : decode cX5_remove 20 = .ok (.getfield 9, 3) := by decide +kernel
theorem dX5_remove_23 : decode cX5_remove 23 = .ok (.iload_n 3, 1) := by decide +kernel
theorem dX5_remove_24 : decode cX5_remove 24 = .ok (.iconst 1, 1) := by decide +kernel
theorem dX5_remove_25 : decode cX5_remove 25 = .ok (.isub, 1) := by decide +kernel
theorem dX5_remove_26 : decode cX5_remove 26 = .ok (.aload_n 0, 1) := by decide +kernel
theorem dX5_remove_27 : decode cX5_remove 27 = .ok (.getfield 9, 3) := by decide +kernel
theorem dX5_remove_30 : decode cX5_remove 30 = .ok (.iload_n 3, 1) := by decide +kernel
theorem dX5_remove_31 : decode cX5_remove 31 = .ok (.iaload, 1) := by decide +kernel
theorem dX5_remove_32 : decode cX5_remove 32 = .ok (.iastore, 1) := by decide +kernel
theorem dX5_remove_33 : decode cX5_remove 33 = .ok (.iinc 3 1, 3) := by decide +kernel
theorem dX5_remove_36 : decode cX5_remove 36 = .ok (.goto (-25), 3) := by decide +kernel
theorem dX5_remove_39 : decode cX5_remove 39 = .ok (.aload_n 0, 1) := by decide +kernel
theorem dX5_remove_40 : decode cX5_remove 40 = .ok (.dup, 1) := by decide +kernel
theorem dX5_remove_41 : decode cX5_remove 41 = .ok (.getfield 15, 3) := by decide +kernel
theorem dX5_remove_44 : decode cX5_remove 44 = .ok (.iconst 1, 1) := by decide +kernel
theorem dX5_remove_45 : decode cX5_remove 45 = .ok (.isub, 1) := by decide +kernel
theorem dX5_remove_46 : decode cX5_remove 46 = .ok (.putfield 15, 3) := by decide +kernel
theorem dX5_remove_49 : decode cX5_remove 49 = .ok (.iload_n 2, 1) := by decide +kernel
theorem dX5_remove_50 : decode cX5_remove 50 = .ok (.ireturn, 1) := by decide +kernel
theorem dX5_weightOf_0 : decode cX5_weightOf 0 = .ok (.iload_n 1, 1) := by decide +kernel
theorem dX5_weightOf_1 : decode cX5_weightOf 1 = .ok (.aload_n 0, 1) := by decide +kernel
theorem dX5_weightOf_2 : decode cX5_weightOf 2 = .ok (.getfield 15, 3) := by decide +kernel
theorem dX5_weightOf_5 : decode cX5_weightOf 5 = .ok (.if_icmp .ge 12, 3) := by decide +kernel
theorem dX5_weightOf_8 : decode cX5_weightOf 8 = .ok (.aload_n 0, 1) := by decide +kernel
theorem dX5_weightOf_9 : decode cX5_weightOf 9 = .ok (.getfield 9, 3) := by decide +kernel
theorem dX5_weightOf_12 : decode cX5_weightOf 12 = .ok (.iload_n 1, 1) := by decide +kernel
theorem dX5_weightOf_13 : decode cX5_weightOf 13 = .ok (.iaload, 1) := by decide +kernel
theorem dX5_weightOf_14 : decode cX5_weightOf 14 = .ok (.goto 5, 3) := by decide +kernel
theorem dX5_weightOf_17 : decode cX5_weightOf 17 = .ok (.bipush (-6), 2) := by decide +kernel
theorem dX5_weightOf_19 : decode cX5_weightOf 19 = .ok (.ireturn, 1) := by decide +kernel
theorem dX5_total_0 : decode cX5_total 0 = .ok (.iconst 0, 1) := by decide +kernel
theorem dX5_total_1 : decode cX5_total 1 = .ok (.istore_n 1, 1) := by decide +kernel
theorem dX5_total_2 : decode cX5_total 2 = .ok (.iconst 0, 1) := by decide +kernel
theorem dX5_total_3 : decode cX5_total 3 = .ok (.istore_n 2, 1) := by decide +kernel
theorem dX5_total_4 : decode cX5_total 4 = .ok (.iload_n 2, 1) := by decide +kernel
theorem dX5_total_5 : decode cX5_total 5 = .ok (.aload_n 0, 1) := by decide +kernel
theorem dX5_total_6 : decode cX5_total 6 = .ok (.getfield 15, 3) := by decide +kernel
theorem dX5_total_9 : decode cX5_total 9 = .ok (.if_icmp .ge 18, 3) := by decide +kernel
theorem dX5_total_12 : decode cX5_total 12 = .ok (.iload_n 1, 1) := by decide +kernel
theorem dX5_total_13 : decode cX5_total 13 = .ok (.aload_n 0, 1) := by decide +kernel
theorem dX5_total_14 : decode cX5_total 14 = .ok (.getfield 9, 3) := by decide +kernel
theorem dX5_total_17 : decode cX5_total 17 = .ok (.iload_n 2, 1) := by decide +kernel
theorem dX5_total_18 : decode cX5_total 18 = .ok (.iaload, 1) := by decide +kernel
theorem dX5_total_19 : decode cX5_total 19 = .ok (.iadd, 1) := by decide +kernel
theorem dX5_total_20 : decode cX5_total 20 = .ok (.istore_n 1, 1) := by decide +kernel
theorem dX5_total_21 : decode cX5_total 21 = .ok (.iinc 2 1, 3) := by decide +kernel
theorem dX5_total_24 : decode cX5_total 24 = .ok (.goto (-20), 3) := by decide +kernel
theorem dX5_total_27 : decode cX5_total 27 = .ok (.iload_n 1, 1) := by decide +kernel
theorem dX5_total_28 : decode cX5_total 28 = .ok (.ireturn, 1) := by decide +kernel
theorem dX5_copyFrom_0 : decode cX5_copyFrom 0 = .ok (.aload_n 1, 1) := by decide +kernel
theorem dX5_copyFrom_1 : decode cX5_copyFrom 1 = .ok (.getfield 9, 3) := by decide +kernel
theorem dX5_copyFrom_4 : decode cX5_copyFrom 4 = .ok (.iconst 0, 1) := by decide +kernel
theorem dX5_copyFrom_5 : decode cX5_copyFrom 5 = .ok (.aload_n 0, 1) := by decide +kernel
theorem dX5_copyFrom_6 : decode cX5_copyFrom 6 = .ok (.getfield 9, 3) := by decide +kernel
theorem dX5_copyFrom_9 : decode cX5_copyFrom 9 = .ok (.iconst 0, 1) := by decide +kernel
theorem dX5_copyFrom_10 : decode cX5_copyFrom 10 = .ok (.bipush 6, 2) := by decide +kernel
theorem dX5_copyFrom_12 : decode cX5_copyFrom 12 = .ok (.invokestatic 19, 3) := by decide +kernel
theorem dX5_copyFrom_15 : decode cX5_copyFrom 15 = .ok (.aload_n 0, 1) := by decide +kernel
theorem dX5_copyFrom_16 : decode cX5_copyFrom 16 = .ok (.aload_n 1, 1) := by decide +kernel
theorem dX5_copyFrom_17 : decode cX5_copyFrom 17 = .ok (.getfield 15, 3) := by decide +kernel
theorem dX5_copyFrom_20 : decode cX5_copyFrom 20 = .ok (.putfield 15, 3) := by decide +kernel
theorem dX5_copyFrom_23 : decode cX5_copyFrom 23 = .ok (.return_, 1) := by decide +kernel
set_option maxRecDepth 20000 in
theorem ggX6_init_X0_init : GoodIn wsX6_init wsX0_init := goodIn_r _ [15, 16, 2, 3, 17, 18, 19, 20, 21, 22, 23, 24, 25, 26, 27, 28, 40, 41, 42, 47, 48] (by decide +kernel) (by decide +kernel)
set_option maxRecDepth 20000 in
theorem gX6_init_X0_init_n30 : GoodIn wsX6_init (wsX0_init) := ggX6_init_X0_init
set_option maxRecDepth 20000 in
theorem ggX6_init_X4_init : GoodIn wsX6_init wsX4_init := goodIn_r _ [30, 31, 2, 3, 32, 33, 34, 35, 43, 44, 45, 46] (by decide +kernel) (by decide +kernel)
set_option maxRecDepth 20000 in
theorem gX6_init_X4_init_n31 : GoodIn wsX6_init (wsX4_init) := ggX6_init_X4_init
theorem dX6_init_0 : decode cX6_init 0 = .ok (.aload_n 0, 1) := by decide +kernel
theorem dX6_init_1 : decode cX6_init 1 = .ok (.invokespecial 3, 3) := by decide +kernel
theorem dX6_init_4 : decode cX6_init 4 = .ok (.aload_n 0, 1) := by decide +kernel
theorem dX6_init_5 : decode cX6_init 5 = .ok (.bipush 10, 2) := by decide +kernel
theorem dX6_init_7 : decode cX6_init 7 = .ok (.anewarray 9, 3) := by decide +kernel
theorem dX6_init_10 : decode cX6_init 10 = .ok (.putfield 11, 3) := by decide +kernel
theorem dX6_init_13 : decode cX6_init 13 = .ok (.aload_n 0, 1) := by decide +kernel
theorem dX6_init_14 : decode cX6_init 14 = .ok (.bipush 10, 2) := by decide +kernel
theorem dX6_init_16 : decode cX6_init 16 = .ok (.anewarray 17, 3) := by decide +kernel
theorem dX6_init_19 : decode cX6_init 19 = .ok (.putfield 19, 3) := by decide +kernel
theorem dX6_init_22 : decode cX6_init 22 = .ok (.aload_n 0, 1) := by decide +kernel
theorem dX6_init_23 : decode cX6_init 23 = .ok (.iconst 0, 1) := by decide +kernel
theorem dX6_init_24 : decode cX6_init 24 = .ok (.putfield 23, 3) := by decide +kernel
theorem dX6_init_27 : decode cX6_init 27 = .ok (.aload_n 0, 1) := by decide +kernel
theorem dX6_init_28 : decode cX6_init 28 = .ok (.bipush 20, 2) := by decide +kernel
theorem dX6_init_30 : decode cX6_init 30 = .ok (.putfield 27, 3) := by decide +kernel
theorem dX6_init_33 : decode cX6_init 33 = .ok (.iconst 0, 1) := by decide +kernel
theorem dX6_init_34 : decode cX6_init 34 = .ok (.istore_n 1, 1) := by decide +kernel
theorem dX6_init_35 : decode cX6_init 35 = .ok (.iload_n 1, 1) := by decide +kernel
theorem dX6_init_36 : decode cX6_init 36 = .ok (.bipush 10, 2) := by decide +kernel
theorem dX6_init_38 : decode cX6_init 38 = .ok (.if_icmp .ge 22, 3) := by decide +kernel
theorem dX6_init_41 : decode cX6_init 41 = .ok (.aload_n 0, 1) := by decide +kernel
theorem dX6_init_42 : decode cX6_init 42 = .ok (.getfield 11, 3) := by decide +kernel
theorem dX6_init_45 : decode cX6_init 45 = .ok (.iload_n 1, 1) := by decide +kernel
theorem dX6_init_46 : decode cX6_init 46 = .ok (.new 9, 3) := by decide +kernel
theorem dX6_init_49 : decode cX6_init 49 = .ok (.dup, 1) := by decide +kernel
theorem dX6_init_50 : decode cX6_init 50 = .ok (.invokespecial 30, 3) := by decide +kernel
theorem dX6_init_53 : decode cX6_init 53 = .ok (.aastore, 1) := by decide +kernel
theorem dX6_init_54 : decode cX6_init 54 = .ok (.iinc 1 1, 3) := by decide +kernel
theorem dX6_init_57 : decode cX6_init 57 = .ok (.goto (-22), 3) := by decide +kernel
theorem dX6_init_60 : decode cX6_init 60 = .ok (.iconst 0, 1) := by decide +kernel
theorem dX6_init_61 : decode cX6_init 61 = .ok (.istore_n 1, 1) := by decide +kernel
theorem dX6_init_62 : decode cX6_init 62 = .ok (.iload_n 1, 1) := by decide +kernel
theorem dX6_init_63 : decode cX6_init 63 = .ok (.bipush 10, 2) := by decide +kernel
theorem dX6_init_65 : decode cX6_init 65 = .ok (.if_icmp .ge 22, 3) := by decide +kernel
theorem dX6_init_68 : decode cX6_init 68 = .ok (.aload_n 0, 1) := by decide +kernel
theorem dX6_init_69 : decode cX6_init 69 = .ok (.getfield 19, 3) := by decide +kernel
theorem dX6_init_72 : decode cX6_init 72 = .ok (.iload_n 1, 1) := by decide +kernel
theorem dX6_init_73 : decode cX6_init 73 = .ok (.new 17, 3) := by decide +kernel
theorem dX6_init_76 : decode cX6_init 76 = .ok (.dup, 1) := by decide +kernel
theorem dX6_init_77 : decode cX6_init 77 = .ok (.invokespecial 31, 3) := by decide +kernel
theorem dX6_init_80 : decode cX6_init 80 = .ok (.aastore, 1) := by decide +kernel
theorem dX6_init_81 : decode cX6_init 81 = .ok (.iinc 1 1, 3) := by decide +kernel
theorem dX6_init_84 : decode cX6_init 84 = .ok (.goto (-22), 3) := by decide +kernel
theorem dX6_init_87 : decode cX6_init 87 = .ok (.return_, 1) := by decide +kernel
set_option maxRecDepth 20000 in
theorem ggX6_copyFrom_X0_copyFrom : GoodIn wsX6_copyFrom wsX0_copyFrom := goodIn_r _ [9, 10, 11, 12, 13, 14, 15, 16, 17, 18, 19, 20, 21, 22, 23, 24, 38, 39, 40, 41, 42] (by decide +kernel) (by decide +kernel)
set_option maxRecDepth 20000 in
theorem gX6_copyFrom_X0_copyFrom : GoodIn wsX6_copyFrom (wsV RX6 32 RX0 yX0_copyFrom wsX0_copyFrom) := goodIn_app (goodIn_of _ (by decide +kernel)) ggX6_copyFrom_X0_copyFrom
set_option maxRecDepth 20000 in
theorem ggX6_copyFrom_X4_copyFrom : GoodIn wsX6_copyFrom wsX4_copyFrom := goodIn_r _ [29, 30, 31, 32, 33, 43, 44, 45, 46] (by decide +kernel) (by decide +kernel)
set_option maxRecDepth 20000 in
theorem gX6_copyFrom_X4_copyFrom : GoodIn wsX6_copyFrom (wsV RX6 36 RX4 yX4_copyFrom wsX4_copyFrom) := goodIn_app (goodIn_of _ (by decide +kernel)) ggX6_copyFrom_X4_copyFrom
theorem dX6_copyFrom_0 : decode cX6_copyFrom 0 = .ok (.iconst 0, 1) := by decide +kernel
theorem dX6_copyFrom_1 : decode cX6_copyFrom 1 = .ok (.istore_n 2, 1) := by decide +kernel
theorem dX6_copyFrom_2 : decode cX6_copyFrom 2 = .ok (.iload_n 2, 1) := by decide +kernel
theorem dX6_copyFrom_3 : decode cX6_copyFrom 3 = .ok (.bipush 10, 2) := by decide +kernel
theorem dX6_copyFrom_5 : decode cX6_copyFrom 5 = .ok (.if_icmp .ge 24, 3) := by decide +kernel
theorem dX6_copyFrom_8 : decode cX6_copyFrom 8 = .ok (.aload_n 0, 1) := by decide +kernel
theorem dX6_copyFrom_9 : decode cX6_copyFrom 9 = .ok (.getfield 11, 3) := by decide +kernel
theorem dX6_copyFrom_12 : decode cX6_copyFrom 12 = .ok (.iload_n 2, 1) := by decide +kernel
theorem dX6_copyFrom_13 : decode cX6_copyFrom 13 = .ok (.aaload, 1) := by decide +kernel
theorem dX6_copyFrom_14 : decode cX6_copyFrom 14 = .ok (.aload_n 1, 1) := by decide +kernel
theorem dX6_copyFrom_15 : decode cX6_copyFrom 15 = .ok (.getfield 11, 3) := by decide +kernel
theorem dX6_copyFrom_18 : decode cX6_copyFrom 18 = .ok (.iload_n 2, 1) := by decide +kernel
theorem dX6_copyFrom_19 : decode cX6_copyFrom 19 = .ok (.aaload, 1) := by decide +kernel
theorem dX6_copyFrom_20 : decode cX6_copyFrom 20 = .ok (.invokevirtual 32, 3) := by decide +kernel
theorem dX6_copyFrom_23 : decode cX6_copyFrom 23 = .ok (.iinc 2 1, 3) := by decide +kernel
theorem dX6_copyFrom_26 : decode cX6_copyFrom 26 = .ok (.goto (-24), 3) := by decide +kernel
theorem dX6_copyFrom_29 : decode cX6_copyFrom 29 = .ok (.iconst 0, 1) := by decide +kernel
theorem dX6_copyFrom_30 : decode cX6_copyFrom 30 = .ok (.istore_n 2, 1) := by decide +kernel
theorem dX6_copyFrom_31 : decode cX6_copyFrom 31 = .ok (.iload_n 2, 1) := by decide +kernel
theorem dX6_copyFrom_32 : decode cX6_copyFrom 32 = .ok (.bipush 10, 2) := by decide +kernel
theorem dX6_copyFrom_34 : decode cX6_copyFrom 34 = .ok (.if_icmp .ge 24, 3) := by decide +kernel
theorem dX6_copyFrom_37 : decode cX6_copyFrom 37 = .ok (.aload_n 0, 1) := by decide +kernel
theorem dX6_copyFrom_38 : decode cX6_copyFrom 38 = .ok (.getfield 19, 3) := by decide +kernel
theorem dX6_copyFrom_41 : decode cX6_copyFrom 41 = .ok (.iload_n 2, 1) := by decide +kernel
theorem dX6_copyFrom_42 : decode cX6_copyFrom 42 = .ok (.aaload, 1) := by decide +kernel
theorem dX6_copyFrom_43 : decode cX6_copyFrom 43 = .ok (.aload_n 1, 1) := by decide +kernel
theorem dX6_copyFrom_44 : decode cX6_copyFrom 44 = .ok (.getfield 19, 3) := by decide +kernel
theorem dX6_copyFrom_47 : decode cX6_copyFrom 47 = .ok (.iload_n 2, 1) := by decide +kernel
theorem dX6_copyFrom_48 : decode cX6_copyFrom 48 = .ok (.aaload, 1) := by decide +kernel
theorem dX6_copyFrom_49 : decode cX6_copyFrom 49 = .ok (.invokevirtual 36, 3) := by decide +kernel
theorem dX6_copyFrom_52 : decode cX6_copyFrom 52 = .ok (.iinc 2 1, 3) := by decide +kernel
theorem dX6_copyFrom_55 : decode cX6_copyFrom 55 = .ok (.goto (-24), 3) := by decide +kernel
theorem dX6_copyFrom_58 : decode cX6_copyFrom 58 = .ok (.aload_n 0, 1) := by decide +kernel
theorem dX6_copyFrom_59 : decode cX6_copyFrom 59 = .ok (.aload_n 1, 1) := by decide +kernel
theorem dX6_copyFrom_60 : decode cX6_copyFrom 60 = .ok (.getfield 23, 3) := by decide +kernel
theorem dX6_copyFrom_63 : decode cX6_copyFrom 63 = .ok (.putfield 23, 3) := by decide +kernel
theorem dX6_copyFrom_66 : decode cX6_copyFrom 66 = .ok (.aload_n 0, 1) := by decide +kernel
theorem dX6_copyFrom_67 : decode cX6_copyFrom 67 = .ok (.aload_n 1, 1) := by decide +kernel
theorem dX6_copyFrom_68 : decode cX6_copyFrom 68 = .ok (.getfield 27, 3) := by decide +kernel
theorem dX6_copyFrom_71 : decode cX6_copyFrom 71 = .ok (.putfield 27, 3) := by decide +kernel
theorem dX6_copyFrom_74 : decode cX6_copyFrom 74 = .ok (.return_, 1) := by decide +kernel
theorem dX6_addMove_0 : decode cX6_addMove 0 = .ok (.aload_n 0, 1) := by decide +kernel
theorem dX6_addMove_1 : decode cX6_addMove 1 = .ok (.getfield 19, 3) := by decide +kernel
theorem dX6_addMove_4 : decode cX6_addMove 4 = .ok (.aload_n 0, 1) := by decide +kernel
theorem dX6_addMove_5 : decode cX6_addMove 5 = .ok (.getfield 23, 3) := by decide +kernel
theorem dX6_addMove_8 : decode cX6_addMove 8 = .ok (.aaload, 1) := by decide +kernel
theorem dX6_addMove_9 : decode cX6_addMove 9 = .ok (.astore 5, 2) := by decide +kernel
theorem dX6_addMove_11 : decode cX6_addMove 11 = .ok (.aload 5, 2) := by decide +kernel
theorem dX6_addMove_13 : decode cX6_addMove 13 = .ok (.iload_n 1, 1) := by decide +kernel
theorem dX6_addMove_14 : decode cX6_addMove 14 = .ok (.putfield 39, 3) := by decide +kernel
theorem dX6_addMove_17 : decode cX6_addMove 17 = .ok (.aload 5, 2) := by decide +kernel
theorem dX6_addMove_19 : decode cX6_addMove 19 = .ok (.iload_n 2, 1) := by decide +kernel
theorem dX6_addMove_20 : decode cX6_addMove 20 = .ok (.putfield 42, 3) := by decide +kernel
theorem dX6_addMove_23 : decode cX6_addMove 23 = .ok (.aload 5, 2) := by decide +kernel
theorem dX6_addMove_25 : decode cX6_addMove 25 = .ok (.iload_n 3, 1) := by decide +kernel
theorem dX6_addMove_26 : decode cX6_addMove 26 = .ok (.putfield 45, 3) := by decide +kernel
theorem dX6_addMove_29 : decode cX6_addMove 29 = .ok (.aload 5, 2) := by decide +kernel
theorem dX6_addMove_31 : decode cX6_addMove 31 = .ok (.iload 4, 2) := by decide +kernel
theorem dX6_addMove_33 : decode cX6_addMove 33 = .ok (.putfield 48, 3) := by decide +kernel
theorem dX6_addMove_36 : decode cX6_addMove 36 = .ok (.aload_n 0, 1) := by decide +kernel
theorem dX6_addMove_37 : decode cX6_addMove 37 = .ok (.dup, 1) := by decide +kernel
theorem dX6_addMove_38 : decode cX6_addMove 38 = .ok (.getfield 23, 3) := by decide +kernel
theorem dX6_addMove_41 : decode cX6_addMove 41 = .ok (.iconst 1, 1) := by decide +kernel
theorem dX6_addMove_42 : decode cX6_addMove 42 = .ok (.iadd, 1) := by decide +kernel
theorem dX6_addMove_43 : decode cX6_addMove 43 = .ok (.putfield 23, 3) := by decide +kernel
theorem dX6_addMove_46 : decode cX6_addMove 46 = .ok (.aload_n 0, 1) := by decide +kernel
theorem dX6_addMove_47 : decode cX6_addMove 47 = .ok (.getfield 23, 3) := by decide +kernel
theorem dX6_addMove_50 : decode cX6_addMove 50 = .ok (.iconst 1, 1) := by decide +kernel
theorem dX6_addMove_51 : decode cX6_addMove 51 = .ok (.isub, 1) := by decide +kernel
theorem dX6_addMove_52 : decode cX6_addMove 52 = .ok (.ireturn, 1) := by decide +kernel
set_option maxRecDepth 20000 in
theorem ggX6_removeMove_X4_copyFrom : GoodIn wsX6_removeMove wsX4_copyFrom := goodIn_r _ [7, 8, 9, 10, 11, 16, 17, 18, 19] (by decide +kernel) (by decide +kernel)
set_option maxRecDepth 20000 in
theorem gX6_removeMove_X4_copyFrom : GoodIn wsX6_removeMove (wsV RX6 36 RX4 yX4_copyFrom wsX4_copyFrom) := goodIn_app (goodIn_of _ (by decide +kernel)) ggX6_removeMove_X4_copyFrom
theorem dX6_removeMove_0 : decode cX6_removeMove 0 = .ok (.iload_n 1, 1) := by decide +kernel
theorem dX6_removeMove_1 : decode cX6_removeMove 1 = .ok (.iconst 1, 1) := by decide +kernel
theorem dX6_removeMove_2 : decode cX6_removeMove 2 = .ok (.iadd, 1) := by decide +kernel
theorem dX6_removeMove_3 : decode cX6_removeMove 3 = .ok (.istore_n 2, 1) := by decide +kernel
theorem dX6_removeMove_4 : decode cX6_removeMove 4 = .ok (.iload_n 2, 1) := by decide +kernel
theorem dX6_removeMove_5 : decode cX6_removeMove 5 = .ok (.aload_n 0, 1) := by decide +kernel
theorem dX6_removeMove_6 : decode cX6_removeMove 6 = .ok (.getfield 23, 3) := by decide +kernel
theorem dX6_removeMove_9 : decode cX6_removeMove 9 = .ok (.if_icmp .ge 26, 3) := by decide +kernel
theorem dX6_removeMove_12 : decode cX6_removeMove 12 = .ok (.aload_n 0, 1) := by decide +kernel
theorem dX6_removeMove_13 : decode cX6_removeMove 13 = .ok (.getfield 19, 3) := by decide +kernel
theorem dX6_removeMove_16 : decode cX6_removeMove 16 = .ok (.iload_n 2, 1) := by decide +kernel
theorem dX6_removeMove_17 : decode cX6_removeMove 17 = .ok (.iconst 1, 1) := by decide +kernel
theorem dX6_removeMove_18 : decode cX6_removeMove 18 = .ok (.isub, 1) := by decide +kernel
theorem dX6_removeMove_19 : decode cX6_removeMove 19 = .ok (.aaload, 1) := by decide +kernel
theorem dX6_removeMove_20 : decode cX6_removeMove 20 = .ok (.aload_n 0, 1) := by decide +kernel
theorem dX6_removeMove_21 : decode cX6_removeMove 21 = .ok (.getfield 19, 3) := by decide +kernel
theorem dX6_removeMove_24 : decode cX6_removeMove 24 = .ok (.iload_n 2, 1) := by decide +kernel
theorem dX6_removeMove_25 : decode cX6_removeMove 25 = .ok (.aaload, 1) := by decide +kernel
theorem dX6_removeMove_26 : decode cX6_removeMove 26 = .ok (.invokevirtual 36, 3) := by decide +kernel
theorem dX6_removeMove_29 : decode cX6_removeMove 29 = .ok (.iinc 2 1, 3) := by decide +kernel
theorem dX6_removeMove_32 : decode cX6_removeMove 32 = .ok (.goto (-28), 3) := by decide +kernel
theorem dX6_removeMove_35 : decode cX6_removeMove 35 = .ok (.aload_n 0, 1) := by decide +kernel
theorem dX6_removeMove_36 : decode cX6_removeMove 36 = .ok (.dup, 1) := by decide +kernel
theorem dX6_removeMove_37 : decode cX6_removeMove 37 = .ok (.getfield 23, 3) := by decide +kernel
theorem dX6_removeMove_40 : decode cX6_removeMove 40 = .ok (.iconst 1, 1) := by decide +kernel
theorem dX6_removeMove_41 : decode cX6_removeMove 41 = .ok (.isub, 1) := by decide +kernel
theorem dX6_removeMove_42 : decode cX6_removeMove 42 = .ok (.putfield 23, 3) := by decide +kernel
theorem dX6_removeMove_45 : decode cX6_removeMove 45 = .ok (.return_, 1) := by decide +kernel
theorem dX6_movesOf_0 : decode cX6_movesOf 0 = .ok (.iconst 0, 1) := by decide +kernel
theorem dX6_movesOf_1 : decode cX6_movesOf 1 = .ok (.istore_n 2, 1) := by decide +kernel
theorem dX6_movesOf_2 : decode cX6_movesOf 2 = .ok (.iconst 0, 1) := by decide +kernel
theorem dX6_movesOf_3 : decode cX6_movesOf 3 = .ok (.istore_n 3, 1) := by decide +kernel
theorem dX6_movesOf_4 : decode cX6_movesOf 4 = .ok (.iload_n 3, 1) := by decide +kernel
theorem dX6_movesOf_5 : decode cX6_movesOf 5 = .ok (.aload_n 0, 1) := by decide +kernel
theorem dX6_movesOf_6 : decode cX6_movesOf 6 = .ok (.getfield 23, 3) := by decide +kernel
theorem dX6_movesOf_9 : decode cX6_movesOf 9 = .ok (.if_icmp .ge 25, 3) := by decide +kernel
theorem dX6_movesOf_12 : decode cX6_movesOf 12 = .ok (.aload_n 0, 1) := by decide +kernel
theorem dX6_movesOf_13 : decode cX6_movesOf 13 = .ok (.getfield 19, 3) := by decide +kernel
theorem dX6_movesOf_16 : decode cX6_movesOf 16 = .ok (.iload_n 3, 1) := by decide +kernel
theorem dX6_movesOf_17 : decode cX6_movesOf 17 = .ok (.aaload, 1) := by decide +kernel
theorem dX6_movesOf_18 : decode cX6_movesOf 18 = .ok (.getfield 39, 3) := by decide +kernel
theorem dX6_movesOf_21 : decode cX6_movesOf 21 = .ok (.iload_n 1, 1) := by decide +kernel
theorem dX6_movesOf_22 : decode cX6_movesOf 22 = .ok (.if_icmp .ne 6, 3) := by decide +kernel
theorem dX6_movesOf_25 : decode cX6_movesOf 25 = .ok (.iinc 2 1, 3) := by decide +kernel
theorem dX6_movesOf_28 : decode cX6_movesOf 28 = .ok (.iinc 3 1, 3) := by decide +kernel
theorem dX6_movesOf_31 : decode cX6_movesOf 31 = .ok (.goto (-27), 3) := by decide +kernel
theorem dX6_movesOf_34 : decode cX6_movesOf 34 = .ok (.iload_n 2, 1) := by decide +kernel
theorem dX6_movesOf_35 : decode cX6_movesOf 35 = .ok (.ireturn, 1) := by decide +kernel
set_option maxRecDepth 20000 in
theorem ggX6_moveAt_X6_firstMoveFrom : GoodIn wsX6_moveAt wsX6_firstMoveFrom := goodIn_r _ [7, 8, 1, 9, 2, 10, 11, 12, 13, 14, 15, 16, 17] (by decide +kernel) (by decide +kernel)
set_option maxRecDepth 20000 in
theorem gX6_moveAt_X6_firstMoveFrom : GoodIn wsX6_moveAt (wsV RX6 51 RX6 yX6_firstMoveFrom wsX6_firstMoveFrom) := goodIn_app (goodIn_of _ (by decide +kernel)) ggX6_moveAt_X6_firstMoveFrom
theorem dX6_moveAt_0 : decode cX6_moveAt 0 = .ok (.aload_n 0, 1) := by decide +kernel
theorem dX6_moveAt_1 : decode cX6_moveAt 1 = .ok (.iload_n 1, 1) := by decide +kernel
theorem dX6_moveAt_2 : decode cX6_moveAt 2 = .ok (.iload_n 2, 1) := by decide +kernel
theorem dX6_moveAt_3 : decode cX6_moveAt 3 = .ok (.invokevirtual 51, 3) := by decide +kernel
theorem dX6_moveAt_6 : decode cX6_moveAt 6 = .ok (.istore_n 3, 1) := by decide +kernel
theorem dX6_moveAt_7 : decode cX6_moveAt 7 = .ok (.iload_n 3, 1) := by decide +kernel
theorem dX6_moveAt_8 : decode cX6_moveAt 8 = .ok (.ifCond .lt 20, 3) := by decide +kernel
theorem dX6_moveAt_11 : decode cX6_moveAt 11 = .ok (.aload_n 0, 1) := by decide +kernel
theorem dX6_moveAt_12 : decode cX6_moveAt 12 = .ok (.getfield 19, 3) := by decide +kernel
theorem dX6_moveAt_15 : decode cX6_moveAt 15 = .ok (.iload_n 3, 1) := by decide +kernel
theorem dX6_moveAt_16 : decode cX6_moveAt 16 = .ok (.aaload, 1) := by decide +kernel
theorem dX6_moveAt_17 : decode cX6_moveAt 17 = .ok (.getfield 42, 3) := by decide +kernel
theorem dX6_moveAt_20 : decode cX6_moveAt 20 = .ok (.iload_n 2, 1) := by decide +kernel
theorem dX6_moveAt_21 : decode cX6_moveAt 21 = .ok (.if_icmp .ne 7, 3) := by decide +kernel
theorem dX6_moveAt_24 : decode cX6_moveAt 24 = .ok (.iload_n 3, 1) := by decide +kernel
theorem dX6_moveAt_25 : decode cX6_moveAt 25 = .ok (.goto 4, 3) := by decide +kernel
theorem dX6_moveAt_28 : decode cX6_moveAt 28 = .ok (.iconst (-1), 1) := by decide +kernel
theorem dX6_moveAt_29 : decode cX6_moveAt 29 = .ok (.ireturn, 1) := by decide +kernel
theorem dX6_firstMoveFrom_0 : decode cX6_firstMoveFrom 0 = .ok (.iconst (-1), 1) := by decide +kernel
theorem dX6_firstMoveFrom_1 : decode cX6_firstMoveFrom 1 = .ok (.istore_n 3, 1) := by decide +kernel
theorem dX6_firstMoveFrom_2 : decode cX6_firstMoveFrom 2 = .ok (.iconst 0, 1) := by decide +kernel
theorem dX6_firstMoveFrom_3 : decode cX6_firstMoveFrom 3 = .ok (.istore 4, 2) := by decide +kernel
theorem dX6_firstMoveFrom_5 : decode cX6_firstMoveFrom 5 = .ok (.iload 4, 2) := by decide +kernel
theorem dX6_firstMoveFrom_7 : decode cX6_firstMoveFrom 7 = .ok (.aload_n 0, 1) := by decide +kernel
theorem dX6_firstMoveFrom_8 : decode cX6_firstMoveFrom 8 = .ok (.getfield 23, 3) := by decide +kernel
theorem dX6_firstMoveFrom_11 : decode cX6_firstMoveFrom 11 = .ok (.if_icmp .ge 78, 3) := by decide +kernel
theorem dX6_firstMoveFrom_14 : decode cX6_firstMoveFrom 14 = .ok (.aload_n 0, 1) := by decide +kernel
theorem dX6_firstMoveFrom_15 : decode cX6_firstMoveFrom 15 = .ok (.getfield 19, 3) := by decide +kernel
theorem dX6_firstMoveFrom_18 : decode cX6_firstMoveFrom 18 = .ok (.iload 4, 2) := by decide +kernel
theorem dX6_firstMoveFrom_20 : decode cX6_firstMoveFrom 20 = .ok (.aaload, 1) := by decide +kernel
theorem dX6_firstMoveFrom_21 : decode cX6_firstMoveFrom 21 = .ok (.getfield 39, 3) := by decide +kernel
theorem dX6_firstMoveFrom_24 : decode cX6_firstMoveFrom 24 = .ok (.iload_n 1, 1) := by decide +kernel
theorem dX6_firstMoveFrom_25 : decode cX6_firstMoveFrom 25 = .ok (.if_icmp .ne 21, 3) := by decide +kernel
theorem dX6_firstMoveFrom_28 : decode cX6_firstMoveFrom 28 = .ok (.aload_n 0, 1) := by decide +kernel
theorem dX6_firstMoveFrom_29 : decode cX6_firstMoveFrom 29 = .ok (.getfield 19, 3) := by decide +kernel
theorem dX6_firstMoveFrom_32 : decode cX6_firstMoveFrom 32 = .ok (.iload 4, 2) := by decide +kernel
theorem dX6_firstMoveFrom_34 : decode cX6_firstMoveFrom 34 = .ok (.aaload, 1) := by decide +kernel
theorem dX6_firstMoveFrom_35 : decode cX6_firstMoveFrom 35 = .ok (.getfield 42, 3) := by decide +kernel
theorem dX6_firstMoveFrom_38 : decode cX6_firstMoveFrom 38 = .ok (.iload_n 2, 1) := by decide +kernel
theorem dX6_firstMoveFrom_39 : decode cX6_firstMoveFrom 39 = .ok (.if_icmp .lt 7, 3) := by decide +kernel
theorem dX6_firstMoveFrom_42 : decode cX6_firstMoveFrom 42 = .ok (.iconst 1, 1) := by decide +kernel
theorem dX6_firstMoveFrom_43 : decode cX6_firstMoveFrom 43 = .ok (.goto 4, 3) := by decide +kernel
theorem dX6_firstMoveFrom_46 : decode cX6_firstMoveFrom 46 = .ok (.iconst 0, 1) := by decide +kernel
theorem dX6_firstMoveFrom_47 : decode cX6_firstMoveFrom 47 = .ok (.istore 5, 2) := by decide +kernel
theorem dX6_firstMoveFrom_49 : decode cX6_firstMoveFrom 49 = .ok (.iload 5, 2) := by decide +kernel
theorem dX6_firstMoveFrom_51 : decode cX6_firstMoveFrom 51 = .ok (.ifCond .eq 32, 3) := by decide +kernel
theorem dX6_firstMoveFrom_54 : decode cX6_firstMoveFrom 54 = .ok (.iload_n 3, 1) := by decide +kernel
theorem dX6_firstMoveFrom_55 : decode cX6_firstMoveFrom 55 = .ok (.ifCond .lt 25, 3) := by decide +kernel
theorem dX6_firstMoveFrom_58 : decode cX6_firstMoveFrom 58 = .ok (.aload_n 0, 1) := by decide +kernel
theorem dX6_firstMoveFrom_59 : decode cX6_firstMoveFrom 59 = .ok (.getfield 19, 3) := by decide +kernel
theorem dX6_firstMoveFrom_62 : decode cX6_firstMoveFrom 62 = .ok (.iload 4, 2) := by decide +kernel
theorem dX6_firstMoveFrom_64 : decode cX6_firstMoveFrom 64 = .ok (.aaload, 1) := by decide +kernel
theorem dX6_firstMoveFrom_65 : decode cX6_firstMoveFrom 65 = .ok (.getfield 42, 3) := by decide +kernel
theorem dX6_firstMoveFrom_68 : decode cX6_firstMoveFrom 68 = .ok (.aload_n 0, 1) := by decide +kernel
theorem dX6_firstMoveFrom_69 : decode cX6_firstMoveFrom 69 = .ok (.getfield 19, 3) := by decide +kernel
theorem dX6_firstMoveFrom_72 : decode cX6_firstMoveFrom 72 = .ok (.iload_n 3, 1) := by decide +kernel
theorem dX6_firstMoveFrom_73 : decode cX6_firstMoveFrom 73 = .ok (.aaload, 1) := by decide +kernel
theorem dX6_firstMoveFrom_74 : decode cX6_firstMoveFrom 74 = .ok (.getfield 42, 3) := by decide +kernel
theorem dX6_firstMoveFrom_77 : decode cX6_firstMoveFrom 77 = .ok (.if_icmp .ge 6, 3) := by decide +kernel
theorem dX6_firstMoveFrom_80 : decode cX6_firstMoveFrom 80 = .ok (.iload 4, 2) := by decide +kernel
theorem dX6_firstMoveFrom_82 : decode cX6_firstMoveFrom 82 = .ok (.istore_n 3, 1) := by decide +kernel
theorem dX6_firstMoveFrom_83 : decode cX6_firstMoveFrom 83 = .ok (.iinc 4 1, 3) := by decide +kernel
theorem dX6_firstMoveFrom_86 : decode cX6_firstMoveFrom 86 = .ok (.goto (-81), 3) := by decide +kernel
theorem dX6_firstMoveFrom_89 : decode cX6_firstMoveFrom 89 = .ok (.iload_n 3, 1) := by decide +kernel
theorem dX6_firstMoveFrom_90 : decode cX6_firstMoveFrom 90 = .ok (.ireturn, 1) := by decide +kernel
theorem dX6_areNear_0 : decode cX6_areNear 0 = .ok (.iload_n 1, 1) := by decide +kernel
theorem dX6_areNear_1 : decode cX6_areNear 1 = .ok (.iload_n 2, 1) := by decide +kernel
theorem dX6_areNear_2 : decode cX6_areNear 2 = .ok (.isub, 1) := by decide +kernel
theorem dX6_areNear_3 : decode cX6_areNear 3 = .ok (.invokestatic 55, 3) := by decide +kernel
theorem dX6_areNear_6 : decode cX6_areNear 6 = .ok (.aload_n 0, 1) := by decide +kernel
theorem dX6_areNear_7 : decode cX6_areNear 7 = .ok (.getfield 11, 3) := by decide +kernel
theorem dX6_areNear_10 : decode cX6_areNear 10 = .ok (.iload_n 1, 1) := by decide +kernel
theorem dX6_areNear_11 : decode cX6_areNear 11 = .ok (.aaload, 1) := by decide +kernel
theorem dX6_areNear_12 : decode cX6_areNear 12 = .ok (.getfield 61, 3) := by decide +kernel
theorem dX6_areNear_15 : decode cX6_areNear 15 = .ok (.iconst 2, 1) := by decide +kernel
theorem dX6_areNear_16 : decode cX6_areNear 16 = .ok (.iaload, 1) := by decide +kernel
theorem dX6_areNear_17 : decode cX6_areNear 17 = .ok (.aload_n 0, 1) := by decide +kernel
theorem dX6_areNear_18 : decode cX6_areNear 18 = .ok (.getfield 11, 3) := by decide +kernel
theorem dX6_areNear_21 : decode cX6_areNear 21 = .ok (.iload_n 2, 1) := by decide +kernel
theorem dX6_areNear_22 : decode cX6_areNear 22 = .ok (.aaload, 1) := by decide +kernel
theorem dX6_areNear_23 : decode cX6_areNear 23 = .ok (.getfield 61, 3) := by decide +kernel
theorem dX6_areNear_26 : decode cX6_areNear 26 = .ok (.iconst 2, 1) := by decide +kernel
theorem dX6_areNear_27 : decode cX6_areNear 27 = .ok (.iaload, 1) := by decide +kernel
theorem dX6_areNear_28 : decode cX6_areNear 28 = .ok (.iadd, 1) := by decide +kernel
theorem dX6_areNear_29 : decode cX6_areNear 29 = .ok (.if_icmp .gt 7, 3) := by decide +kernel
theorem dX6_areNear_32 : decode cX6_areNear 32 = .ok (.iconst 1, 1) := by decide +kernel
theorem dX6_areNear_33 : decode cX6_areNear 33 = .ok (.goto 4, 3) := by decide +kernel
theorem dX6_areNear_36 : decode cX6_areNear 36 = .ok (.iconst 0, 1) := by decide +kernel
theorem dX6_areNear_37 : decode cX6_areNear 37 = .ok (.ireturn, 1) := by decide +kernel
set_option maxRecDepth 20000 in
theorem ggX6_isDoable_X0_isEven : GoodIn wsX6_isDoable wsX0_isEven := goodIn_r _ [9, 10, 11, 12, 13, 14, 15, 16, 17, 18, 19, 20, 21, 22, 31, 32, 33, 34, 35] (by decide +kernel) (by decide +kernel)
set_option maxRecDepth 20000 in
theorem gX6_isDoable_X0_isEven : GoodIn wsX6_isDoable (wsV RX6 65 RX0 yX0_isEven wsX0_isEven) := goodIn_app (goodIn_of _ (by decide +kernel)) ggX6_isDoable_X0_isEven
theorem dX6_isDoable_0 : decode cX6_isDoable 0 = .ok (.aload_n 0, 1) := by decide +kernel
theorem dX6_isDoable_1 : decode cX6_isDoable 1 = .ok (.getfield 11, 3) := by decide +kernel
theorem dX6_isDoable_4 : decode cX6_isDoable 4 = .ok (.aload_n 0, 1) := by decide +kernel
theorem dX6_isDoable_5 : decode cX6_isDoable 5 = .ok (.getfield 19, 3) := by decide +kernel
theorem dX6_isDoable_8 : decode cX6_isDoable 8 = .ok (.iload_n 1, 1) := by decide +kernel
theorem dX6_isDoable_9 : decode cX6_isDoable 9 = .ok (.aaload, 1) := by decide +kernel
theorem dX6_isDoable_10 : decode cX6_isDoable 10 = .ok (.getfield 39, 3) := by decide +kernel
theorem dX6_isDoable_13 : decode cX6_isDoable 13 = .ok (.aaload, 1) := by decide +kernel
theorem dX6_isDoable_14 : decode cX6_isDoable 14 = .ok (.aload_n 0, 1) := by decide +kernel
theorem dX6_isDoable_15 : decode cX6_isDoable 15 = .ok (.getfield 27, 3) := by decide +kernel
theorem dX6_isDoable_18 : decode cX6_isDoable 18 = .ok (.invokevirtual 65, 3) := by decide +kernel
theorem dX6_isDoable_21 : decode cX6_isDoable 21 = .ok (.ireturn, 1) := by decide +kernel
set_option maxRecDepth 20000 in
theorem ggX6_evenBars_X0_isEven : GoodIn wsX6_evenBars wsX0_isEven := goodIn_r _ [7, 8, 9, 10, 11, 12, 13, 14, 15, 16, 17, 18, 19, 20, 25, 26, 27, 28, 29] (by decide +kernel) (by decide +kernel)
set_option maxRecDepth 20000 in
theorem gX6_evenBars_X0_isEven : GoodIn wsX6_evenBars (wsV RX6 65 RX0 yX0_isEven wsX0_isEven) := goodIn_app (goodIn_of _ (by decide +kernel)) ggX6_evenBars_X0_isEven
theorem dX6_evenBars_0 : decode cX6_evenBars 0 = .ok (.iconst 0, 1) := by decide +kernel
theorem dX6_evenBars_1 : decode cX6_evenBars 1 = .ok (.istore_n 1, 1) := by decide +kernel
theorem dX6_evenBars_2 : decode cX6_evenBars 2 = .ok (.iconst 0, 1) := by decide +kernel
theorem dX6_evenBars_3 : decode cX6_evenBars 3 = .ok (.istore_n 2, 1) := by decide +kernel
theorem dX6_evenBars_4 : decode cX6_evenBars 4 = .ok (.iload_n 2, 1) := by decide +kernel
theorem dX6_evenBars_5 : decode cX6_evenBars 5 = .ok (.bipush 10, 2) := by decide +kernel
theorem dX6_evenBars_7 : decode cX6_evenBars 7 = .ok (.if_icmp .ge 28, 3) := by decide +kernel
theorem dX6_evenBars_10 : decode cX6_evenBars 10 = .ok (.aload_n 0, 1) := by decide +kernel
theorem dX6_evenBars_11 : decode cX6_evenBars 11 = .ok (.getfield 11, 3) := by decide +kernel
theorem dX6_evenBars_14 : decode cX6_evenBars 14 = .ok (.iload_n 2, 1) := by decide +kernel
theorem dX6_evenBars_15 : decode cX6_evenBars 15 = .ok (.aaload, 1) := by decide +kernel
theorem dX6_evenBars_16 : decode cX6_evenBars 16 = .ok (.aload_n 0, 1) := by decide +kernel
theorem dX6_evenBars_17 : decode cX6_evenBars 17 = .ok (.getfield 27, 3) := by decide +kernel
theorem dX6_evenBars_20 : decode cX6_evenBars 20 = .ok (.invokevirtual 65, 3) := by decide +kernel
theorem dX6_evenBars_23 : decode cX6_evenBars 23 = .ok (.ifCond .eq 6, 3) := by decide +kernel
theorem dX6_evenBars_26 : decode cX6_evenBars 26 = .ok (.iinc 1 1, 3) := by decide +kernel
theorem dX6_evenBars_29 : decode cX6_evenBars 29 = .ok (.iinc 2 1, 3) := by decide +kernel
theorem dX6_evenBars_32 : decode cX6_evenBars 32 = .ok (.goto (-28), 3) := by decide +kernel
theorem dX6_evenBars_35 : decode cX6_evenBars 35 = .ok (.iload_n 1, 1) := by decide +kernel
theorem dX6_evenBars_36 : decode cX6_evenBars 36 = .ok (.ireturn, 1) := by decide +kernel
set_option maxRecDepth 20000 in
theorem ggX6_nearPairs_X6_areNear : GoodIn wsX6_nearPairs wsX6_areNear := goodIn_r _ [5, 6, 7, 8, 9, 10, 11, 12, 13, 14, 15, 16, 17, 18] (by decide +kernel) (by decide +kernel)
set_option maxRecDepth 20000 in
theorem gX6_nearPairs_X6_areNear : GoodIn wsX6_nearPairs (wsV RX6 69 RX6 yX6_areNear wsX6_areNear) := goodIn_app (goodIn_of _ (by decide +kernel)) ggX6_nearPairs_X6_areNear
theorem dX6_nearPairs_0 : decode cX6_nearPairs 0 = .ok (.iconst 0, 1) := by decide +kernel
theorem dX6_nearPairs_1 : decode cX6_nearPairs 1 = .ok (.istore_n 1, 1) := by decide +kernel
theorem dX6_nearPairs_2 : decode cX6_nearPairs 2 = .ok (.iconst 0, 1) := by decide +kernel
theorem dX6_nearPairs_3 : decode cX6_nearPairs 3 = .ok (.istore_n 2, 1) := by decide +kernel
theorem dX6_nearPairs_4 : decode cX6_nearPairs 4 = .ok (.iload_n 2, 1) := by decide +kernel
theorem dX6_nearPairs_5 : decode cX6_nearPairs 5 = .ok (.bipush 10, 2) := by decide +kernel
theorem dX6_nearPairs_7 : decode cX6_nearPairs 7 = .ok (.if_icmp .ge 37, 3) := by decide +kernel
theorem dX6_nearPairs_10 : decode cX6_nearPairs 10 = .ok (.iload_n 2, 1) := by decide +kernel
theorem dX6_nearPairs_11 : decode cX6_nearPairs 11 = .ok (.iconst 1, 1) := by decide +kernel
theorem dX6_nearPairs_12 : decode cX6_nearPairs 12 = .ok (.iadd, 1) := by decide +kernel
theorem dX6_nearPairs_13 : decode cX6_nearPairs 13 = .ok (.istore_n 3, 1) := by decide +kernel
theorem dX6_nearPairs_14 : decode cX6_nearPairs 14 = .ok (.iload_n 3, 1) := by decide +kernel
theorem dX6_nearPairs_15 : decode cX6_nearPairs 15 = .ok (.bipush 10, 2) := by decide +kernel
theorem dX6_nearPairs_17 : decode cX6_nearPairs 17 = .ok (.if_icmp .ge 21, 3) := by decide +kernel
theorem dX6_nearPairs_20 : decode cX6_nearPairs 20 = .ok (.aload_n 0, 1) := by decide +kernel
theorem dX6_nearPairs_21 : decode cX6_nearPairs 21 = .ok (.iload_n 2, 1) := by decide +kernel
theorem dX6_nearPairs_22 : decode cX6_nearPairs 22 = .ok (.iload_n 3, 1) := by decide +kernel
theorem dX6_nearPairs_23 : decode cX6_nearPairs 23 = .ok (.invokevirtual 69, 3) := by decide +kernel
theorem dX6_nearPairs_26 : decode cX6_nearPairs 26 = .ok (.ifCond .eq 6, 3) := by decide +kernel
theorem dX6_nearPairs_29 : decode cX6_nearPairs 29 = .ok (.iinc 1 1, 3) := by decide +kernel
theorem dX6_nearPairs_32 : decode cX6_nearPairs 32 = .ok (.iinc 3 1, 3) := by decide +kernel
theorem dX6_nearPairs_35 : decode cX6_nearPairs 35 = .ok (.goto (-21), 3) := by decide +kernel
theorem dX6_nearPairs_38 : decode cX6_nearPairs 38 = .ok (.iinc 2 1, 3) := by decide +kernel
theorem dX6_nearPairs_41 : decode cX6_nearPairs 41 = .ok (.goto (-37), 3) := by decide +kernel
theorem dX6_nearPairs_44 : decode cX6_nearPairs 44 = .ok (.iload_n 1, 1) := by decide +kernel
theorem dX6_nearPairs_45 : decode cX6_nearPairs 45 = .ok (.ireturn, 1) := by decide +kernel
set_option maxRecDepth 20000 in
theorem ggX7_init_X6_init : GoodIn wsX7_init wsX6_init := goodIn_r _ [24, 25, 2, 3, 26, 27, 28, 29, 30, 31, 32, 33, 34, 35, 36, 37, 38, 39, 40, 41, 42, 43, 44, 45, 46, 47, 48, 49, 50, 51, 52, 53, 54, 55, 56, 57, 82, 83, 84, 85, 105, 106, 107, 108, 109, 110, 111, 112, 113] (by decide +kernel) (by decide +kernel)
set_option maxRecDepth 20000 in
theorem gX7_init_X6_init : GoodIn wsX7_init (wsX6_init) := ggX7_init_X6_init
set_option maxRecDepth 20000 in
theorem ggX7_init_X3_init : GoodIn wsX7_init wsX3_init := goodIn_r _ [59, 60, 2, 3, 39, 61, 62, 63, 64, 65, 92, 93, 94, 95, 96] (by decide +kernel) (by decide +kernel)
set_option maxRecDepth 20000 in
theorem gX7_init_X3_init_n26 : GoodIn wsX7_init (wsX3_init) := ggX7_init_X3_init
set_option maxRecDepth 20000 in
theorem ggX7_init_X2_init : GoodIn wsX7_init wsX2_init := goodIn_r _ [67, 68, 2, 3, 69, 39, 70, 97] (by decide +kernel) (by decide +kernel)
set_option maxRecDepth 20000 in
theorem gX7_init_X2_init_n33 : GoodIn wsX7_init (wsX2_init) := ggX7_init_X2_init
set_option maxRecDepth 20000 in
theorem ggX7_init_X1_init : GoodIn wsX7_init wsX1_init := goodIn_r _ [72, 73, 2, 3, 74, 39, 75, 76, 77, 78, 79, 80, 81, 98, 99, 100, 101, 102, 103, 104] (by decide +kernel) (by decide +kernel)
set_option maxRecDepth 20000 in
theorem gX7_init_X1_init_n40 : GoodIn wsX7_init (wsX1_init) := ggX7_init_X1_init
theorem dX7_init_0 : decode cX7_init 0 = .ok (.aload_n 0, 1) := by decide +kernel
theorem dX7_init_1 : decode cX7_init 1 = .ok (.invokespecial 3, 3) := by decide +kernel
theorem dX7_init_4 : decode cX7_init 4 = .ok (.aload_n 0, 1) := by decide +kernel
theorem dX7_init_5 : decode cX7_init 5 = .ok (.new 9, 3) := by decide +kernel
theorem dX7_init_8 : decode cX7_init 8 = .ok (.dup, 1) := by decide +kernel
theorem dX7_init_9 : decode cX7_init 9 = .ok (.invokespecial 11, 3) := by decide +kernel
theorem dX7_init_12 : decode cX7_init 12 = .ok (.putfield 12, 3) := by decide +kernel
theorem dX7_init_15 : decode cX7_init 15 = .ok (.aload_n 0, 1) := by decide +kernel
theorem dX7_init_16 : decode cX7_init 16 = .ok (.iconst 2, 1) := by decide +kernel
theorem dX7_init_17 : decode cX7_init 17 = .ok (.anewarray 9, 3) := by decide +kernel
theorem dX7_init_20 : decode cX7_init 20 = .ok (.putfield 16, 3) := by decide +kernel
theorem dX7_init_23 : decode cX7_init 23 = .ok (.aload_n 0, 1) := by decide +kernel
theorem dX7_init_24 : decode cX7_init 24 = .ok (.iconst 0, 1) := by decide +kernel
theorem dX7_init_25 : decode cX7_init 25 = .ok (.putfield 20, 3) := by decide +kernel
theorem dX7_init_28 : decode cX7_init 28 = .ok (.aload_n 0, 1) := by decide +kernel
theorem dX7_init_29 : decode cX7_init 29 = .ok (.new 24, 3) := by decide +kernel
theorem dX7_init_32 : decode cX7_init 32 = .ok (.dup, 1) := by decide +kernel
theorem dX7_init_33 : decode cX7_init 33 = .ok (.invokespecial 26, 3) := by decide +kernel
theorem dX7_init_36 : decode cX7_init 36 = .ok (.putfield 27, 3) := by decide +kernel
theorem dX7_init_39 : decode cX7_init 39 = .ok (.aload_n 0, 1) := by decide +kernel
theorem dX7_init_40 : decode cX7_init 40 = .ok (.new 31, 3) := by decide +kernel
theorem dX7_init_43 : decode cX7_init 43 = .ok (.dup, 1) := by decide +kernel
theorem dX7_init_44 : decode cX7_init 44 = .ok (.invokespecial 33, 3) := by decide +kernel
theorem dX7_init_47 : decode cX7_init 47 = .ok (.putfield 34, 3) := by decide +kernel
theorem dX7_init_50 : decode cX7_init 50 = .ok (.aload_n 0, 1) := by decide +kernel
theorem dX7_init_51 : decode cX7_init 51 = .ok (.new 38, 3) := by decide +kernel
theorem dX7_init_54 : decode cX7_init 54 = .ok (.dup, 1) := by decide +kernel
theorem dX7_init_55 : decode cX7_init 55 = .ok (.invokespecial 40, 3) := by decide +kernel
theorem dX7_init_58 : decode cX7_init 58 = .ok (.putfield 41, 3) := by decide +kernel
theorem dX7_init_61 : decode cX7_init 61 = .ok (.iconst 0, 1) := by decide +kernel
theorem dX7_init_62 : decode cX7_init 62 = .ok (.istore_n 1, 1) := by decide +kernel
theorem dX7_init_63 : decode cX7_init 63 = .ok (.iload_n 1, 1) := by decide +kernel
theorem dX7_init_64 : decode cX7_init 64 = .ok (.iconst 2, 1) := by decide +kernel
theorem dX7_init_65 : decode cX7_init 65 = .ok (.if_icmp .ge 22, 3) := by decide +kernel
theorem dX7_init_68 : decode cX7_init 68 = .ok (.aload_n 0, 1) := by decide +kernel
theorem dX7_init_69 : decode cX7_init 69 = .ok (.getfield 16, 3) := by decide +kernel
theorem dX7_init_72 : decode cX7_init 72 = .ok (.iload_n 1, 1) := by decide +kernel
theorem dX7_init_73 : decode cX7_init 73 = .ok (.new 9, 3) := by decide +kernel
theorem dX7_init_76 : decode cX7_init 76 = .ok (.dup, 1) := by decide +kernel
theorem dX7_init_77 : decode cX7_init 77 = .ok (.invokespecial 11, 3) := by decide +kernel
theorem dX7_init_80 : decode cX7_init 80 = .ok (.aastore, 1) := by decide +kernel
theorem dX7_init_81 : decode cX7_init 81 = .ok (.iinc 1 1, 3) := by decide +kernel
theorem dX7_init_84 : decode cX7_init 84 = .ok (.goto (-21), 3) := by decide +kernel
theorem dX7_init_87 : decode cX7_init 87 = .ok (.return_, 1) := by decide +kernel
set_option maxRecDepth 20000 in
theorem ggX7_set_X7_isBar : GoodIn wsX7_set wsX7_isBar := goodIn_r _ [9, 10, 11, 8, 12] (by decide +kernel) (by decide +kernel)
set_option maxRecDepth 20000 in
theorem gX7_set_X7_isBar : GoodIn wsX7_set (va_wsS RX7 45 yX7_isBar wsX7_isBar) := goodIn_app (goodIn_of _ (by decide +kernel)) ggX7_set_X7_isBar
set_option maxRecDepth 20000 in
theorem ggX7_set_X7_within : GoodIn wsX7_set wsX7_within := goodIn_r _ [12] (by decide +kernel) (by decide +kernel)
set_option maxRecDepth 20000 in
theorem gX7_set_X7_within : GoodIn wsX7_set (va_wsS RX7 49 yX7_within wsX7_within) := goodIn_app (goodIn_of _ (by decide +kernel)) ggX7_set_X7_within
theorem dX7_set_0 : decode cX7_set 0 = .ok (.iload_n 1, 1) := by decide +kernel
theorem dX7_set_1 : decode cX7_set 1 = .ok (.invokestatic 45, 3) := by decide +kernel
theorem dX7_set_4 : decode cX7_set 4 = .ok (.ifCond .ne 5, 3) := by decide +kernel
theorem dX7_set_7 : decode cX7_set 7 = .ok (.iconst (-1), 1) := by decide +kernel
theorem dX7_set_8 : decode cX7_set 8 = .ok (.ireturn, 1) := by decide +kernel
theorem dX7_set_9 : decode cX7_set 9 = .ok (.iload_n 2, 1) := by decide +kernel
theorem dX7_set_10 : decode cX7_set 10 = .ok (.iconst 0, 1) := by decide +kernel
theorem dX7_set_11 : decode cX7_set 11 = .ok (.iconst 3, 1) := by decide +kernel
theorem dX7_set_12 : decode cX7_set 12 = .ok (.invokestatic 49, 3) := by decide +kernel
theorem dX7_set_15 : decode cX7_set 15 = .ok (.ifCond .eq 16, 3) := by decide +kernel
theorem dX7_set_18 : decode cX7_set 18 = .ok (.iload_n 3, 1) := by decide +kernel
theorem dX7_set_19 : decode cX7_set 19 = .ok (.iconst 0, 1) := by decide +kernel
theorem dX7_set_20 : decode cX7_set 20 = .ok (.getstatic 53, 3) := by decide +kernel
theorem dX7_set_23 : decode cX7_set 23 = .ok (.iload_n 2, 1) := by decide +kernel
theorem dX7_set_24 : decode cX7_set 24 = .ok (.iaload, 1) := by decide +kernel
theorem dX7_set_25 : decode cX7_set 25 = .ok (.invokestatic 49, 3) := by decide +kernel
theorem dX7_set_28 : decode cX7_set 28 = .ok (.ifCond .ne 6, 3) := by decide +kernel
theorem dX7_set_31 : decode cX7_set 31 = .ok (.bipush (-2), 2) := by decide +kernel
theorem dX7_set_33 : decode cX7_set 33 = .ok (.ireturn, 1) := by decide +kernel
theorem dX7_set_34 : decode cX7_set 34 = .ok (.iload_n 2, 1) := by decide +kernel
theorem dX7_set_35 : decode cX7_set 35 = .ok (.iconst 3, 1) := by decide +kernel
theorem dX7_set_36 : decode cX7_set 36 = .ok (.if_icmp .ne 23, 3) := by decide +kernel
theorem dX7_set_39 : decode cX7_set 39 = .ok (.aload_n 0, 1) := by decide +kernel
theorem dX7_set_40 : decode cX7_set 40 = .ok (.getfield 12, 3) := by decide +kernel
theorem dX7_set_43 : decode cX7_set 43 = .ok (.getfield 57, 3) := by decide +kernel
theorem dX7_set_46 : decode cX7_set 46 = .ok (.istore 4, 2) := by decide +kernel
theorem dX7_set_48 : decode cX7_set 48 = .ok (.aload_n 0, 1) := by decide +kernel
theorem dX7_set_49 : decode cX7_set 49 = .ok (.getfield 12, 3) := by decide +kernel
theorem dX7_set_52 : decode cX7_set 52 = .ok (.iload_n 3, 1) := by decide +kernel
theorem dX7_set_53 : decode cX7_set 53 = .ok (.putfield 57, 3) := by decide +kernel
theorem dX7_set_56 : decode cX7_set 56 = .ok (.goto 34, 3) := by decide +kernel
theorem dX7_set_59 : decode cX7_set 59 = .ok (.aload_n 0, 1) := by decide +kernel
theorem dX7_set_60 : decode cX7_set 60 = .ok (.getfield 12, 3) := by decide +kernel
theorem dX7_set_63 : decode cX7_set 63 = .ok (.getfield 60, 3) := by decide +kernel
theorem dX7_set_66 : decode cX7_set 66 = .ok (.iload_n 1, 1) := by decide +kernel
theorem dX7_set_67 : decode cX7_set 67 = .ok (.aaload, 1) := by decide +kernel
theorem dX7_set_68 : decode cX7_set 68 = .ok (.getfield 64, 3) := by decide +kernel
theorem dX7_set_71 : decode cX7_set 71 = .ok (.iload_n 2, 1) := by decide +kernel
theorem dX7_set_72 : decode cX7_set 72 = .ok (.iaload, 1) := by decide +kernel
theorem dX7_set_73 : decode cX7_set 73 = .ok (.istore 4, 2) := by decide +kernel
theorem dX7_set_75 : decode cX7_set 75 = .ok (.aload_n 0, 1) := by decide +kernel
theorem dX7_set_76 : decode cX7_set 76 = .ok (.getfield 12, 3) := by decide +kernel
theorem dX7_set_79 : decode cX7_set 79 = .ok (.getfield 60, 3) := by decide +kernel
theorem dX7_set_82 : decode cX7_set 82 = .ok (.iload_n 1, 1) := by decide +kernel
theorem dX7_set_83 : decode cX7_set 83 = .ok (.aaload, 1) := by decide +kernel
theorem dX7_set_84 : decode cX7_set 84 = .ok (.getfield 64, 3) := by decide +kernel
theorem dX7_set_87 : decode cX7_set 87 = .ok (.iload_n 2, 1) := by decide +kernel
theorem dX7_set_88 : decode cX7_set 88 = .ok (.iload_n 3, 1) := by decide +kernel
theorem dX7_set_89 : decode cX7_set 89 = .ok (.iastore, 1) := by decide +kernel
theorem dX7_set_90 : decode cX7_set 90 = .ok (.iload 4, 2) := by decide +kernel
theorem dX7_set_92 : decode cX7_set 92 = .ok (.ireturn, 1) := by decide +kernel
set_option maxRecDepth 20000 in
theorem ggX7_load_X7_isBar : GoodIn wsX7_load wsX7_isBar := goodIn_r _ [7, 8, 9, 6, 10] (by decide +kernel) (by decide +kernel)
set_option maxRecDepth 20000 in
theorem gX7_load_X7_isBar : GoodIn wsX7_load (va_wsS RX7 45 yX7_isBar wsX7_isBar) := goodIn_app (goodIn_of _ (by decide +kernel)) ggX7_load_X7_isBar
set_option maxRecDepth 20000 in
theorem ggX7_load_X7_within : GoodIn wsX7_load wsX7_within := goodIn_r _ [10] (by decide +kernel) (by decide +kernel)
set_option maxRecDepth 20000 in
theorem gX7_load_X7_within : GoodIn wsX7_load (va_wsS RX7 49 yX7_within wsX7_within) := goodIn_app (goodIn_of _ (by decide +kernel)) ggX7_load_X7_within
set_option maxRecDepth 20000 in
theorem ggX7_load_X0_pileOf : GoodIn wsX7_load wsX0_pileOf := goodIn_r _ [15, 16, 17, 37, 38, 39] (by decide +kernel) (by decide +kernel)
set_option maxRecDepth 20000 in
theorem gX7_load_X0_pileOf : GoodIn wsX7_load (wsV RX7 69 RX0 yX0_pileOf wsX0_pileOf) := goodIn_app (goodIn_of _ (by decide +kernel)) ggX7_load_X0_pileOf
set_option maxRecDepth 20000 in
theorem ggX7_load_X5_add : GoodIn wsX7_load wsX5_add := goodIn_r _ [22, 23, 24, 35, 36] (by decide +kernel) (by decide +kernel)
set_option maxRecDepth 20000 in
theorem gX7_load_X5_add : GoodIn wsX7_load (wsV RX7 78 RX5 yX5_add wsX5_add) := goodIn_app (goodIn_of _ (by decide +kernel)) ggX7_load_X5_add
theorem dX7_load_0 : decode cX7_load 0 = .ok (.iload_n 1, 1) := by decide +kernel
theorem dX7_load_1 : decode cX7_load 1 = .ok (.invokestatic 45, 3) := by decide +kernel
theorem dX7_load_4 : decode cX7_load 4 = .ok (.ifCond .ne 5, 3) := by decide +kernel
theorem dX7_load_7 : decode cX7_load 7 = .ok (.iconst (-1), 1) := by decide +kernel
theorem dX7_load_8 : decode cX7_load 8 = .ok (.ireturn, 1) := by decide +kernel
theorem dX7_load_9 : decode cX7_load 9 = .ok (.iload_n 2, 1) := by decide +kernel
theorem dX7_load_10 : decode cX7_load 10 = .ok (.iconst 0, 1) := by decide +kernel
theorem dX7_load_11 : decode cX7_load 11 = .ok (.iconst 1, 1) := by decide +kernel
theorem dX7_load_12 : decode cX7_load 12 = .ok (.invokestatic 49, 3) := by decide +kernel
theorem dX7_load_15 : decode cX7_load 15 = .ok (.ifCond .eq 13, 3) := by decide +kernel
theorem dX7_load_18 : decode cX7_load 18 = .ok (.iload_n 3, 1) := by decide +kernel
theorem dX7_load_19 : decode cX7_load 19 = .ok (.iconst 1, 1) := by decide +kernel
theorem dX7_load_20 : decode cX7_load 20 = .ok (.bipush 50, 2) := by decide +kernel
theorem dX7_load_22 : decode cX7_load 22 = .ok (.invokestatic 49, 3) := by decide +kernel
theorem dX7_load_25 : decode cX7_load 25 = .ok (.ifCond .ne 6, 3) := by decide +kernel
theorem dX7_load_28 : decode cX7_load 28 = .ok (.bipush (-2), 2) := by decide +kernel
theorem dX7_load_30 : decode cX7_load 30 = .ok (.ireturn, 1) := by decide +kernel
theorem dX7_load_31 : decode cX7_load 31 = .ok (.aload_n 0, 1) := by decide +kernel
theorem dX7_load_32 : decode cX7_load 32 = .ok (.getfield 12, 3) := by decide +kernel
theorem dX7_load_35 : decode cX7_load 35 = .ok (.getfield 60, 3) := by decide +kernel
theorem dX7_load_38 : decode cX7_load 38 = .ok (.iload_n 1, 1) := by decide +kernel
theorem dX7_load_39 : decode cX7_load 39 = .ok (.aaload, 1) := by decide +kernel
theorem dX7_load_40 : decode cX7_load 40 = .ok (.iload_n 2, 1) := by decide +kernel
theorem dX7_load_41 : decode cX7_load 41 = .ok (.invokevirtual 69, 3) := by decide +kernel
theorem dX7_load_44 : decode cX7_load 44 = .ok (.astore 4, 2) := by decide +kernel
theorem dX7_load_46 : decode cX7_load 46 = .ok (.aload 4, 2) := by decide +kernel
theorem dX7_load_48 : decode cX7_load 48 = .ok (.getfield 73, 3) := by decide +kernel
theorem dX7_load_51 : decode cX7_load 51 = .ok (.bipush 6, 2) := by decide +kernel
theorem dX7_load_53 : decode cX7_load 53 = .ok (.if_icmp .lt 6, 3) := by decide +kernel
theorem dX7_load_56 : decode cX7_load 56 = .ok (.bipush (-4), 2) := by decide +kernel
theorem dX7_load_58 : decode cX7_load 58 = .ok (.ireturn, 1) := by decide +kernel
theorem dX7_load_59 : decode cX7_load 59 = .ok (.aload 4, 2) := by decide +kernel
theorem dX7_load_61 : decode cX7_load 61 = .ok (.iload_n 3, 1) := by decide +kernel
theorem dX7_load_62 : decode cX7_load 62 = .ok (.invokevirtual 78, 3) := by decide +kernel
theorem dX7_load_65 : decode cX7_load 65 = .ok (.aload 4, 2) := by decide +kernel
theorem dX7_load_67 : decode cX7_load 67 = .ok (.getfield 73, 3) := by decide +kernel
theorem dX7_load_70 : decode cX7_load 70 = .ok (.ireturn, 1) := by decide +kernel
set_option maxRecDepth 20000 in
theorem ggX7_take_X7_isBar : GoodIn wsX7_take wsX7_isBar := goodIn_r _ [7, 8, 9, 6, 10] (by decide +kernel) (by decide +kernel)
set_option maxRecDepth 20000 in
theorem gX7_take_X7_isBar : GoodIn wsX7_take (va_wsS RX7 45 yX7_isBar wsX7_isBar) := goodIn_app (goodIn_of _ (by decide +kernel)) ggX7_take_X7_isBar
set_option maxRecDepth 20000 in
theorem ggX7_take_X7_within : GoodIn wsX7_take wsX7_within := goodIn_r _ [10] (by decide +kernel) (by decide +kernel)
set_option maxRecDepth 20000 in
theorem gX7_take_X7_within : GoodIn wsX7_take (va_wsS RX7 49 yX7_within wsX7_within) := goodIn_app (goodIn_of _ (by decide +kernel)) ggX7_take_X7_within
set_option maxRecDepth 20000 in
theorem ggX7_take_X0_pileOf : GoodIn wsX7_take wsX0_pileOf := goodIn_r _ [15, 16, 17, 37, 38, 39] (by decide +kernel) (by decide +kernel)
set_option maxRecDepth 20000 in
theorem gX7_take_X0_pileOf : GoodIn wsX7_take (wsV RX7 69 RX0 yX0_pileOf wsX0_pileOf) := goodIn_app (goodIn_of _ (by decide +kernel)) ggX7_take_X0_pileOf
set_option maxRecDepth 20000 in
theorem ggX7_take_X5_remove : GoodIn wsX7_take wsX5_remove := goodIn_r _ [22, 23, 24, 35, 36] (by decide +kernel) (by decide +kernel)
set_option maxRecDepth 20000 in
theorem gX7_take_X5_remove : GoodIn wsX7_take (wsV RX7 82 RX5 yX5_remove wsX5_remove) := goodIn_app (goodIn_of _ (by decide +kernel)) ggX7_take_X5_remove
theorem dX7_take_0 : decode cX7_take 0 = .ok (.iload_n 1, 1) := by decide +kernel
theorem dX7_take_1 : decode cX7_take 1 = .ok (.invokestatic 45, 3) := by decide +kernel
theorem dX7_take_4 : decode cX7_take 4 = .ok (.ifCond .ne 5, 3) := by decide +kernel
theorem dX7_take_7 : decode cX7_take 7 = .ok (.iconst (-1), 1) := by decide +kernel
theorem dX7_take_8 : decode cX7_take 8 = .ok (.ireturn, 1) := by decide +kernel
theorem dX7_take_9 : decode cX7_take 9 = .ok (.iload_n 2, 1) := by decide +kernel
theorem dX7_take_10 : decode cX7_take 10 = .ok (.iconst 0, 1) := by decide +kernel
theorem dX7_take_11 : decode cX7_take 11 = .ok (.iconst 1, 1) := by decide +kernel
theorem dX7_take_12 : decode cX7_take 12 = .ok (.invokestatic 49, 3) := by decide +kernel
theorem dX7_take_15 : decode cX7_take 15 = .ok (.ifCond .ne 6, 3) := by decide +kernel
theorem dX7_take_18 : decode cX7_take 18 = .ok (.bipush (-2), 2) := by decide +kernel
theorem dX7_take_20 : decode cX7_take 20 = .ok (.ireturn, 1) := by decide +kernel
theorem dX7_take_21 : decode cX7_take 21 = .ok (.aload_n 0, 1) := by decide +kernel
theorem dX7_take_22 : decode cX7_take 22 = .ok (.getfield 12, 3) := by decide +kernel
theorem dX7_take_25 : decode cX7_take 25 = .ok (.getfield 60, 3) := by decide +kernel
theorem dX7_take_28 : decode cX7_take 28 = .ok (.iload_n 1, 1) := by decide +kernel
theorem dX7_take_29 : decode cX7_take 29 = .ok (.aaload, 1) := by decide +kernel
theorem dX7_take_30 : decode cX7_take 30 = .ok (.iload_n 2, 1) := by decide +kernel
theorem dX7_take_31 : decode cX7_take 31 = .ok (.invokevirtual 69, 3) := by decide +kernel
theorem dX7_take_34 : decode cX7_take 34 = .ok (.astore 4, 2) := by decide +kernel
theorem dX7_take_36 : decode cX7_take 36 = .ok (.iload_n 3, 1) := by decide +kernel
theorem dX7_take_37 : decode cX7_take 37 = .ok (.iconst 0, 1) := by decide +kernel
theorem dX7_take_38 : decode cX7_take 38 = .ok (.aload 4, 2) := by decide +kernel
theorem dX7_take_40 : decode cX7_take 40 = .ok (.getfield 73, 3) := by decide +kernel
theorem dX7_take_43 : decode cX7_take 43 = .ok (.iconst 1, 1) := by decide +kernel
theorem dX7_take_44 : decode cX7_take 44 = .ok (.isub, 1) := by decide +kernel
theorem dX7_take_45 : decode cX7_take 45 = .ok (.invokestatic 49, 3) := by decide +kernel
theorem dX7_take_48 : decode cX7_take 48 = .ok (.ifCond .ne 6, 3) := by decide +kernel
theorem dX7_take_51 : decode cX7_take 51 = .ok (.bipush (-5), 2) := by decide +kernel
theorem dX7_take_53 : decode cX7_take 53 = .ok (.ireturn, 1) := by decide +kernel
theorem dX7_take_54 : decode cX7_take 54 = .ok (.aload 4, 2) := by decide +kernel
theorem dX7_take_56 : decode cX7_take 56 = .ok (.iload_n 3, 1) := by decide +kernel
theorem dX7_take_57 : decode cX7_take 57 = .ok (.invokevirtual 82, 3) := by decide +kernel
theorem dX7_take_60 : decode cX7_take 60 = .ok (.ireturn, 1) := by decide +kernel
set_option maxRecDepth 20000 in
theorem ggX7_bar_X7_isBar : GoodIn wsX7_bar wsX7_isBar := goodIn_r _ [11, 12, 13, 10, 14] (by decide +kernel) (by decide +kernel)
set_option maxRecDepth 20000 in
theorem gX7_bar_X7_isBar : GoodIn wsX7_bar (va_wsS RX7 45 yX7_isBar wsX7_isBar) := goodIn_app (goodIn_of _ (by decide +kernel)) ggX7_bar_X7_isBar
set_option maxRecDepth 20000 in
theorem ggX7_bar_X7_within : GoodIn wsX7_bar wsX7_within := goodIn_r _ [14] (by decide +kernel) (by decide +kernel)
set_option maxRecDepth 20000 in
theorem gX7_bar_X7_within : GoodIn wsX7_bar (va_wsS RX7 49 yX7_within wsX7_within) := goodIn_app (goodIn_of _ (by decide +kernel)) ggX7_bar_X7_within
set_option maxRecDepth 20000 in
theorem ggX7_bar_X5_weightOf : GoodIn wsX7_bar wsX5_weightOf := goodIn_r _ [19, 20, 21, 59, 60] (by decide +kernel) (by decide +kernel)
set_option maxRecDepth 20000 in
theorem gX7_bar_X5_weightOf : GoodIn wsX7_bar (wsV RX7 90 RX5 yX5_weightOf wsX5_weightOf) := goodIn_app (goodIn_of _ (by decide +kernel)) ggX7_bar_X5_weightOf
set_option maxRecDepth 20000 in
theorem ggX7_bar_X5_total : GoodIn wsX7_bar wsX5_total := goodIn_r _ [25, 20, 21, 59, 60] (by decide +kernel) (by decide +kernel)
set_option maxRecDepth 20000 in
theorem gX7_bar_X5_total : GoodIn wsX7_bar (wsV RX7 96 RX5 yX5_total wsX5_total) := goodIn_app (goodIn_of _ (by decide +kernel)) ggX7_bar_X5_total
set_option maxRecDepth 20000 in
theorem ggX7_bar_X0_isEven : GoodIn wsX7_bar wsX0_isEven := goodIn_r _ [30, 31, 32, 33, 34, 35, 36, 37, 23, 24, 18, 25, 20, 21, 56, 57, 58, 59, 60] (by decide +kernel) (by decide +kernel)
set_option maxRecDepth 20000 in
theorem gX7_bar_X0_isEven : GoodIn wsX7_bar (wsV RX7 100 RX0 yX0_isEven wsX0_isEven) := goodIn_app (goodIn_of _ (by decide +kernel)) ggX7_bar_X0_isEven
set_option maxRecDepth 20000 in
theorem ggX7_bar_X6_movesOf : GoodIn wsX7_bar wsX6_movesOf := goodIn_r _ [42, 43, 44, 45, 52, 53, 54, 55, 61, 62, 63, 64] (by decide +kernel) (by decide +kernel)
set_option maxRecDepth 20000 in
theorem gX7_bar_X6_movesOf : GoodIn wsX7_bar (wsV RX7 103 RX6 yX6_movesOf wsX6_movesOf) := goodIn_app (goodIn_of _ (by decide +kernel)) ggX7_bar_X6_movesOf
theorem dX7_bar_0 : decode cX7_bar 0 = .ok (.iload_n 1, 1) := by decide +kernel
theorem dX7_bar_1 : decode cX7_bar 1 = .ok (.invokestatic 45, 3) := by decide +kernel
theorem dX7_bar_4 : decode cX7_bar 4 = .ok (.ifCond .ne 5, 3) := by decide +kernel
theorem dX7_bar_7 : decode cX7_bar 7 = .ok (.iconst (-1), 1) := by decide +kernel
theorem dX7_bar_8 : decode cX7_bar 8 = .ok (.ireturn, 1) := by decide +kernel
theorem dX7_bar_9 : decode cX7_bar 9 = .ok (.aload_n 0, 1) := by decide +kernel
theorem dX7_bar_10 : decode cX7_bar 10 = .ok (.getfield 12, 3) := by decide +kernel
theorem dX7_bar_13 : decode cX7_bar 13 = .ok (.getfield 60, 3) := by decide +kernel
theorem dX7_bar_16 : decode cX7_bar 16 = .ok (.iload_n 1, 1) := by decide +kernel
theorem dX7_bar_17 : decode cX7_bar 17 = .ok (.aaload, 1) := by decide +kernel
theorem dX7_bar_18 : decode cX7_bar 18 = .ok (.astore_n 3, 1) := by decide +kernel
theorem dX7_bar_19 : decode cX7_bar 19 = .ok (.iload_n 2, 1) := by decide +kernel
theorem dX7_bar_20 : decode cX7_bar 20 = .ok (.bipush 10, 2) := by decide +kernel
theorem dX7_bar_22 : decode cX7_bar 22 = .ok (.bipush 15, 2) := by decide +kernel
theorem dX7_bar_24 : decode cX7_bar 24 = .ok (.invokestatic 49, 3) := by decide +kernel
theorem dX7_bar_27 : decode cX7_bar 27 = .ok (.ifCond .eq 15, 3) := by decide +kernel
theorem dX7_bar_30 : decode cX7_bar 30 = .ok (.aload_n 3, 1) := by decide +kernel
theorem dX7_bar_31 : decode cX7_bar 31 = .ok (.getfield 86, 3) := by decide +kernel
theorem dX7_bar_34 : decode cX7_bar 34 = .ok (.iload_n 2, 1) := by decide +kernel
theorem dX7_bar_35 : decode cX7_bar 35 = .ok (.bipush 10, 2) := by decide +kernel
theorem dX7_bar_37 : decode cX7_bar 37 = .ok (.isub, 1) := by decide +kernel
theorem dX7_bar_38 : decode cX7_bar 38 = .ok (.invokevirtual 90, 3) := by decide +kernel
theorem dX7_bar_41 : decode cX7_bar 41 = .ok (.ireturn, 1) := by decide +kernel
theorem dX7_bar_42 : decode cX7_bar 42 = .ok (.iload_n 2, 1) := by decide +kernel
theorem dX7_bar_43 : decode cX7_bar 43 = .ok (.bipush 20, 2) := by decide +kernel
theorem dX7_bar_45 : decode cX7_bar 45 = .ok (.bipush 25, 2) := by decide +kernel
theorem dX7_bar_47 : decode cX7_bar 47 = .ok (.invokestatic 49, 3) := by decide +kernel
theorem dX7_bar_50 : decode cX7_bar 50 = .ok (.ifCond .eq 15, 3) := by decide +kernel
theorem dX7_bar_53 : decode cX7_bar 53 = .ok (.aload_n 3, 1) := by decide +kernel
theorem dX7_bar_54 : decode cX7_bar 54 = .ok (.getfield 93, 3) := by decide +kernel
theorem dX7_bar_57 : decode cX7_bar 57 = .ok (.iload_n 2, 1) := by decide +kernel
theorem dX7_bar_58 : decode cX7_bar 58 = .ok (.bipush 20, 2) := by decide +kernel
theorem dX7_bar_60 : decode cX7_bar 60 = .ok (.isub, 1) := by decide +kernel
theorem dX7_bar_61 : decode cX7_bar 61 = .ok (.invokevirtual 90, 3) := by decide +kernel
theorem dX7_bar_64 : decode cX7_bar 64 = .ok (.ireturn, 1) := by decide +kernel
theorem dX7_bar_65 : decode cX7_bar 65 = .ok (.iload_n 2, 1) := by decide +kernel
theorem dX7_bar_66 : decode cX7_bar 66 = .ok (.tableswitch 132 0 8 #[50, 57, 64, 71, 79, 87, 95, 103, 123], 50) := by decide +kernel
theorem dX7_bar_116 : decode cX7_bar 116 = .ok (.aload_n 3, 1) := by decide +kernel
theorem dX7_bar_117 : decode cX7_bar 117 = .ok (.getfield 64, 3) := by decide +kernel
theorem dX7_bar_120 : decode cX7_bar 120 = .ok (.iconst 0, 1) := by decide +kernel
theorem dX7_bar_121 : decode cX7_bar 121 = .ok (.iaload, 1) := by decide +kernel
theorem dX7_bar_122 : decode cX7_bar 122 = .ok (.ireturn, 1) := by decide +kernel
theorem dX7_bar_123 : decode cX7_bar 123 = .ok (.aload_n 3, 1) := by decide +kernel
theorem dX7_bar_124 : decode cX7_bar 124 = .ok (.getfield 64, 3) := by decide +kernel
theorem dX7_bar_127 : decode cX7_bar 127 = .ok (.iconst 1, 1) := by decide +kernel
theorem dX7_bar_128 : decode cX7_bar 128 = .ok (.iaload, 1) := by decide +kernel
theorem dX7_bar_129 : decode cX7_bar 129 = .ok (.ireturn, 1) := by decide +kernel
theorem dX7_bar_130 : decode cX7_bar 130 = .ok (.aload_n 3, 1) := by decide +kernel
theorem dX7_bar_131 : decode cX7_bar 131 = .ok (.getfield 64, 3) := by decide +kernel
theorem dX7_bar_134 : decode cX7_bar 134 = .ok (.iconst 2, 1) := by decide +kernel
theorem dX7_bar_135 : decode cX7_bar 135 = .ok (.iaload, 1) := by decide +kernel
theorem dX7_bar_136 : decode cX7_bar 136 = .ok (.ireturn, 1) := by decide +kernel
theorem dX7_bar_137 : decode cX7_bar 137 = .ok (.aload_n 3, 1) := by decide +kernel
theorem dX7_bar_138 : decode cX7_bar 138 = .ok (.getfield 86, 3) := by decide +kernel
theorem dX7_bar_141 : decode cX7_bar 141 = .ok (.getfield 73, 3) := by decide +kernel
theorem dX7_bar_144 : decode cX7_bar 144 = .ok (.ireturn, 1) := by decide +kernel
theorem dX7_bar_145 : decode cX7_bar 145 = .ok (.aload_n 3, 1) := by decide +kernel
theorem dX7_bar_146 : decode cX7_bar 146 = .ok (.getfield 93, 3) := by decide +kernel
theorem dX7_bar_149 : decode cX7_bar 149 = .ok (.getfield 73, 3) := by decide +kernel
theorem dX7_bar_152 : decode cX7_bar 152 = .ok (.ireturn, 1) := by decide +kernel
theorem dX7_bar_153 : decode cX7_bar 153 = .ok (.aload_n 3, 1) := by decide +kernel
theorem dX7_bar_154 : decode cX7_bar 154 = .ok (.getfield 86, 3) := by decide +kernel
theorem dX7_bar_157 : decode cX7_bar 157 = .ok (.invokevirtual 96, 3) := by decide +kernel
theorem dX7_bar_160 : decode cX7_bar 160 = .ok (.ireturn, 1) := by decide +kernel
theorem dX7_bar_161 : decode cX7_bar 161 = .ok (.aload_n 3, 1) := by decide +kernel
theorem dX7_bar_162 : decode cX7_bar 162 = .ok (.getfield 93, 3) := by decide +kernel
theorem dX7_bar_165 : decode cX7_bar 165 = .ok (.invokevirtual 96, 3) := by decide +kernel
theorem dX7_bar_168 : decode cX7_bar 168 = .ok (.ireturn, 1) := by decide +kernel
theorem dX7_bar_169 : decode cX7_bar 169 = .ok (.aload_n 3, 1) := by decide +kernel
theorem dX7_bar_170 : decode cX7_bar 170 = .ok (.aload_n 0, 1) := by decide +kernel
theorem dX7_bar_171 : decode cX7_bar 171 = .ok (.getfield 12, 3) := by decide +kernel
theorem dX7_bar_174 : decode cX7_bar 174 = .ok (.getfield 57, 3) := by decide +kernel
theorem dX7_bar_177 : decode cX7_bar 177 = .ok (.invokevirtual 100, 3) := by decide +kernel
theorem dX7_bar_180 : decode cX7_bar 180 = .ok (.ifCond .eq 7, 3) := by decide +kernel
theorem dX7_bar_183 : decode cX7_bar 183 = .ok (.iconst 1, 1) := by decide +kernel
theorem dX7_bar_184 : decode cX7_bar 184 = .ok (.goto 4, 3) := by decide +kernel
theorem dX7_bar_187 : decode cX7_bar 187 = .ok (.iconst 0, 1) := by decide +kernel
theorem dX7_bar_188 : decode cX7_bar 188 = .ok (.ireturn, 1) := by decide +kernel
theorem dX7_bar_189 : decode cX7_bar 189 = .ok (.aload_n 0, 1) := by decide +kernel
theorem dX7_bar_190 : decode cX7_bar 190 = .ok (.getfield 12, 3) := by decide +kernel
theorem dX7_bar_193 : decode cX7_bar 193 = .ok (.iload_n 1, 1) := by decide +kernel
theorem dX7_bar_194 : decode cX7_bar 194 = .ok (.invokevirtual 103, 3) := by decide +kernel
theorem dX7_bar_197 : decode cX7_bar 197 = .ok (.ireturn, 1) := by decide +kernel
theorem dX7_bar_198 : decode cX7_bar 198 = .ok (.bipush (-2), 2) := by decide +kernel
theorem dX7_bar_200 : decode cX7_bar 200 = .ok (.ireturn, 1) := by decide +kernel
set_option maxRecDepth 20000 in
theorem ggX7_loading_X7_isBar : GoodIn wsX7_loading wsX7_isBar := goodIn_r _ [8, 9, 10, 7, 11] (by decide +kernel) (by decide +kernel)
set_option maxRecDepth 20000 in
theorem gX7_loading_X7_isBar : GoodIn wsX7_loading (va_wsS RX7 45 yX7_isBar wsX7_isBar) := goodIn_app (goodIn_of _ (by decide +kernel)) ggX7_loading_X7_isBar
set_option maxRecDepth 20000 in
theorem ggX7_loading_X3_reckon : GoodIn wsX7_loading wsX3_reckon := goodIn_r _ [16, 17, 18, 19, 20, 21, 22, 23, 24, 25, 26, 27, 28, 29, 30, 15, 31, 32, 33, 34, 35, 36, 37, 38, 39, 67, 68, 69, 70, 71, 72, 73, 74, 75, 76] (by decide +kernel) (by decide +kernel)
set_option maxRecDepth 20000 in
theorem gX7_loading_X3_reckon : GoodIn wsX7_loading (wsV RX7 106 RX3 yX3_reckon wsX3_reckon) := goodIn_app (goodIn_of _ (by decide +kernel)) ggX7_loading_X3_reckon
set_option maxRecDepth 20000 in
theorem ggX7_loading_X3_allOrders : GoodIn wsX7_loading wsX3_allOrders := goodIn_r _ [43, 28, 72, 73, 74, 75, 76] (by decide +kernel) (by decide +kernel)
set_option maxRecDepth 20000 in
theorem gX7_loading_X3_allOrders : GoodIn wsX7_loading (wsV RX7 110 RX3 yX3_allOrders wsX3_allOrders) := goodIn_app (goodIn_of _ (by decide +kernel)) ggX7_loading_X3_allOrders
set_option maxRecDepth 20000 in
theorem ggX7_loading_X3_things : GoodIn wsX7_loading wsX3_things := goodIn_r _ [47, 19, 21, 72, 73, 74, 75, 76] (by decide +kernel) (by decide +kernel)
set_option maxRecDepth 20000 in
theorem gX7_loading_X3_things : GoodIn wsX7_loading (wsV RX7 113 RX3 yX3_things wsX3_things) := goodIn_app (goodIn_of _ (by decide +kernel)) ggX7_loading_X3_things
set_option maxRecDepth 20000 in
theorem ggX7_loading_X3_placed : GoodIn wsX7_loading wsX3_placed := goodIn_r _ [51, 52, 45, 46, 15, 47, 19, 21, 53, 54, 55, 56, 28, 33, 34, 35, 72, 73, 74, 75, 76] (by decide +kernel) (by decide +kernel)
set_option maxRecDepth 20000 in
theorem gX7_loading_X3_placed : GoodIn wsX7_loading (wsV RX7 116 RX3 yX3_placed wsX3_placed) := goodIn_app (goodIn_of _ (by decide +kernel)) ggX7_loading_X3_placed
theorem dX7_loading_0 : decode cX7_loading 0 = .ok (.iload_n 1, 1) := by decide +kernel
theorem dX7_loading_1 : decode cX7_loading 1 = .ok (.invokestatic 45, 3) := by decide +kernel
theorem dX7_loading_4 : decode cX7_loading 4 = .ok (.ifCond .ne 5, 3) := by decide +kernel
theorem dX7_loading_7 : decode cX7_loading 7 = .ok (.iconst (-1), 1) := by decide +kernel
theorem dX7_loading_8 : decode cX7_loading 8 = .ok (.ireturn, 1) := by decide +kernel
theorem dX7_loading_9 : decode cX7_loading 9 = .ok (.iload_n 2, 1) := by decide +kernel
theorem dX7_loading_10 : decode cX7_loading 10 = .ok (.iconst (-1), 1) := by decide +kernel
theorem dX7_loading_11 : decode cX7_loading 11 = .ok (.if_icmp .ge 6, 3) := by decide +kernel
theorem dX7_loading_14 : decode cX7_loading 14 = .ok (.bipush (-2), 2) := by decide +kernel
theorem dX7_loading_16 : decode cX7_loading 16 = .ok (.ireturn, 1) := by decide +kernel
theorem dX7_loading_17 : decode cX7_loading 17 = .ok (.aload_n 0, 1) := by decide +kernel
theorem dX7_loading_18 : decode cX7_loading 18 = .ok (.getfield 27, 3) := by decide +kernel
theorem dX7_loading_21 : decode cX7_loading 21 = .ok (.aload_n 0, 1) := by decide +kernel
theorem dX7_loading_22 : decode cX7_loading 22 = .ok (.getfield 12, 3) := by decide +kernel
theorem dX7_loading_25 : decode cX7_loading 25 = .ok (.getfield 60, 3) := by decide +kernel
theorem dX7_loading_28 : decode cX7_loading 28 = .ok (.iload_n 1, 1) := by decide +kernel
theorem dX7_loading_29 : decode cX7_loading 29 = .ok (.aaload, 1) := by decide +kernel
theorem dX7_loading_30 : decode cX7_loading 30 = .ok (.aload_n 0, 1) := by decide +kernel
theorem dX7_loading_31 : decode cX7_loading 31 = .ok (.getfield 12, 3) := by decide +kernel
theorem dX7_loading_34 : decode cX7_loading 34 = .ok (.getfield 57, 3) := by decide +kernel
theorem dX7_loading_37 : decode cX7_loading 37 = .ok (.invokevirtual 106, 3) := by decide +kernel
theorem dX7_loading_40 : decode cX7_loading 40 = .ok (.aload_n 0, 1) := by decide +kernel
theorem dX7_loading_41 : decode cX7_loading 41 = .ok (.getfield 27, 3) := by decide +kernel
theorem dX7_loading_44 : decode cX7_loading 44 = .ok (.invokevirtual 110, 3) := by decide +kernel
theorem dX7_loading_47 : decode cX7_loading 47 = .ok (.ifCond .ne 6, 3) := by decide +kernel
theorem dX7_loading_50 : decode cX7_loading 50 = .ok (.bipush (-6), 2) := by decide +kernel
theorem dX7_loading_52 : decode cX7_loading 52 = .ok (.ireturn, 1) := by decide +kernel
theorem dX7_loading_53 : decode cX7_loading 53 = .ok (.iload_n 2, 1) := by decide +kernel
theorem dX7_loading_54 : decode cX7_loading 54 = .ok (.iconst (-1), 1) := by decide +kernel
theorem dX7_loading_55 : decode cX7_loading 55 = .ok (.if_icmp .ne 13, 3) := by decide +kernel
theorem dX7_loading_58 : decode cX7_loading 58 = .ok (.aload_n 0, 1) := by decide +kernel
theorem dX7_loading_59 : decode cX7_loading 59 = .ok (.getfield 27, 3) := by decide +kernel
theorem dX7_loading_62 : decode cX7_loading 62 = .ok (.invokevirtual 113, 3) := by decide +kernel
theorem dX7_loading_65 : decode cX7_loading 65 = .ok (.goto 11, 3) := by decide +kernel
theorem dX7_loading_68 : decode cX7_loading 68 = .ok (.aload_n 0, 1) := by decide +kernel
theorem dX7_loading_69 : decode cX7_loading 69 = .ok (.getfield 27, 3) := by decide +kernel
theorem dX7_loading_72 : decode cX7_loading 72 = .ok (.iload_n 2, 1) := by decide +kernel
theorem dX7_loading_73 : decode cX7_loading 73 = .ok (.invokevirtual 116, 3) := by decide +kernel
theorem dX7_loading_76 : decode cX7_loading 76 = .ok (.ireturn, 1) := by decide +kernel
set_option maxRecDepth 20000 in
theorem ggX7_loadings_X7_isBar : GoodIn wsX7_loadings wsX7_isBar := goodIn_r _ [8, 9, 10, 7, 11] (by decide +kernel) (by decide +kernel)
set_option maxRecDepth 20000 in
theorem gX7_loadings_X7_isBar : GoodIn wsX7_loadings (va_wsS RX7 45 yX7_isBar wsX7_isBar) := goodIn_app (goodIn_of _ (by decide +kernel)) ggX7_loadings_X7_isBar
set_option maxRecDepth 20000 in
theorem ggX7_loadings_X3_reckon : GoodIn wsX7_loadings wsX3_reckon := goodIn_r _ [16, 17, 18, 19, 20, 21, 22, 23, 24, 25, 26, 27, 28, 29, 30, 15, 31, 32, 33, 34, 35, 36, 37, 38, 39, 54, 55, 56, 57, 58, 59, 60, 61, 62, 63] (by decide +kernel) (by decide +kernel)
set_option maxRecDepth 20000 in
theorem gX7_loadings_X3_reckon : GoodIn wsX7_loadings (wsV RX7 106 RX3 yX3_reckon wsX3_reckon) := goodIn_app (goodIn_of _ (by decide +kernel)) ggX7_loadings_X3_reckon
set_option maxRecDepth 20000 in
theorem ggX7_loadings_X3_allOrders : GoodIn wsX7_loadings wsX3_allOrders := goodIn_r _ [43, 28, 59, 60, 61, 62, 63] (by decide +kernel) (by decide +kernel)
set_option maxRecDepth 20000 in
theorem gX7_loadings_X3_allOrders : GoodIn wsX7_loadings (wsV RX7 110 RX3 yX3_allOrders wsX3_allOrders) := goodIn_app (goodIn_of _ (by decide +kernel)) ggX7_loadings_X3_allOrders
theorem dX7_loadings_0 : decode cX7_loadings 0 = .ok (.iload_n 1, 1) := by decide +kernel
theorem dX7_loadings_1 : decode cX7_loadings 1 = .ok (.invokestatic 45, 3) := by decide +kernel
theorem dX7_loadings_4 : decode cX7_loadings 4 = .ok (.ifCond .ne 5, 3) := by decide +kernel
theorem dX7_loadings_7 : decode cX7_loadings 7 = .ok (.iconst (-1), 1) := by decide +kernel
theorem dX7_loadings_8 : decode cX7_loadings 8 = .ok (.ireturn, 1) := by decide +kernel
theorem dX7_loadings_9 : decode cX7_loadings 9 = .ok (.aload_n 0, 1) := by decide +kernel
theorem dX7_loadings_10 : decode cX7_loadings 10 = .ok (.getfield 27, 3) := by decide +kernel
theorem dX7_loadings_13 : decode cX7_loadings 13 = .ok (.aload_n 0, 1) := by decide +kernel
theorem dX7_loadings_14 : decode cX7_loadings 14 = .ok (.getfield 12, 3) := by decide +kernel
theorem dX7_loadings_17 : decode cX7_loadings 17 = .ok (.getfield 60, 3) := by decide +kernel
theorem dX7_loadings_20 : decode cX7_loadings 20 = .ok (.iload_n 1, 1) := by decide +kernel
theorem dX7_loadings_21 : decode cX7_loadings 21 = .ok (.aaload, 1) := by decide +kernel
theorem dX7_loadings_22 : decode cX7_loadings 22 = .ok (.aload_n 0, 1) := by decide +kernel
theorem dX7_loadings_23 : decode cX7_loadings 23 = .ok (.getfield 12, 3) := by decide +kernel
theorem dX7_loadings_26 : decode cX7_loadings 26 = .ok (.getfield 57, 3) := by decide +kernel
theorem dX7_loadings_29 : decode cX7_loadings 29 = .ok (.invokevirtual 106, 3) := by decide +kernel
theorem dX7_loadings_32 : decode cX7_loadings 32 = .ok (.aload_n 0, 1) := by decide +kernel
theorem dX7_loadings_33 : decode cX7_loadings 33 = .ok (.getfield 27, 3) := by decide +kernel
theorem dX7_loadings_36 : decode cX7_loadings 36 = .ok (.invokevirtual 110, 3) := by decide +kernel
theorem dX7_loadings_39 : decode cX7_loadings 39 = .ok (.ireturn, 1) := by decide +kernel
set_option maxRecDepth 20000 in
theorem ggX7_move_X7_isBar : GoodIn wsX7_move wsX7_isBar := goodIn_r _ [6, 7, 8, 5, 9] (by decide +kernel) (by decide +kernel)
set_option maxRecDepth 20000 in
theorem gX7_move_X7_isBar : GoodIn wsX7_move (va_wsS RX7 45 yX7_isBar wsX7_isBar) := goodIn_app (goodIn_of _ (by decide +kernel)) ggX7_move_X7_isBar
set_option maxRecDepth 20000 in
theorem ggX7_move_X7_within : GoodIn wsX7_move wsX7_within := goodIn_r _ [9] (by decide +kernel) (by decide +kernel)
set_option maxRecDepth 20000 in
theorem gX7_move_X7_within : GoodIn wsX7_move (va_wsS RX7 49 yX7_within wsX7_within) := goodIn_app (goodIn_of _ (by decide +kernel)) ggX7_move_X7_within
set_option maxRecDepth 20000 in
theorem ggX7_move_X6_moveAt : GoodIn wsX7_move wsX6_moveAt := goodIn_r _ [14, 15, 16, 17, 18, 19, 13, 20, 21, 22, 35, 36, 37, 38, 39, 40, 41, 42] (by decide +kernel) (by decide +kernel)
set_option maxRecDepth 20000 in
theorem gX7_move_X6_moveAt : GoodIn wsX7_move (wsV RX7 119 RX6 yX6_moveAt wsX6_moveAt) := goodIn_app (goodIn_of _ (by decide +kernel)) ggX7_move_X6_moveAt
set_option maxRecDepth 20000 in
theorem ggX7_move_X6_addMove : GoodIn wsX7_move wsX6_addMove := goodIn_r _ [26, 15, 21, 22, 16, 27, 28, 35, 36, 37, 38, 39, 40, 41, 42] (by decide +kernel) (by decide +kernel)
set_option maxRecDepth 20000 in
theorem gX7_move_X6_addMove : GoodIn wsX7_move (wsV RX7 126 RX6 yX6_addMove wsX6_addMove) := goodIn_app (goodIn_of _ (by decide +kernel)) ggX7_move_X6_addMove
theorem dX7_move_0 : decode cX7_move 0 = .ok (.iload_n 1, 1) := by decide +kernel
theorem dX7_move_1 : decode cX7_move 1 = .ok (.invokestatic 45, 3) := by decide +kernel
theorem dX7_move_4 : decode cX7_move 4 = .ok (.ifCond .ne 5, 3) := by decide +kernel
theorem dX7_move_7 : decode cX7_move 7 = .ok (.iconst (-1), 1) := by decide +kernel
theorem dX7_move_8 : decode cX7_move 8 = .ok (.ireturn, 1) := by decide +kernel
theorem dX7_move_9 : decode cX7_move 9 = .ok (.iload_n 2, 1) := by decide +kernel
theorem dX7_move_10 : decode cX7_move 10 = .ok (.iconst 0, 1) := by decide +kernel
theorem dX7_move_11 : decode cX7_move 11 = .ok (.sipush 200, 3) := by decide +kernel
theorem dX7_move_14 : decode cX7_move 14 = .ok (.invokestatic 49, 3) := by decide +kernel
theorem dX7_move_17 : decode cX7_move 17 = .ok (.ifCond .eq 23, 3) := by decide +kernel
theorem dX7_move_20 : decode cX7_move 20 = .ok (.iload_n 3, 1) := by decide +kernel
theorem dX7_move_21 : decode cX7_move 21 = .ok (.iconst 0, 1) := by decide +kernel
theorem dX7_move_22 : decode cX7_move 22 = .ok (.bipush 60, 2) := by decide +kernel
theorem dX7_move_24 : decode cX7_move 24 = .ok (.invokestatic 49, 3) := by decide +kernel
theorem dX7_move_27 : decode cX7_move 27 = .ok (.ifCond .eq 13, 3) := by decide +kernel
theorem dX7_move_30 : decode cX7_move 30 = .ok (.iload 4, 2) := by decide +kernel
theorem dX7_move_32 : decode cX7_move 32 = .ok (.iconst 1, 1) := by decide +kernel
theorem dX7_move_33 : decode cX7_move 33 = .ok (.iconst 5, 1) := by decide +kernel
theorem dX7_move_34 : decode cX7_move 34 = .ok (.invokestatic 49, 3) := by decide +kernel
theorem dX7_move_37 : decode cX7_move 37 = .ok (.ifCond .ne 6, 3) := by decide +kernel
theorem dX7_move_40 : decode cX7_move 40 = .ok (.bipush (-2), 2) := by decide +kernel
theorem dX7_move_42 : decode cX7_move 42 = .ok (.ireturn, 1) := by decide +kernel
theorem dX7_move_43 : decode cX7_move 43 = .ok (.aload_n 0, 1) := by decide +kernel
theorem dX7_move_44 : decode cX7_move 44 = .ok (.getfield 12, 3) := by decide +kernel
theorem dX7_move_47 : decode cX7_move 47 = .ok (.iload_n 1, 1) := by decide +kernel
theorem dX7_move_48 : decode cX7_move 48 = .ok (.iload_n 2, 1) := by decide +kernel
theorem dX7_move_49 : decode cX7_move 49 = .ok (.invokevirtual 119, 3) := by decide +kernel
theorem dX7_move_52 : decode cX7_move 52 = .ok (.ifCond .lt 6, 3) := by decide +kernel
theorem dX7_move_55 : decode cX7_move 55 = .ok (.bipush (-5), 2) := by decide +kernel
theorem dX7_move_57 : decode cX7_move 57 = .ok (.ireturn, 1) := by decide +kernel
theorem dX7_move_58 : decode cX7_move 58 = .ok (.aload_n 0, 1) := by decide +kernel
theorem dX7_move_59 : decode cX7_move 59 = .ok (.getfield 12, 3) := by decide +kernel
theorem dX7_move_62 : decode cX7_move 62 = .ok (.getfield 123, 3) := by decide +kernel
theorem dX7_move_65 : decode cX7_move 65 = .ok (.bipush 10, 2) := by decide +kernel
theorem dX7_move_67 : decode cX7_move 67 = .ok (.if_icmp .lt 6, 3) := by decide +kernel
theorem dX7_move_70 : decode cX7_move 70 = .ok (.bipush (-4), 2) := by decide +kernel
theorem dX7_move_72 : decode cX7_move 72 = .ok (.ireturn, 1) := by decide +kernel
theorem dX7_move_73 : decode cX7_move 73 = .ok (.aload_n 0, 1) := by decide +kernel
theorem dX7_move_74 : decode cX7_move 74 = .ok (.getfield 12, 3) := by decide +kernel
theorem dX7_move_77 : decode cX7_move 77 = .ok (.iload_n 1, 1) := by decide +kernel
theorem dX7_move_78 : decode cX7_move 78 = .ok (.iload_n 2, 1) := by decide +kernel
theorem dX7_move_79 : decode cX7_move 79 = .ok (.iload_n 3, 1) := by decide +kernel
theorem dX7_move_80 : decode cX7_move 80 = .ok (.iload 4, 2) := by decide +kernel
theorem dX7_move_82 : decode cX7_move 82 = .ok (.invokevirtual 126, 3) := by decide +kernel
theorem dX7_move_85 : decode cX7_move 85 = .ok (.ireturn, 1) := by decide +kernel
set_option maxRecDepth 20000 in
theorem ggX7_drop_X7_isMove : GoodIn wsX7_drop wsX7_isMove := goodIn_r _ [7, 1, 2, 8, 9, 6, 10, 27, 28, 29, 30, 31, 32, 33, 34, 35, 36] (by decide +kernel) (by decide +kernel)
set_option maxRecDepth 20000 in
theorem gX7_drop_X7_isMove : GoodIn wsX7_drop (wsV RX7 130 RX7 yX7_isMove wsX7_isMove) := goodIn_app (goodIn_of _ (by decide +kernel)) ggX7_drop_X7_isMove
set_option maxRecDepth 20000 in
theorem ggX7_drop_X6_removeMove : GoodIn wsX7_drop wsX6_removeMove := goodIn_r _ [15, 16, 17, 18, 19, 20, 21, 22, 23, 24, 25, 26, 33, 34, 35, 36, 37, 38, 39, 40] (by decide +kernel) (by decide +kernel)
set_option maxRecDepth 20000 in
theorem gX7_drop_X6_removeMove : GoodIn wsX7_drop (wsV RX7 133 RX6 yX6_removeMove wsX6_removeMove) := goodIn_app (goodIn_of _ (by decide +kernel)) ggX7_drop_X6_removeMove
theorem dX7_drop_0 : decode cX7_drop 0 = .ok (.aload_n 0, 1) := by decide +kernel
theorem dX7_drop_1 : decode cX7_drop 1 = .ok (.iload_n 1, 1) := by decide +kernel
theorem dX7_drop_2 : decode cX7_drop 2 = .ok (.invokevirtual 130, 3) := by decide +kernel
theorem dX7_drop_5 : decode cX7_drop 5 = .ok (.ifCond .ne 5, 3) := by decide +kernel
theorem dX7_drop_8 : decode cX7_drop 8 = .ok (.iconst (-1), 1) := by decide +kernel
theorem dX7_drop_9 : decode cX7_drop 9 = .ok (.ireturn, 1) := by decide +kernel
theorem dX7_drop_10 : decode cX7_drop 10 = .ok (.aload_n 0, 1) := by decide +kernel
theorem dX7_drop_11 : decode cX7_drop 11 = .ok (.getfield 12, 3) := by decide +kernel
theorem dX7_drop_14 : decode cX7_drop 14 = .ok (.iload_n 1, 1) := by decide +kernel
theorem dX7_drop_15 : decode cX7_drop 15 = .ok (.invokevirtual 133, 3) := by decide +kernel
theorem dX7_drop_18 : decode cX7_drop 18 = .ok (.aload_n 0, 1) := by decide +kernel
theorem dX7_drop_19 : decode cX7_drop 19 = .ok (.getfield 12, 3) := by decide +kernel
theorem dX7_drop_22 : decode cX7_drop 22 = .ok (.getfield 123, 3) := by decide +kernel
theorem dX7_drop_25 : decode cX7_drop 25 = .ok (.ireturn, 1) := by decide +kernel
set_option maxRecDepth 20000 in
theorem ggX7_shift_X7_isMove : GoodIn wsX7_shift wsX7_isMove := goodIn_r _ [9, 1, 10, 11, 12, 8, 13, 27, 28, 29, 30, 31, 32, 33, 34, 35, 36] (by decide +kernel) (by decide +kernel)
set_option maxRecDepth 20000 in
theorem gX7_shift_X7_isMove : GoodIn wsX7_shift (wsV RX7 130 RX7 yX7_isMove wsX7_isMove) := goodIn_app (goodIn_of _ (by decide +kernel)) ggX7_shift_X7_isMove
set_option maxRecDepth 20000 in
theorem ggX7_shift_X7_within : GoodIn wsX7_shift wsX7_within := goodIn_r _ [13] (by decide +kernel) (by decide +kernel)
set_option maxRecDepth 20000 in
theorem gX7_shift_X7_within : GoodIn wsX7_shift (va_wsS RX7 49 yX7_within wsX7_within) := goodIn_app (goodIn_of _ (by decide +kernel)) ggX7_shift_X7_within
set_option maxRecDepth 20000 in
theorem ggX7_shift_X6_moveAt : GoodIn wsX7_shift wsX6_moveAt := goodIn_r _ [18, 19, 20, 21, 22, 23, 17, 24, 25, 26, 33, 34, 35, 36, 37, 38, 39, 40] (by decide +kernel) (by decide +kernel)
set_option maxRecDepth 20000 in
theorem gX7_shift_X6_moveAt : GoodIn wsX7_shift (wsV RX7 119 RX6 yX6_moveAt wsX6_moveAt) := goodIn_app (goodIn_of _ (by decide +kernel)) ggX7_shift_X6_moveAt
theorem dX7_shift_0 : decode cX7_shift 0 = .ok (.aload_n 0, 1) := by decide +kernel
theorem dX7_shift_1 : decode cX7_shift 1 = .ok (.iload_n 1, 1) := by decide +kernel
theorem dX7_shift_2 : decode cX7_shift 2 = .ok (.invokevirtual 130, 3) := by decide +kernel
theorem dX7_shift_5 : decode cX7_shift 5 = .ok (.ifCond .ne 5, 3) := by decide +kernel
theorem dX7_shift_8 : decode cX7_shift 8 = .ok (.iconst (-1), 1) := by decide +kernel
theorem dX7_shift_9 : decode cX7_shift 9 = .ok (.ireturn, 1) := by decide +kernel
theorem dX7_shift_10 : decode cX7_shift 10 = .ok (.aload_n 0, 1) := by decide +kernel
theorem dX7_shift_11 : decode cX7_shift 11 = .ok (.getfield 12, 3) := by decide +kernel
theorem dX7_shift_14 : decode cX7_shift 14 = .ok (.getfield 136, 3) := by decide +kernel
theorem dX7_shift_17 : decode cX7_shift 17 = .ok (.iload_n 1, 1) := by decide +kernel
theorem dX7_shift_18 : decode cX7_shift 18 = .ok (.aaload, 1) := by decide +kernel
theorem dX7_shift_19 : decode cX7_shift 19 = .ok (.astore_n 3, 1) := by decide +kernel
theorem dX7_shift_20 : decode cX7_shift 20 = .ok (.iload_n 2, 1) := by decide +kernel
theorem dX7_shift_21 : decode cX7_shift 21 = .ok (.aload_n 3, 1) := by decide +kernel
theorem dX7_shift_22 : decode cX7_shift 22 = .ok (.getfield 140, 3) := by decide +kernel
theorem dX7_shift_25 : decode cX7_shift 25 = .ok (.ineg, 1) := by decide +kernel
theorem dX7_shift_26 : decode cX7_shift 26 = .ok (.sipush 200, 3) := by decide +kernel
theorem dX7_shift_29 : decode cX7_shift 29 = .ok (.aload_n 3, 1) := by decide +kernel
theorem dX7_shift_30 : decode cX7_shift 30 = .ok (.getfield 140, 3) := by decide +kernel
theorem dX7_shift_33 : decode cX7_shift 33 = .ok (.isub, 1) := by decide +kernel
theorem dX7_shift_34 : decode cX7_shift 34 = .ok (.invokestatic 49, 3) := by decide +kernel
theorem dX7_shift_37 : decode cX7_shift 37 = .ok (.ifCond .ne 6, 3) := by decide +kernel
theorem dX7_shift_40 : decode cX7_shift 40 = .ok (.bipush (-2), 2) := by decide +kernel
theorem dX7_shift_42 : decode cX7_shift 42 = .ok (.ireturn, 1) := by decide +kernel
theorem dX7_shift_43 : decode cX7_shift 43 = .ok (.aload_n 3, 1) := by decide +kernel
theorem dX7_shift_44 : decode cX7_shift 44 = .ok (.getfield 140, 3) := by decide +kernel
theorem dX7_shift_47 : decode cX7_shift 47 = .ok (.iload_n 2, 1) := by decide +kernel
theorem dX7_shift_48 : decode cX7_shift 48 = .ok (.iadd, 1) := by decide +kernel
theorem dX7_shift_49 : decode cX7_shift 49 = .ok (.istore 4, 2) := by decide +kernel
theorem dX7_shift_51 : decode cX7_shift 51 = .ok (.aload_n 0, 1) := by decide +kernel
theorem dX7_shift_52 : decode cX7_shift 52 = .ok (.getfield 12, 3) := by decide +kernel
theorem dX7_shift_55 : decode cX7_shift 55 = .ok (.aload_n 3, 1) := by decide +kernel
theorem dX7_shift_56 : decode cX7_shift 56 = .ok (.getfield 145, 3) := by decide +kernel
theorem dX7_shift_59 : decode cX7_shift 59 = .ok (.iload 4, 2) := by decide +kernel
theorem dX7_shift_61 : decode cX7_shift 61 = .ok (.invokevirtual 119, 3) := by decide +kernel
theorem dX7_shift_64 : decode cX7_shift 64 = .ok (.istore 5, 2) := by decide +kernel
theorem dX7_shift_66 : decode cX7_shift 66 = .ok (.iload 5, 2) := by decide +kernel
theorem dX7_shift_68 : decode cX7_shift 68 = .ok (.ifCond .lt 12, 3) := by decide +kernel
theorem dX7_shift_71 : decode cX7_shift 71 = .ok (.iload 5, 2) := by decide +kernel
theorem dX7_shift_73 : decode cX7_shift 73 = .ok (.iload_n 1, 1) := by decide +kernel
theorem dX7_shift_74 : decode cX7_shift 74 = .ok (.if_icmp .eq 6, 3) := by decide +kernel
theorem dX7_shift_77 : decode cX7_shift 77 = .ok (.bipush (-5), 2) := by decide +kernel
theorem dX7_shift_79 : decode cX7_shift 79 = .ok (.ireturn, 1) := by decide +kernel
theorem dX7_shift_80 : decode cX7_shift 80 = .ok (.aload_n 3, 1) := by decide +kernel
theorem dX7_shift_81 : decode cX7_shift 81 = .ok (.iload 4, 2) := by decide +kernel
theorem dX7_shift_83 : decode cX7_shift 83 = .ok (.putfield 140, 3) := by decide +kernel
theorem dX7_shift_86 : decode cX7_shift 86 = .ok (.iload 4, 2) := by decide +kernel
theorem dX7_shift_88 : decode cX7_shift 88 = .ok (.ireturn, 1) := by decide +kernel
set_option maxRecDepth 20000 in
theorem ggX7_told_X7_isMove : GoodIn wsX7_told wsX7_isMove := goodIn_r _ [14, 1, 15, 16, 17, 13, 18, 120, 121, 122, 123, 124, 125, 126, 127, 128, 129] (by decide +kernel) (by decide +kernel)
set_option maxRecDepth 20000 in
theorem gX7_told_X7_isMove : GoodIn wsX7_told (wsV RX7 130 RX7 yX7_isMove wsX7_isMove) := goodIn_app (goodIn_of _ (by decide +kernel)) ggX7_told_X7_isMove
set_option maxRecDepth 20000 in
theorem ggX7_told_X7_flownBy : GoodIn wsX7_told wsX7_flownBy := goodIn_r _ [22, 1, 2, 8, 3, 23, 4, 5, 24, 25, 26, 27, 28, 29, 30, 31, 32, 33, 34, 35, 36, 37, 38, 39, 40, 41, 42, 43, 44, 45, 46, 47, 48, 49, 50, 51, 52, 53, 54, 55, 56, 57, 58, 59, 120, 121, 122, 123, 124, 125, 126, 127, 128, 129, 130, 131, 132, 133, 141, 142, 143, 144] (by decide +kernel) (by decide +kernel)
set_option maxRecDepth 20000 in
theorem gX7_told_X7_flownBy : GoodIn wsX7_told (wsV RX7 154 RX7 yX7_flownBy wsX7_flownBy) := goodIn_app (goodIn_of _ (by decide +kernel)) ggX7_told_X7_flownBy
set_option maxRecDepth 20000 in
theorem ggX7_told_X1_gather : GoodIn wsX7_told wsX1_gather := goodIn_r _ [64, 65, 66, 67, 68, 69, 70, 71, 72, 73, 74, 27, 75, 76, 25, 26, 28, 29, 30, 31, 32, 33, 34, 35, 36, 37, 38, 39, 40, 41, 42, 43, 44, 45, 46, 47, 48, 49, 50, 51, 52, 53, 77, 78, 79, 80, 81, 82, 83, 84, 85, 86, 87, 88, 89, 90, 91, 92, 93, 94, 95, 96, 97, 98, 55, 56, 57, 58, 59, 99, 100, 101, 63, 102, 103, 104, 105, 106, 107, 108, 109, 110, 111, 112, 113, 114, 115, 116, 117, 118, 119, 126, 127, 128, 129, 134, 135, 136, 137, 138, 139, 140, 141, 142, 143, 144, 130, 131, 132, 133, 145, 146] (by decide +kernel) (by decide +kernel)
set_option maxRecDepth 20000 in
theorem gX7_told_X1_gather : GoodIn wsX7_told (wsV RX7 157 RX1 yX1_gather wsX1_gather) := goodIn_app (goodIn_of _ (by decide +kernel)) ggX7_told_X1_gather
theorem dX7_told_0 : decode cX7_told 0 = .ok (.aload_n 0, 1) := by decide +kernel
theorem dX7_told_1 : decode cX7_told 1 = .ok (.iload_n 1, 1) := by decide +kernel
theorem dX7_told_2 : decode cX7_told 2 = .ok (.invokevirtual 130, 3) := by decide +kernel
theorem dX7_told_5 : decode cX7_told 5 = .ok (.ifCond .ne 5, 3) := by decide +kernel
theorem dX7_told_8 : decode cX7_told 8 = .ok (.iconst (-1), 1) := by decide +kernel
theorem dX7_told_9 : decode cX7_told 9 = .ok (.ireturn, 1) := by decide +kernel
theorem dX7_told_10 : decode cX7_told 10 = .ok (.aload_n 0, 1) := by decide +kernel
theorem dX7_told_11 : decode cX7_told 11 = .ok (.getfield 12, 3) := by decide +kernel
theorem dX7_told_14 : decode cX7_told 14 = .ok (.getfield 136, 3) := by decide +kernel
theorem dX7_told_17 : decode cX7_told 17 = .ok (.iload_n 1, 1) := by decide +kernel
theorem dX7_told_18 : decode cX7_told 18 = .ok (.aaload, 1) := by decide +kernel
theorem dX7_told_19 : decode cX7_told 19 = .ok (.astore_n 3, 1) := by decide +kernel
theorem dX7_told_20 : decode cX7_told 20 = .ok (.iload_n 2, 1) := by decide +kernel
theorem dX7_told_21 : decode cX7_told 21 = .ok (.tableswitch 103 0 8 #[51, 56, 61, 66, 71, 71, 71, 71, 78], 51) := by decide +kernel
theorem dX7_told_72 : decode cX7_told 72 = .ok (.aload_n 3, 1) := by decide +kernel
theorem dX7_told_73 : decode cX7_told 73 = .ok (.getfield 145, 3) := by decide +kernel
theorem dX7_told_76 : decode cX7_told 76 = .ok (.ireturn, 1) := by decide +kernel
theorem dX7_told_77 : decode cX7_told 77 = .ok (.aload_n 3, 1) := by decide +kernel
theorem dX7_told_78 : decode cX7_told 78 = .ok (.getfield 140, 3) := by decide +kernel
theorem dX7_told_81 : decode cX7_told 81 = .ok (.ireturn, 1) := by decide +kernel
theorem dX7_told_82 : decode cX7_told 82 = .ok (.aload_n 3, 1) := by decide +kernel
theorem dX7_told_83 : decode cX7_told 83 = .ok (.getfield 148, 3) := by decide +kernel
theorem dX7_told_86 : decode cX7_told 86 = .ok (.ireturn, 1) := by decide +kernel
theorem dX7_told_87 : decode cX7_told 87 = .ok (.aload_n 3, 1) := by decide +kernel
theorem dX7_told_88 : decode cX7_told 88 = .ok (.getfield 151, 3) := by decide +kernel
theorem dX7_told_91 : decode cX7_told 91 = .ok (.ireturn, 1) := by decide +kernel
theorem dX7_told_92 : decode cX7_told 92 = .ok (.aload_n 0, 1) := by decide +kernel
theorem dX7_told_93 : decode cX7_told 93 = .ok (.iload_n 1, 1) := by decide +kernel
theorem dX7_told_94 : decode cX7_told 94 = .ok (.iload_n 2, 1) := by decide +kernel
theorem dX7_told_95 : decode cX7_told 95 = .ok (.invokevirtual 154, 3) := by decide +kernel
theorem dX7_told_98 : decode cX7_told 98 = .ok (.ireturn, 1) := by decide +kernel
theorem dX7_told_99 : decode cX7_told 99 = .ok (.aload_n 0, 1) := by decide +kernel
theorem dX7_told_100 : decode cX7_told 100 = .ok (.getfield 41, 3) := by decide +kernel
theorem dX7_told_103 : decode cX7_told 103 = .ok (.aload_n 0, 1) := by decide +kernel
theorem dX7_told_104 : decode cX7_told 104 = .ok (.getfield 12, 3) := by decide +kernel
theorem dX7_told_107 : decode cX7_told 107 = .ok (.aload_n 0, 1) := by decide +kernel
theorem dX7_told_108 : decode cX7_told 108 = .ok (.getfield 34, 3) := by decide +kernel
theorem dX7_told_111 : decode cX7_told 111 = .ok (.invokevirtual 157, 3) := by decide +kernel
theorem dX7_told_114 : decode cX7_told 114 = .ok (.aload_n 0, 1) := by decide +kernel
theorem dX7_told_115 : decode cX7_told 115 = .ok (.getfield 41, 3) := by decide +kernel
theorem dX7_told_118 : decode cX7_told 118 = .ok (.getfield 161, 3) := by decide +kernel
theorem dX7_told_121 : decode cX7_told 121 = .ok (.iload_n 1, 1) := by decide +kernel
theorem dX7_told_122 : decode cX7_told 122 = .ok (.iaload, 1) := by decide +kernel
theorem dX7_told_123 : decode cX7_told 123 = .ok (.ireturn, 1) := by decide +kernel
theorem dX7_told_124 : decode cX7_told 124 = .ok (.bipush (-2), 2) := by decide +kernel
theorem dX7_told_126 : decode cX7_told 126 = .ok (.ireturn, 1) := by decide +kernel
set_option maxRecDepth 20000 in
theorem ggX7_height_X7_isBar : GoodIn wsX7_height wsX7_isBar := goodIn_r _ [7, 8, 9, 6, 10] (by decide +kernel) (by decide +kernel)
set_option maxRecDepth 20000 in
theorem gX7_height_X7_isBar : GoodIn wsX7_height (va_wsS RX7 45 yX7_isBar wsX7_isBar) := goodIn_app (goodIn_of _ (by decide +kernel)) ggX7_height_X7_isBar
set_option maxRecDepth 20000 in
theorem ggX7_height_X7_isTime : GoodIn wsX7_height wsX7_isTime := goodIn_r _ [13, 8, 9, 6, 10] (by decide +kernel) (by decide +kernel)
set_option maxRecDepth 20000 in
theorem gX7_height_X7_isTime : GoodIn wsX7_height (va_wsS RX7 164 yX7_isTime wsX7_isTime) := goodIn_app (goodIn_of _ (by decide +kernel)) ggX7_height_X7_isTime
set_option maxRecDepth 20000 in
theorem ggX7_height_X2_trace : GoodIn wsX7_height wsX2_trace := goodIn_r _ [18, 19, 20, 21, 22, 23, 24, 25, 26, 27, 28, 29, 30, 31, 32, 33, 34, 35, 36, 37, 38, 39, 40, 41, 42, 43, 50, 51, 52, 53, 54, 55, 56, 57, 58, 59, 60, 61] (by decide +kernel) (by decide +kernel)
set_option maxRecDepth 20000 in
theorem gX7_height_X2_trace : GoodIn wsX7_height (wsV RX7 167 RX2 yX2_trace wsX2_trace) := goodIn_app (goodIn_of _ (by decide +kernel)) ggX7_height_X2_trace
theorem dX7_height_0 : decode cX7_height 0 = .ok (.iload_n 1, 1) := by decide +kernel
theorem dX7_height_1 : decode cX7_height 1 = .ok (.invokestatic 45, 3) := by decide +kernel
theorem dX7_height_4 : decode cX7_height 4 = .ok (.ifCond .ne 5, 3) := by decide +kernel
theorem dX7_height_7 : decode cX7_height 7 = .ok (.iconst (-1), 1) := by decide +kernel
theorem dX7_height_8 : decode cX7_height 8 = .ok (.ireturn, 1) := by decide +kernel
theorem dX7_height_9 : decode cX7_height 9 = .ok (.iload_n 2, 1) := by decide +kernel
theorem dX7_height_10 : decode cX7_height 10 = .ok (.invokestatic 164, 3) := by decide +kernel
theorem dX7_height_13 : decode cX7_height 13 = .ok (.ifCond .ne 6, 3) := by decide +kernel
theorem dX7_height_16 : decode cX7_height 16 = .ok (.bipush (-2), 2) := by decide +kernel
theorem dX7_height_18 : decode cX7_height 18 = .ok (.ireturn, 1) := by decide +kernel
theorem dX7_height_19 : decode cX7_height 19 = .ok (.aload_n 0, 1) := by decide +kernel
theorem dX7_height_20 : decode cX7_height 20 = .ok (.getfield 34, 3) := by decide +kernel
theorem dX7_height_23 : decode cX7_height 23 = .ok (.aload_n 0, 1) := by decide +kernel
theorem dX7_height_24 : decode cX7_height 24 = .ok (.getfield 12, 3) := by decide +kernel
theorem dX7_height_27 : decode cX7_height 27 = .ok (.iload_n 1, 1) := by decide +kernel
theorem dX7_height_28 : decode cX7_height 28 = .ok (.invokevirtual 167, 3) := by decide +kernel
theorem dX7_height_31 : decode cX7_height 31 = .ok (.aload_n 0, 1) := by decide +kernel
theorem dX7_height_32 : decode cX7_height 32 = .ok (.getfield 34, 3) := by decide +kernel
theorem dX7_height_35 : decode cX7_height 35 = .ok (.getfield 171, 3) := by decide +kernel
theorem dX7_height_38 : decode cX7_height 38 = .ok (.iload_n 1, 1) := by decide +kernel
theorem dX7_height_39 : decode cX7_height 39 = .ok (.aaload, 1) := by decide +kernel
theorem dX7_height_40 : decode cX7_height 40 = .ok (.iload_n 2, 1) := by decide +kernel
theorem dX7_height_41 : decode cX7_height 41 = .ok (.iaload, 1) := by decide +kernel
theorem dX7_height_42 : decode cX7_height 42 = .ok (.ireturn, 1) := by decide +kernel
set_option maxRecDepth 20000 in
theorem ggX7_strike_X7_isBar : GoodIn wsX7_strike wsX7_isBar := goodIn_r _ [6, 7, 8, 5, 9] (by decide +kernel) (by decide +kernel)
set_option maxRecDepth 20000 in
theorem gX7_strike_X7_isBar : GoodIn wsX7_strike (va_wsS RX7 45 yX7_isBar wsX7_isBar) := goodIn_app (goodIn_of _ (by decide +kernel)) ggX7_strike_X7_isBar
set_option maxRecDepth 20000 in
theorem ggX7_strike_X7_isTime : GoodIn wsX7_strike wsX7_isTime := goodIn_r _ [12, 7, 8, 5, 9] (by decide +kernel) (by decide +kernel)
set_option maxRecDepth 20000 in
theorem gX7_strike_X7_isTime : GoodIn wsX7_strike (va_wsS RX7 164 yX7_isTime wsX7_isTime) := goodIn_app (goodIn_of _ (by decide +kernel)) ggX7_strike_X7_isTime
set_option maxRecDepth 20000 in
theorem ggX7_strike_X2_trace : GoodIn wsX7_strike wsX2_trace := goodIn_r _ [17, 18, 19, 20, 21, 22, 23, 24, 25, 26, 27, 28, 29, 30, 31, 32, 33, 34, 35, 36, 37, 38, 39, 40, 41, 42, 70, 71, 72, 73, 74, 75, 76, 77, 78, 79, 80, 81] (by decide +kernel) (by decide +kernel)
set_option maxRecDepth 20000 in
theorem gX7_strike_X2_trace : GoodIn wsX7_strike (wsV RX7 167 RX2 yX2_trace wsX2_trace) := goodIn_app (goodIn_of _ (by decide +kernel)) ggX7_strike_X2_trace
set_option maxRecDepth 20000 in
theorem ggX7_strike_X2_canStrike : GoodIn wsX7_strike wsX2_canStrike := goodIn_r _ [46, 19, 20, 47, 48, 49, 26, 50, 51, 39, 40, 41, 52, 53, 71, 72, 73, 74, 75, 76, 77] (by decide +kernel) (by decide +kernel)
set_option maxRecDepth 20000 in
theorem gX7_strike_X2_canStrike : GoodIn wsX7_strike (wsV RX7 175 RX2 yX2_canStrike wsX2_canStrike) := goodIn_app (goodIn_of _ (by decide +kernel)) ggX7_strike_X2_canStrike
set_option maxRecDepth 20000 in
theorem ggX7_strike_X2_overlap : GoodIn wsX7_strike wsX2_overlap := goodIn_r _ [57, 18, 19, 20, 58, 59, 40, 60, 61, 62, 63, 70, 71, 72, 73, 74, 75, 76, 77] (by decide +kernel) (by decide +kernel)
set_option maxRecDepth 20000 in
theorem gX7_strike_X2_overlap : GoodIn wsX7_strike (wsV RX7 179 RX2 yX2_overlap wsX2_overlap) := goodIn_app (goodIn_of _ (by decide +kernel)) ggX7_strike_X2_overlap
theorem dX7_strike_0 : decode cX7_strike 0 = .ok (.iload_n 1, 1) := by decide +kernel
theorem dX7_strike_1 : decode cX7_strike 1 = .ok (.invokestatic 45, 3) := by decide +kernel
theorem dX7_strike_4 : decode cX7_strike 4 = .ok (.ifCond .eq 10, 3) := by decide +kernel
theorem dX7_strike_7 : decode cX7_strike 7 = .ok (.iload_n 2, 1) := by decide +kernel
theorem dX7_strike_8 : decode cX7_strike 8 = .ok (.invokestatic 45, 3) := by decide +kernel
theorem dX7_strike_11 : decode cX7_strike 11 = .ok (.ifCond .ne 5, 3) := by decide +kernel
theorem dX7_strike_14 : decode cX7_strike 14 = .ok (.iconst (-1), 1) := by decide +kernel
theorem dX7_strike_15 : decode cX7_strike 15 = .ok (.ireturn, 1) := by decide +kernel
theorem dX7_strike_16 : decode cX7_strike 16 = .ok (.iload_n 1, 1) := by decide +kernel
theorem dX7_strike_17 : decode cX7_strike 17 = .ok (.iload_n 2, 1) := by decide +kernel
theorem dX7_strike_18 : decode cX7_strike 18 = .ok (.if_icmp .eq 10, 3) := by decide +kernel
theorem dX7_strike_21 : decode cX7_strike 21 = .ok (.iload_n 3, 1) := by decide +kernel
theorem dX7_strike_22 : decode cX7_strike 22 = .ok (.invokestatic 164, 3) := by decide +kernel
theorem dX7_strike_25 : decode cX7_strike 25 = .ok (.ifCond .ne 6, 3) := by decide +kernel
theorem dX7_strike_28 : decode cX7_strike 28 = .ok (.bipush (-2), 2) := by decide +kernel
theorem dX7_strike_30 : decode cX7_strike 30 = .ok (.ireturn, 1) := by decide +kernel
theorem dX7_strike_31 : decode cX7_strike 31 = .ok (.aload_n 0, 1) := by decide +kernel
theorem dX7_strike_32 : decode cX7_strike 32 = .ok (.getfield 34, 3) := by decide +kernel
theorem dX7_strike_35 : decode cX7_strike 35 = .ok (.aload_n 0, 1) := by decide +kernel
theorem dX7_strike_36 : decode cX7_strike 36 = .ok (.getfield 12, 3) := by decide +kernel
theorem dX7_strike_39 : decode cX7_strike 39 = .ok (.iload_n 1, 1) := by decide +kernel
theorem dX7_strike_40 : decode cX7_strike 40 = .ok (.invokevirtual 167, 3) := by decide +kernel
theorem dX7_strike_43 : decode cX7_strike 43 = .ok (.aload_n 0, 1) := by decide +kernel
theorem dX7_strike_44 : decode cX7_strike 44 = .ok (.getfield 34, 3) := by decide +kernel
theorem dX7_strike_47 : decode cX7_strike 47 = .ok (.aload_n 0, 1) := by decide +kernel
theorem dX7_strike_48 : decode cX7_strike 48 = .ok (.getfield 12, 3) := by decide +kernel
theorem dX7_strike_51 : decode cX7_strike 51 = .ok (.iload_n 2, 1) := by decide +kernel
theorem dX7_strike_52 : decode cX7_strike 52 = .ok (.invokevirtual 167, 3) := by decide +kernel
theorem dX7_strike_55 : decode cX7_strike 55 = .ok (.aload_n 0, 1) := by decide +kernel
theorem dX7_strike_56 : decode cX7_strike 56 = .ok (.getfield 34, 3) := by decide +kernel
theorem dX7_strike_59 : decode cX7_strike 59 = .ok (.aload_n 0, 1) := by decide +kernel
theorem dX7_strike_60 : decode cX7_strike 60 = .ok (.getfield 12, 3) := by decide +kernel
theorem dX7_strike_63 : decode cX7_strike 63 = .ok (.iload_n 1, 1) := by decide +kernel
theorem dX7_strike_64 : decode cX7_strike 64 = .ok (.iload_n 2, 1) := by decide +kernel
theorem dX7_strike_65 : decode cX7_strike 65 = .ok (.invokevirtual 175, 3) := by decide +kernel
theorem dX7_strike_68 : decode cX7_strike 68 = .ok (.ifCond .eq 24, 3) := by decide +kernel
theorem dX7_strike_71 : decode cX7_strike 71 = .ok (.aload_n 0, 1) := by decide +kernel
theorem dX7_strike_72 : decode cX7_strike 72 = .ok (.getfield 34, 3) := by decide +kernel
theorem dX7_strike_75 : decode cX7_strike 75 = .ok (.aload_n 0, 1) := by decide +kernel
theorem dX7_strike_76 : decode cX7_strike 76 = .ok (.getfield 12, 3) := by decide +kernel
theorem dX7_strike_79 : decode cX7_strike 79 = .ok (.iload_n 1, 1) := by decide +kernel
theorem dX7_strike_80 : decode cX7_strike 80 = .ok (.iload_n 2, 1) := by decide +kernel
theorem dX7_strike_81 : decode cX7_strike 81 = .ok (.iload_n 3, 1) := by decide +kernel
theorem dX7_strike_82 : decode cX7_strike 82 = .ok (.invokevirtual 179, 3) := by decide +kernel
theorem dX7_strike_85 : decode cX7_strike 85 = .ok (.ifCond .eq 7, 3) := by decide +kernel
theorem dX7_strike_88 : decode cX7_strike 88 = .ok (.iconst 1, 1) := by decide +kernel
theorem dX7_strike_89 : decode cX7_strike 89 = .ok (.goto 4, 3) := by decide +kernel
theorem dX7_strike_92 : decode cX7_strike 92 = .ok (.iconst 0, 1) := by decide +kernel
theorem dX7_strike_93 : decode cX7_strike 93 = .ok (.ireturn, 1) := by decide +kernel
set_option maxRecDepth 20000 in
theorem ggX7_clash_X7_isTime : GoodIn wsX7_clash wsX7_isTime := goodIn_r _ [6, 7, 8, 5, 9] (by decide +kernel) (by decide +kernel)
set_option maxRecDepth 20000 in
theorem gX7_clash_X7_isTime : GoodIn wsX7_clash (va_wsS RX7 164 yX7_isTime wsX7_isTime) := goodIn_app (goodIn_of _ (by decide +kernel)) ggX7_clash_X7_isTime
set_option maxRecDepth 20000 in
theorem ggX7_clash_X7_within : GoodIn wsX7_clash wsX7_within := goodIn_r _ [9] (by decide +kernel) (by decide +kernel)
set_option maxRecDepth 20000 in
theorem gX7_clash_X7_within : GoodIn wsX7_clash (va_wsS RX7 49 yX7_within wsX7_within) := goodIn_app (goodIn_of _ (by decide +kernel)) ggX7_clash_X7_within
set_option maxRecDepth 20000 in
theorem ggX7_clash_X2_traceAll : GoodIn wsX7_clash wsX2_traceAll := goodIn_r _ [14, 15, 16, 17, 13, 18, 19, 20, 21, 22, 23, 24, 25, 26, 27, 28, 29, 30, 31, 32, 33, 34, 35, 36, 37, 38, 39, 40, 41, 42, 43, 75, 76, 77, 78, 79, 80, 81, 82, 83, 84, 85, 86] (by decide +kernel) (by decide +kernel)
set_option maxRecDepth 20000 in
theorem gX7_clash_X2_traceAll : GoodIn wsX7_clash (wsV RX7 183 RX2 yX2_traceAll wsX2_traceAll) := goodIn_app (goodIn_of _ (by decide +kernel)) ggX7_clash_X2_traceAll
set_option maxRecDepth 20000 in
theorem ggX7_clash_X2_firstStrike : GoodIn wsX7_clash wsX2_firstStrike := goodIn_r _ [47, 48, 49, 50, 13, 51, 20, 21, 52, 53, 54, 27, 55, 56, 40, 41, 42, 57, 58, 59, 60, 61, 62, 19, 63, 64, 65, 66, 67, 68, 76, 77, 78, 79, 80, 81, 82, 75] (by decide +kernel) (by decide +kernel)
set_option maxRecDepth 20000 in
theorem gX7_clash_X2_firstStrike : GoodIn wsX7_clash (wsV RX7 187 RX2 yX2_firstStrike wsX2_firstStrike) := goodIn_app (goodIn_of _ (by decide +kernel)) ggX7_clash_X2_firstStrike
theorem dX7_clash_0 : decode cX7_clash 0 = .ok (.iload_n 1, 1) := by decide +kernel
