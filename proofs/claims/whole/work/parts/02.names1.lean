set_option maxRecDepth 20000 in
theorem ggX0_init_X5_init : GoodIn wsX0_init wsX5_init := goodIn_r _ [12, 13, 2, 3, 4, 14, 15, 19, 20] (by decide +kernel) (by decide +kernel)
set_option maxRecDepth 20000 in
theorem gX0_init_X5_init_n17 : GoodIn wsX0_init (wsX5_init) := ggX0_init_X5_init
theorem dX0_init_0 : decode cX0_init 0 = .ok (.aload_n 0, 1) := by decide +kernel
theorem dX0_init_1 : decode cX0_init 1 = .ok (.invokespecial 3, 3) := by decide +kernel
theorem dX0_init_4 : decode cX0_init 4 = .ok (.aload_n 0, 1) := by decide +kernel
theorem dX0_init_5 : decode cX0_init 5 = .ok (.iconst 3, 1) := by decide +kernel
theorem dX0_init_6 : decode cX0_init 6 = .ok (.newarray .int, 2) := by decide +kernel
theorem dX0_init_8 : decode cX0_init 8 = .ok (.dup, 1) := by decide +kernel
theorem dX0_init_9 : decode cX0_init 9 = .ok (.iconst 0, 1) := by decide +kernel
theorem dX0_init_10 : decode cX0_init 10 = .ok (.bipush 60, 2) := by decide +kernel
theorem dX0_init_12 : decode cX0_init 12 = .ok (.iastore, 1) := by decide +kernel
theorem dX0_init_13 : decode cX0_init 13 = .ok (.dup, 1) := by decide +kernel
theorem dX0_init_14 : decode cX0_init 14 = .ok (.iconst 1, 1) := by decide +kernel
theorem dX0_init_15 : decode cX0_init 15 = .ok (.iconst 0, 1) := by decide +kernel
theorem dX0_init_16 : decode cX0_init 16 = .ok (.iastore, 1) := by decide +kernel
theorem dX0_init_17 : decode cX0_init 17 = .ok (.dup, 1) := by decide +kernel
theorem dX0_init_18 : decode cX0_init 18 = .ok (.iconst 2, 1) := by decide +kernel
theorem dX0_init_19 : decode cX0_init 19 = .ok (.iconst 0, 1) := by decide +kernel
theorem dX0_init_20 : decode cX0_init 20 = .ok (.iastore, 1) := by decide +kernel
theorem dX0_init_21 : decode cX0_init 21 = .ok (.putfield 9, 3) := by decide +kernel
theorem dX0_init_24 : decode cX0_init 24 = .ok (.aload_n 0, 1) := by decide +kernel
theorem dX0_init_25 : decode cX0_init 25 = .ok (.new 15, 3) := by decide +kernel
theorem dX0_init_28 : decode cX0_init 28 = .ok (.dup, 1) := by decide +kernel
theorem dX0_init_29 : decode cX0_init 29 = .ok (.invokespecial 17, 3) := by decide +kernel
theorem dX0_init_32 : decode cX0_init 32 = .ok (.putfield 18, 3) := by decide +kernel
theorem dX0_init_35 : decode cX0_init 35 = .ok (.aload_n 0, 1) := by decide +kernel
theorem dX0_init_36 : decode cX0_init 36 = .ok (.new 15, 3) := by decide +kernel
theorem dX0_init_39 : decode cX0_init 39 = .ok (.dup, 1) := by decide +kernel
theorem dX0_init_40 : decode cX0_init 40 = .ok (.invokespecial 17, 3) := by decide +kernel
theorem dX0_init_43 : decode cX0_init 43 = .ok (.putfield 22, 3) := by decide +kernel
theorem dX0_init_46 : decode cX0_init 46 = .ok (.return_, 1) := by decide +kernel
theorem dX0_pileOf_0 : decode cX0_pileOf 0 = .ok (.iload_n 1, 1) := by decide +kernel
theorem dX0_pileOf_1 : decode cX0_pileOf 1 = .ok (.ifCond .ne 10, 3) := by decide +kernel
theorem dX0_pileOf_4 : decode cX0_pileOf 4 = .ok (.aload_n 0, 1) := by decide +kernel
theorem dX0_pileOf_5 : decode cX0_pileOf 5 = .ok (.getfield 18, 3) := by decide +kernel
theorem dX0_pileOf_8 : decode cX0_pileOf 8 = .ok (.goto 7, 3) := by decide +kernel
theorem dX0_pileOf_11 : decode cX0_pileOf 11 = .ok (.aload_n 0, 1) := by decide +kernel
theorem dX0_pileOf_12 : decode cX0_pileOf 12 = .ok (.getfield 22, 3) := by decide +kernel
theorem dX0_pileOf_15 : decode cX0_pileOf 15 = .ok (.areturn, 1) := by decide +kernel
set_option maxRecDepth 20000 in
theorem ggX0_isEven_X5_total : GoodIn wsX0_isEven wsX5_total := goodIn_r _ [11, 12, 13, 17, 18] (by decide +kernel) (by decide +kernel)
set_option maxRecDepth 20000 in
theorem gX0_isEven_X5_total : GoodIn wsX0_isEven (wsV RX0 25 RX5 yX5_total wsX5_total) := goodIn_app (goodIn_of _ (by decide +kernel)) ggX0_isEven_X5_total
theorem dX0_isEven_0 : decode cX0_isEven 0 = .ok (.aload_n 0, 1) := by decide +kernel
theorem dX0_isEven_1 : decode cX0_isEven 1 = .ok (.getfield 18, 3) := by decide +kernel
theorem dX0_isEven_4 : decode cX0_isEven 4 = .ok (.invokevirtual 25, 3) := by decide +kernel
theorem dX0_isEven_7 : decode cX0_isEven 7 = .ok (.aload_n 0, 1) := by decide +kernel
theorem dX0_isEven_8 : decode cX0_isEven 8 = .ok (.getfield 22, 3) := by decide +kernel
theorem dX0_isEven_11 : decode cX0_isEven 11 = .ok (.invokevirtual 25, 3) := by decide +kernel
theorem dX0_isEven_14 : decode cX0_isEven 14 = .ok (.isub, 1) := by decide +kernel
theorem dX0_isEven_15 : decode cX0_isEven 15 = .ok (.invokestatic 29, 3) := by decide +kernel
theorem dX0_isEven_18 : decode cX0_isEven 18 = .ok (.iload_n 1, 1) := by decide +kernel
theorem dX0_isEven_19 : decode cX0_isEven 19 = .ok (.if_icmp .gt 7, 3) := by decide +kernel
theorem dX0_isEven_22 : decode cX0_isEven 22 = .ok (.iconst 1, 1) := by decide +kernel
theorem dX0_isEven_23 : decode cX0_isEven 23 = .ok (.goto 4, 3) := by decide +kernel
theorem dX0_isEven_26 : decode cX0_isEven 26 = .ok (.iconst 0, 1) := by decide +kernel
theorem dX0_isEven_27 : decode cX0_isEven 27 = .ok (.ireturn, 1) := by decide +kernel
set_option maxRecDepth 20000 in
theorem ggX0_copyFrom_X5_copyFrom : GoodIn wsX0_copyFrom wsX5_copyFrom := goodIn_r _ [12, 13, 14, 3, 4, 5, 15, 19, 20] (by decide +kernel) (by decide +kernel)
set_option maxRecDepth 20000 in
theorem gX0_copyFrom_X5_copyFrom : GoodIn wsX0_copyFrom (wsV RX0 41 RX5 yX5_copyFrom wsX5_copyFrom) := goodIn_app (goodIn_of _ (by decide +kernel)) ggX0_copyFrom_X5_copyFrom
theorem dX0_copyFrom_0 : decode cX0_copyFrom 0 = .ok (.aload_n 1, 1) := by decide +kernel
theorem dX0_copyFrom_1 : decode cX0_copyFrom 1 = .ok (.getfield 9, 3) := by decide +kernel
theorem dX0_copyFrom_4 : decode cX0_copyFrom 4 = .ok (.iconst 0, 1) := by decide +kernel
theorem dX0_copyFrom_5 : decode cX0_copyFrom 5 = .ok (.aload_n 0, 1) := by decide +kernel
theorem dX0_copyFrom_6 : decode cX0_copyFrom 6 = .ok (.getfield 9, 3) := by decide +kernel
theorem dX0_copyFrom_9 : decode cX0_copyFrom 9 = .ok (.iconst 0, 1) := by decide +kernel
theorem dX0_copyFrom_10 : decode cX0_copyFrom 10 = .ok (.aload_n 0, 1) := by decide +kernel
theorem dX0_copyFrom_11 : decode cX0_copyFrom 11 = .ok (.getfield 9, 3) := by decide +kernel
theorem dX0_copyFrom_14 : decode cX0_copyFrom 14 = .ok (.arraylength, 1) := by decide +kernel
theorem dX0_copyFrom_15 : decode cX0_copyFrom 15 = .ok (.invokestatic 35, 3) := by decide +kernel
theorem dX0_copyFrom_18 : decode cX0_copyFrom 18 = .ok (.aload_n 0, 1) := by decide +kernel
theorem dX0_copyFrom_19 : decode cX0_copyFrom 19 = .ok (.getfield 18, 3) := by decide +kernel
theorem dX0_copyFrom_22 : decode cX0_copyFrom 22 = .ok (.aload_n 1, 1) := by decide +kernel
theorem dX0_copyFrom_23 : decode cX0_copyFrom 23 = .ok (.getfield 18, 3) := by decide +kernel
theorem dX0_copyFrom_26 : decode cX0_copyFrom 26 = .ok (.invokevirtual 41, 3) := by decide +kernel
theorem dX0_copyFrom_29 : decode cX0_copyFrom 29 = .ok (.aload_n 0, 1) := by decide +kernel
theorem dX0_copyFrom_30 : decode cX0_copyFrom 30 = .ok (.getfield 22, 3) := by decide +kernel
theorem dX0_copyFrom_33 : decode cX0_copyFrom 33 = .ok (.aload_n 1, 1) := by decide +kernel
theorem dX0_copyFrom_34 : decode cX0_copyFrom 34 = .ok (.getfield 22, 3) := by decide +kernel
theorem dX0_copyFrom_37 : decode cX0_copyFrom 37 = .ok (.invokevirtual 41, 3) := by decide +kernel
theorem dX0_copyFrom_40 : decode cX0_copyFrom 40 = .ok (.return_, 1) := by decide +kernel
theorem dX1_init_0 : decode cX1_init 0 = .ok (.aload_n 0, 1) := by decide +kernel
theorem dX1_init_1 : decode cX1_init 1 = .ok (.invokespecial 3, 3) := by decide +kernel
theorem dX1_init_4 : decode cX1_init 4 = .ok (.aload_n 0, 1) := by decide +kernel
theorem dX1_init_5 : decode cX1_init 5 = .ok (.iconst 0, 1) := by decide +kernel
theorem dX1_init_6 : decode cX1_init 6 = .ok (.putfield 9, 3) := by decide +kernel
theorem dX1_init_9 : decode cX1_init 9 = .ok (.aload_n 0, 1) := by decide +kernel
theorem dX1_init_10 : decode cX1_init 10 = .ok (.bipush 10, 2) := by decide +kernel
theorem dX1_init_12 : decode cX1_init 12 = .ok (.newarray .int, 2) := by decide +kernel
theorem dX1_init_14 : decode cX1_init 14 = .ok (.putfield 15, 3) := by decide +kernel
theorem dX1_init_17 : decode cX1_init 17 = .ok (.aload_n 0, 1) := by decide +kernel
theorem dX1_init_18 : decode cX1_init 18 = .ok (.bipush 10, 2) := by decide +kernel
theorem dX1_init_20 : decode cX1_init 20 = .ok (.newarray .boolean, 2) := by decide +kernel
theorem dX1_init_22 : decode cX1_init 22 = .ok (.putfield 19, 3) := by decide +kernel
theorem dX1_init_25 : decode cX1_init 25 = .ok (.aload_n 0, 1) := by decide +kernel
theorem dX1_init_26 : decode cX1_init 26 = .ok (.bipush 10, 2) := by decide +kernel
theorem dX1_init_28 : decode cX1_init 28 = .ok (.newarray .int, 2) := by decide +kernel
theorem dX1_init_30 : decode cX1_init 30 = .ok (.putfield 23, 3) := by decide +kernel
theorem dX1_init_33 : decode cX1_init 33 = .ok (.aload_n 0, 1) := by decide +kernel
theorem dX1_init_34 : decode cX1_init 34 = .ok (.bipush 10, 2) := by decide +kernel
theorem dX1_init_36 : decode cX1_init 36 = .ok (.newarray .int, 2) := by decide +kernel
theorem dX1_init_38 : decode cX1_init 38 = .ok (.putfield 26, 3) := by decide +kernel
theorem dX1_init_41 : decode cX1_init 41 = .ok (.aload_n 0, 1) := by decide +kernel
theorem dX1_init_42 : decode cX1_init 42 = .ok (.bipush 10, 2) := by decide +kernel
theorem dX1_init_44 : decode cX1_init 44 = .ok (.newarray .int, 2) := by decide +kernel
theorem dX1_init_46 : decode cX1_init 46 = .ok (.putfield 29, 3) := by decide +kernel
theorem dX1_init_49 : decode cX1_init 49 = .ok (.aload_n 0, 1) := by decide +kernel
theorem dX1_init_50 : decode cX1_init 50 = .ok (.iconst 0, 1) := by decide +kernel
theorem dX1_init_51 : decode cX1_init 51 = .ok (.putfield 32, 3) := by decide +kernel
theorem dX1_init_54 : decode cX1_init 54 = .ok (.return_, 1) := by decide +kernel
set_option maxRecDepth 20000 in
theorem ggX1_gather_X2_traceAll : GoodIn wsX1_gather wsX2_traceAll := goodIn_r _ [12, 13, 14, 15, 11, 16, 17, 18, 19, 20, 21, 22, 23, 24, 25, 26, 27, 28, 29, 30, 31, 32, 33, 34, 35, 36, 37, 38, 39, 40, 41, 102, 91, 92, 93, 94, 103, 104, 105, 106, 107, 108, 109] (by decide +kernel) (by decide +kernel)
set_option maxRecDepth 20000 in
theorem gX1_gather_X2_traceAll : GoodIn wsX1_gather (wsV RX1 40 RX2 yX2_traceAll wsX2_traceAll) := goodIn_app (goodIn_of _ (by decide +kernel)) ggX1_gather_X2_traceAll
set_option maxRecDepth 20000 in
theorem ggX1_gather_X6_isDoable : GoodIn wsX1_gather wsX6_isDoable := goodIn_r _ [45, 46, 28, 29, 47, 48, 49, 50, 51, 52, 53, 54, 55, 38, 39, 40, 56, 57, 58, 59, 60, 61, 62, 91, 92, 93, 94, 106, 107, 108, 109, 103, 104, 105, 110, 111] (by decide +kernel) (by decide +kernel)
set_option maxRecDepth 20000 in
theorem gX1_gather_X6_isDoable : GoodIn wsX1_gather (wsV RX1 46 RX6 yX6_isDoable wsX6_isDoable) := goodIn_app (goodIn_of _ (by decide +kernel)) ggX1_gather_X6_isDoable
set_option maxRecDepth 20000 in
theorem ggX1_gather_X2_endOf : GoodIn wsX1_gather wsX2_endOf := goodIn_r _ [66, 20, 67, 21, 17, 68, 22, 23, 24, 25, 26, 27, 28, 29, 30, 91, 92, 93, 94, 106, 107, 108, 109, 102] (by decide +kernel) (by decide +kernel)
set_option maxRecDepth 20000 in
theorem gX1_gather_X2_endOf : GoodIn wsX1_gather (wsV RX1 50 RX2 yX2_endOf wsX2_endOf) := goodIn_app (goodIn_of _ (by decide +kernel)) ggX1_gather_X2_endOf
set_option maxRecDepth 20000 in
theorem ggX1_gather_X1_foesOf : GoodIn wsX1_gather wsX1_foesOf := goodIn_r _ [73, 2, 74, 75, 76, 72, 77, 78, 79, 80, 38, 39, 40, 4, 81, 95, 96, 97, 98, 99, 100, 101, 91, 92, 93, 94, 106, 107, 108, 109] (by decide +kernel) (by decide +kernel)
set_option maxRecDepth 20000 in
theorem gX1_gather_X1_foesOf : GoodIn wsX1_gather (wsV RX1 54 RX1 yX1_foesOf wsX1_foesOf) := goodIn_app (goodIn_of _ (by decide +kernel)) ggX1_gather_X1_foesOf
set_option maxRecDepth 20000 in
theorem ggX1_gather_J7_fill_53178 : GoodIn wsX1_gather wsJ7_fill_53178 := goodIn_r _ [85] (by decide +kernel) (by decide +kernel)
set_option maxRecDepth 20000 in
theorem gX1_gather_J7_fill_53178 : GoodIn wsX1_gather (va_wsS RX1 57 yJ7_fill_53178 wsJ7_fill_53178) := goodIn_app (goodIn_of _ (by decide +kernel)) ggX1_gather_J7_fill_53178
set_option maxRecDepth 20000 in
theorem ggX1_gather_X1_giveFrom : GoodIn wsX1_gather wsX1_giveFrom := goodIn_r _ [89, 2, 3, 90, 7, 6, 5, 86, 87, 88, 72, 95, 96, 97, 98, 99, 100, 101] (by decide +kernel) (by decide +kernel)
set_option maxRecDepth 20000 in
theorem gX1_gather_X1_giveFrom : GoodIn wsX1_gather (wsV RX1 63 RX1 yX1_giveFrom wsX1_giveFrom) := goodIn_app (goodIn_of _ (by decide +kernel)) ggX1_gather_X1_giveFrom
theorem dX1_gather_0 : decode cX1_gather 0 = .ok (.aload_n 0, 1) := by decide +kernel
theorem dX1_gather_1 : decode cX1_gather 1 = .ok (.aload_n 1, 1) := by decide +kernel
theorem dX1_gather_2 : decode cX1_gather 2 = .ok (.getfield 35, 3) := by decide +kernel
theorem dX1_gather_5 : decode cX1_gather 5 = .ok (.putfield 32, 3) := by decide +kernel
theorem dX1_gather_8 : decode cX1_gather 8 = .ok (.aload_n 2, 1) := by decide +kernel
theorem dX1_gather_9 : decode cX1_gather 9 = .ok (.aload_n 1, 1) := by decide +kernel
theorem dX1_gather_10 : decode cX1_gather 10 = .ok (.invokevirtual 40, 3) := by decide +kernel
theorem dX1_gather_13 : decode cX1_gather 13 = .ok (.iconst 0, 1) := by decide +kernel
theorem dX1_gather_14 : decode cX1_gather 14 = .ok (.istore_n 3, 1) := by decide +kernel
theorem dX1_gather_15 : decode cX1_gather 15 = .ok (.iload_n 3, 1) := by decide +kernel
theorem dX1_gather_16 : decode cX1_gather 16 = .ok (.aload_n 0, 1) := by decide +kernel
theorem dX1_gather_17 : decode cX1_gather 17 = .ok (.getfield 32, 3) := by decide +kernel
theorem dX1_gather_20 : decode cX1_gather 20 = .ok (.if_icmp .ge 32, 3) := by decide +kernel
theorem dX1_gather_23 : decode cX1_gather 23 = .ok (.aload_n 0, 1) := by decide +kernel
theorem dX1_gather_24 : decode cX1_gather 24 = .ok (.getfield 19, 3) := by decide +kernel
theorem dX1_gather_27 : decode cX1_gather 27 = .ok (.iload_n 3, 1) := by decide +kernel
theorem dX1_gather_28 : decode cX1_gather 28 = .ok (.aload_n 1, 1) := by decide +kernel
theorem dX1_gather_29 : decode cX1_gather 29 = .ok (.iload_n 3, 1) := by decide +kernel
theorem dX1_gather_30 : decode cX1_gather 30 = .ok (.invokevirtual 46, 3) := by decide +kernel
theorem dX1_gather_33 : decode cX1_gather 33 = .ok (.bastore, 1) := by decide +kernel
theorem dX1_gather_34 : decode cX1_gather 34 = .ok (.aload_n 0, 1) := by decide +kernel
theorem dX1_gather_35 : decode cX1_gather 35 = .ok (.getfield 23, 3) := by decide +kernel
theorem dX1_gather_38 : decode cX1_gather 38 = .ok (.iload_n 3, 1) := by decide +kernel
theorem dX1_gather_39 : decode cX1_gather 39 = .ok (.aload_n 2, 1) := by decide +kernel
theorem dX1_gather_40 : decode cX1_gather 40 = .ok (.aload_n 1, 1) := by decide +kernel
theorem dX1_gather_41 : decode cX1_gather 41 = .ok (.iload_n 3, 1) := by decide +kernel
theorem dX1_gather_42 : decode cX1_gather 42 = .ok (.invokevirtual 50, 3) := by decide +kernel
theorem dX1_gather_45 : decode cX1_gather 45 = .ok (.iastore, 1) := by decide +kernel
theorem dX1_gather_46 : decode cX1_gather 46 = .ok (.iinc 3 1, 3) := by decide +kernel
theorem dX1_gather_49 : decode cX1_gather 49 = .ok (.goto (-34), 3) := by decide +kernel
theorem dX1_gather_52 : decode cX1_gather 52 = .ok (.iconst 0, 1) := by decide +kernel
theorem dX1_gather_53 : decode cX1_gather 53 = .ok (.istore_n 3, 1) := by decide +kernel
theorem dX1_gather_54 : decode cX1_gather 54 = .ok (.iload_n 3, 1) := by decide +kernel
theorem dX1_gather_55 : decode cX1_gather 55 = .ok (.aload_n 0, 1) := by decide +kernel
theorem dX1_gather_56 : decode cX1_gather 56 = .ok (.getfield 32, 3) := by decide +kernel
theorem dX1_gather_59 : decode cX1_gather 59 = .ok (.if_icmp .ge 21, 3) := by decide +kernel
theorem dX1_gather_62 : decode cX1_gather 62 = .ok (.aload_n 0, 1) := by decide +kernel
theorem dX1_gather_63 : decode cX1_gather 63 = .ok (.getfield 26, 3) := by decide +kernel
theorem dX1_gather_66 : decode cX1_gather 66 = .ok (.iload_n 3, 1) := by decide +kernel
theorem dX1_gather_67 : decode cX1_gather 67 = .ok (.aload_n 0, 1) := by decide +kernel
theorem dX1_gather_68 : decode cX1_gather 68 = .ok (.aload_n 1, 1) := by decide +kernel
theorem dX1_gather_69 : decode cX1_gather 69 = .ok (.iload_n 3, 1) := by decide +kernel
theorem dX1_gather_70 : decode cX1_gather 70 = .ok (.invokevirtual 54, 3) := by decide +kernel
theorem dX1_gather_73 : decode cX1_gather 73 = .ok (.iastore, 1) := by decide +kernel
theorem dX1_gather_74 : decode cX1_gather 74 = .ok (.iinc 3 1, 3) := by decide +kernel
theorem dX1_gather_77 : decode cX1_gather 77 = .ok (.goto (-23), 3) := by decide +kernel
theorem dX1_gather_80 : decode cX1_gather 80 = .ok (.aload_n 0, 1) := by decide +kernel
theorem dX1_gather_81 : decode cX1_gather 81 = .ok (.getfield 29, 3) := by decide +kernel
theorem dX1_gather_84 : decode cX1_gather 84 = .ok (.iconst 0, 1) := by decide +kernel
theorem dX1_gather_85 : decode cX1_gather 85 = .ok (.invokestatic 57, 3) := by decide +kernel
theorem dX1_gather_88 : decode cX1_gather 88 = .ok (.aload_n 0, 1) := by decide +kernel
theorem dX1_gather_89 : decode cX1_gather 89 = .ok (.iconst 0, 1) := by decide +kernel
theorem dX1_gather_90 : decode cX1_gather 90 = .ok (.putfield 9, 3) := by decide +kernel
theorem dX1_gather_93 : decode cX1_gather 93 = .ok (.aload_n 0, 1) := by decide +kernel
theorem dX1_gather_94 : decode cX1_gather 94 = .ok (.iconst 0, 1) := by decide +kernel
theorem dX1_gather_95 : decode cX1_gather 95 = .ok (.invokevirtual 63, 3) := by decide +kernel
theorem dX1_gather_98 : decode cX1_gather 98 = .ok (.istore_n 3, 1) := by decide +kernel
theorem dX1_gather_99 : decode cX1_gather 99 = .ok (.iload_n 3, 1) := by decide +kernel
theorem dX1_gather_100 : decode cX1_gather 100 = .ok (.ifCond .ne 33, 3) := by decide +kernel
theorem dX1_gather_103 : decode cX1_gather 103 = .ok (.aload_n 0, 1) := by decide +kernel
theorem dX1_gather_104 : decode cX1_gather 104 = .ok (.getfield 9, 3) := by decide +kernel
theorem dX1_gather_107 : decode cX1_gather 107 = .ok (.aload_n 0, 1) := by decide +kernel
theorem dX1_gather_108 : decode cX1_gather 108 = .ok (.getfield 32, 3) := by decide +kernel
theorem dX1_gather_111 : decode cX1_gather 111 = .ok (.if_icmp .ge 22, 3) := by decide +kernel
theorem dX1_gather_114 : decode cX1_gather 114 = .ok (.aload_n 0, 1) := by decide +kernel
theorem dX1_gather_115 : decode cX1_gather 115 = .ok (.dup, 1) := by decide +kernel
theorem dX1_gather_116 : decode cX1_gather 116 = .ok (.getfield 9, 3) := by decide +kernel
theorem dX1_gather_119 : decode cX1_gather 119 = .ok (.iconst 1, 1) := by decide +kernel
theorem dX1_gather_120 : decode cX1_gather 120 = .ok (.iadd, 1) := by decide +kernel
theorem dX1_gather_121 : decode cX1_gather 121 = .ok (.putfield 9, 3) := by decide +kernel
theorem dX1_gather_124 : decode cX1_gather 124 = .ok (.aload_n 0, 1) := by decide +kernel
theorem dX1_gather_125 : decode cX1_gather 125 = .ok (.iconst 0, 1) := by decide +kernel
theorem dX1_gather_126 : decode cX1_gather 126 = .ok (.invokevirtual 63, 3) := by decide +kernel
theorem dX1_gather_129 : decode cX1_gather 129 = .ok (.istore_n 3, 1) := by decide +kernel
theorem dX1_gather_130 : decode cX1_gather 130 = .ok (.goto (-31), 3) := by decide +kernel
theorem dX1_gather_133 : decode cX1_gather 133 = .ok (.return_, 1) := by decide +kernel
theorem dX1_doableCount_0 : decode cX1_doableCount 0 = .ok (.iconst 0, 1) := by decide +kernel
theorem dX1_doableCount_1 : decode cX1_doableCount 1 = .ok (.istore_n 1, 1) := by decide +kernel
theorem dX1_doableCount_2 : decode cX1_doableCount 2 = .ok (.iconst 0, 1) := by decide +kernel
theorem dX1_doableCount_3 : decode cX1_doableCount 3 = .ok (.istore_n 2, 1) := by decide +kernel
theorem dX1_doableCount_4 : decode cX1_doableCount 4 = .ok (.iload_n 2, 1) := by decide +kernel
theorem dX1_doableCount_5 : decode cX1_doableCount 5 = .ok (.aload_n 0, 1) := by decide +kernel
theorem dX1_doableCount_6 : decode cX1_doableCount 6 = .ok (.getfield 32, 3) := by decide +kernel
theorem dX1_doableCount_9 : decode cX1_doableCount 9 = .ok (.if_icmp .ge 21, 3) := by decide +kernel
theorem dX1_doableCount_12 : decode cX1_doableCount 12 = .ok (.aload_n 0, 1) := by decide +kernel
theorem dX1_doableCount_13 : decode cX1_doableCount 13 = .ok (.getfield 19, 3) := by decide +kernel
theorem dX1_doableCount_16 : decode cX1_doableCount 16 = .ok (.iload_n 2, 1) := by decide +kernel
theorem dX1_doableCount_17 : decode cX1_doableCount 17 = .ok (.baload, 1) := by decide +kernel
theorem dX1_doableCount_18 : decode cX1_doableCount 18 = .ok (.ifCond .eq 6, 3) := by decide +kernel
theorem dX1_doableCount_21 : decode cX1_doableCount 21 = .ok (.iinc 1 1, 3) := by decide +kernel
theorem dX1_doableCount_24 : decode cX1_doableCount 24 = .ok (.iinc 2 1, 3) := by decide +kernel
theorem dX1_doableCount_27 : decode cX1_doableCount 27 = .ok (.goto (-23), 3) := by decide +kernel
theorem dX1_doableCount_30 : decode cX1_doableCount 30 = .ok (.iload_n 1, 1) := by decide +kernel
theorem dX1_doableCount_31 : decode cX1_doableCount 31 = .ok (.ireturn, 1) := by decide +kernel
set_option maxRecDepth 20000 in
theorem ggX1_mostAtOnce_X1_doneAt : GoodIn wsX1_mostAtOnce wsX1_doneAt := goodIn_r _ [12, 1, 13, 2, 3, 14, 15, 16, 17, 18, 19, 20, 21, 22, 23, 24, 25, 26, 27, 28, 29] (by decide +kernel) (by decide +kernel)
set_option maxRecDepth 20000 in
theorem gX1_mostAtOnce_X1_doneAt : GoodIn wsX1_mostAtOnce (wsV RX1 75 RX1 yX1_doneAt wsX1_doneAt) := goodIn_app (goodIn_of _ (by decide +kernel)) ggX1_mostAtOnce_X1_doneAt
theorem dX1_mostAtOnce_0 : decode cX1_mostAtOnce 0 = .ok (.iconst 0, 1) := by decide +kernel
theorem dX1_mostAtOnce_1 : decode cX1_mostAtOnce 1 = .ok (.istore_n 2, 1) := by decide +kernel
theorem dX1_mostAtOnce_2 : decode cX1_mostAtOnce 2 = .ok (.iconst 0, 1) := by decide +kernel
theorem dX1_mostAtOnce_3 : decode cX1_mostAtOnce 3 = .ok (.istore_n 3, 1) := by decide +kernel
theorem dX1_mostAtOnce_4 : decode cX1_mostAtOnce 4 = .ok (.iload_n 3, 1) := by decide +kernel
theorem dX1_mostAtOnce_5 : decode cX1_mostAtOnce 5 = .ok (.aload_n 0, 1) := by decide +kernel
theorem dX1_mostAtOnce_6 : decode cX1_mostAtOnce 6 = .ok (.getfield 32, 3) := by decide +kernel
theorem dX1_mostAtOnce_9 : decode cX1_mostAtOnce 9 = .ok (.if_icmp .ge 28, 3) := by decide +kernel
theorem dX1_mostAtOnce_12 : decode cX1_mostAtOnce 12 = .ok (.iload_n 2, 1) := by decide +kernel
theorem dX1_mostAtOnce_13 : decode cX1_mostAtOnce 13 = .ok (.aload_n 0, 1) := by decide +kernel
theorem dX1_mostAtOnce_14 : decode cX1_mostAtOnce 14 = .ok (.aload_n 1, 1) := by decide +kernel
theorem dX1_mostAtOnce_15 : decode cX1_mostAtOnce 15 = .ok (.aload_n 1, 1) := by decide +kernel
theorem dX1_mostAtOnce_16 : decode cX1_mostAtOnce 16 = .ok (.getfield 66, 3) := by decide +kernel
theorem dX1_mostAtOnce_19 : decode cX1_mostAtOnce 19 = .ok (.iload_n 3, 1) := by decide +kernel
theorem dX1_mostAtOnce_20 : decode cX1_mostAtOnce 20 = .ok (.aaload, 1) := by decide +kernel
theorem dX1_mostAtOnce_21 : decode cX1_mostAtOnce 21 = .ok (.getfield 70, 3) := by decide +kernel
theorem dX1_mostAtOnce_24 : decode cX1_mostAtOnce 24 = .ok (.invokevirtual 75, 3) := by decide +kernel
theorem dX1_mostAtOnce_27 : decode cX1_mostAtOnce 27 = .ok (.invokestatic 78, 3) := by decide +kernel
theorem dX1_mostAtOnce_30 : decode cX1_mostAtOnce 30 = .ok (.istore_n 2, 1) := by decide +kernel
theorem dX1_mostAtOnce_31 : decode cX1_mostAtOnce 31 = .ok (.iinc 3 1, 3) := by decide +kernel
theorem dX1_mostAtOnce_34 : decode cX1_mostAtOnce 34 = .ok (.goto (-30), 3) := by decide +kernel
theorem dX1_mostAtOnce_37 : decode cX1_mostAtOnce 37 = .ok (.iload_n 2, 1) := by decide +kernel
theorem dX1_mostAtOnce_38 : decode cX1_mostAtOnce 38 = .ok (.ireturn, 1) := by decide +kernel
set_option maxRecDepth 20000 in
theorem ggX1_turn_X1_turnsAhead : GoodIn wsX1_turn wsX1_turnsAhead := goodIn_r _ [7, 1, 2, 8, 9, 10, 11, 12, 13, 14, 15, 16, 17, 18, 19, 20, 21, 22, 23, 24] (by decide +kernel) (by decide +kernel)
set_option maxRecDepth 20000 in
theorem gX1_turn_X1_turnsAhead : GoodIn wsX1_turn (wsV RX1 84 RX1 yX1_turnsAhead wsX1_turnsAhead) := goodIn_app (goodIn_of _ (by decide +kernel)) ggX1_turn_X1_turnsAhead
theorem dX1_turn_0 : decode cX1_turn 0 = .ok (.iconst 0, 1) := by decide +kernel
theorem dX1_turn_1 : decode cX1_turn 1 = .ok (.istore 4, 2) := by decide +kernel
theorem dX1_turn_3 : decode cX1_turn 3 = .ok (.iload 4, 2) := by decide +kernel
theorem dX1_turn_5 : decode cX1_turn 5 = .ok (.aload_n 0, 1) := by decide +kernel
theorem dX1_turn_6 : decode cX1_turn 6 = .ok (.getfield 32, 3) := by decide +kernel
theorem dX1_turn_9 : decode cX1_turn 9 = .ok (.if_icmp .ge 34, 3) := by decide +kernel
theorem dX1_turn_12 : decode cX1_turn 12 = .ok (.aload_n 0, 1) := by decide +kernel
theorem dX1_turn_13 : decode cX1_turn 13 = .ok (.getfield 15, 3) := by decide +kernel
theorem dX1_turn_16 : decode cX1_turn 16 = .ok (.iload 4, 2) := by decide +kernel
theorem dX1_turn_18 : decode cX1_turn 18 = .ok (.iaload, 1) := by decide +kernel
theorem dX1_turn_19 : decode cX1_turn 19 = .ok (.iload_n 2, 1) := by decide +kernel
theorem dX1_turn_20 : decode cX1_turn 20 = .ok (.if_icmp .ne 17, 3) := by decide +kernel
theorem dX1_turn_23 : decode cX1_turn 23 = .ok (.aload_n 0, 1) := by decide +kernel
theorem dX1_turn_24 : decode cX1_turn 24 = .ok (.aload_n 1, 1) := by decide +kernel
theorem dX1_turn_25 : decode cX1_turn 25 = .ok (.iload 4, 2) := by decide +kernel
theorem dX1_turn_27 : decode cX1_turn 27 = .ok (.invokevirtual 84, 3) := by decide +kernel
theorem dX1_turn_30 : decode cX1_turn 30 = .ok (.iload_n 3, 1) := by decide +kernel
theorem dX1_turn_31 : decode cX1_turn 31 = .ok (.if_icmp .ne 6, 3) := by decide +kernel
theorem dX1_turn_34 : decode cX1_turn 34 = .ok (.iload 4, 2) := by decide +kernel
theorem dX1_turn_36 : decode cX1_turn 36 = .ok (.ireturn, 1) := by decide +kernel
theorem dX1_turn_37 : decode cX1_turn 37 = .ok (.iinc 4 1, 3) := by decide +kernel
theorem dX1_turn_40 : decode cX1_turn 40 = .ok (.goto (-37), 3) := by decide +kernel
theorem dX1_turn_43 : decode cX1_turn 43 = .ok (.bipush (-6), 2) := by decide +kernel
theorem dX1_turn_45 : decode cX1_turn 45 = .ok (.ireturn, 1) := by decide +kernel
theorem dX1_doneAt_0 : decode cX1_doneAt 0 = .ok (.iconst 0, 1) := by decide +kernel
theorem dX1_doneAt_1 : decode cX1_doneAt 1 = .ok (.istore_n 3, 1) := by decide +kernel
theorem dX1_doneAt_2 : decode cX1_doneAt 2 = .ok (.iconst 0, 1) := by decide +kernel
theorem dX1_doneAt_3 : decode cX1_doneAt 3 = .ok (.istore 4, 2) := by decide +kernel
theorem dX1_doneAt_5 : decode cX1_doneAt 5 = .ok (.iload 4, 2) := by decide +kernel
theorem dX1_doneAt_7 : decode cX1_doneAt 7 = .ok (.aload_n 0, 1) := by decide +kernel
theorem dX1_doneAt_8 : decode cX1_doneAt 8 = .ok (.getfield 32, 3) := by decide +kernel
theorem dX1_doneAt_11 : decode cX1_doneAt 11 = .ok (.if_icmp .ge 47, 3) := by decide +kernel
theorem dX1_doneAt_14 : decode cX1_doneAt 14 = .ok (.aload_n 0, 1) := by decide +kernel
theorem dX1_doneAt_15 : decode cX1_doneAt 15 = .ok (.getfield 19, 3) := by decide +kernel
theorem dX1_doneAt_18 : decode cX1_doneAt 18 = .ok (.iload 4, 2) := by decide +kernel
theorem dX1_doneAt_20 : decode cX1_doneAt 20 = .ok (.baload, 1) := by decide +kernel
theorem dX1_doneAt_21 : decode cX1_doneAt 21 = .ok (.ifCond .eq 31, 3) := by decide +kernel
theorem dX1_doneAt_24 : decode cX1_doneAt 24 = .ok (.aload_n 1, 1) := by decide +kernel
theorem dX1_doneAt_25 : decode cX1_doneAt 25 = .ok (.getfield 66, 3) := by decide +kernel
theorem dX1_doneAt_28 : decode cX1_doneAt 28 = .ok (.iload 4, 2) := by decide +kernel
theorem dX1_doneAt_30 : decode cX1_doneAt 30 = .ok (.aaload, 1) := by decide +kernel
theorem dX1_doneAt_31 : decode cX1_doneAt 31 = .ok (.getfield 70, 3) := by decide +kernel
theorem dX1_doneAt_34 : decode cX1_doneAt 34 = .ok (.iload_n 2, 1) := by decide +kernel
theorem dX1_doneAt_35 : decode cX1_doneAt 35 = .ok (.if_icmp .gt 17, 3) := by decide +kernel
theorem dX1_doneAt_38 : decode cX1_doneAt 38 = .ok (.aload_n 0, 1) := by decide +kernel
theorem dX1_doneAt_39 : decode cX1_doneAt 39 = .ok (.getfield 23, 3) := by decide +kernel
theorem dX1_doneAt_42 : decode cX1_doneAt 42 = .ok (.iload 4, 2) := by decide +kernel
theorem dX1_doneAt_44 : decode cX1_doneAt 44 = .ok (.iaload, 1) := by decide +kernel
theorem dX1_doneAt_45 : decode cX1_doneAt 45 = .ok (.iload_n 2, 1) := by decide +kernel
theorem dX1_doneAt_46 : decode cX1_doneAt 46 = .ok (.if_icmp .le 6, 3) := by decide +kernel
theorem dX1_doneAt_49 : decode cX1_doneAt 49 = .ok (.iinc 3 1, 3) := by decide +kernel
theorem dX1_doneAt_52 : decode cX1_doneAt 52 = .ok (.iinc 4 1, 3) := by decide +kernel
theorem dX1_doneAt_55 : decode cX1_doneAt 55 = .ok (.goto (-50), 3) := by decide +kernel
theorem dX1_doneAt_58 : decode cX1_doneAt 58 = .ok (.iload_n 3, 1) := by decide +kernel
theorem dX1_doneAt_59 : decode cX1_doneAt 59 = .ok (.ireturn, 1) := by decide +kernel
theorem dX1_turnsAhead_0 : decode cX1_turnsAhead 0 = .ok (.iconst 0, 1) := by decide +kernel
theorem dX1_turnsAhead_1 : decode cX1_turnsAhead 1 = .ok (.istore_n 3, 1) := by decide +kernel
theorem dX1_turnsAhead_2 : decode cX1_turnsAhead 2 = .ok (.iconst 0, 1) := by decide +kernel
theorem dX1_turnsAhead_3 : decode cX1_turnsAhead 3 = .ok (.istore 4, 2) := by decide +kernel
theorem dX1_turnsAhead_5 : decode cX1_turnsAhead 5 = .ok (.iload 4, 2) := by decide +kernel
theorem dX1_turnsAhead_7 : decode cX1_turnsAhead 7 = .ok (.aload_n 0, 1) := by decide +kernel
theorem dX1_turnsAhead_8 : decode cX1_turnsAhead 8 = .ok (.getfield 32, 3) := by decide +kernel
theorem dX1_turnsAhead_11 : decode cX1_turnsAhead 11 = .ok (.if_icmp .ge 50, 3) := by decide +kernel
theorem dX1_turnsAhead_14 : decode cX1_turnsAhead 14 = .ok (.aload_n 0, 1) := by decide +kernel
theorem dX1_turnsAhead_15 : decode cX1_turnsAhead 15 = .ok (.getfield 15, 3) := by decide +kernel
theorem dX1_turnsAhead_18 : decode cX1_turnsAhead 18 = .ok (.iload 4, 2) := by decide +kernel
theorem dX1_turnsAhead_20 : decode cX1_turnsAhead 20 = .ok (.iaload, 1) := by decide +kernel
theorem dX1_turnsAhead_21 : decode cX1_turnsAhead 21 = .ok (.aload_n 0, 1) := by decide +kernel
theorem dX1_turnsAhead_22 : decode cX1_turnsAhead 22 = .ok (.getfield 15, 3) := by decide +kernel
theorem dX1_turnsAhead_25 : decode cX1_turnsAhead 25 = .ok (.iload_n 2, 1) := by decide +kernel
theorem dX1_turnsAhead_26 : decode cX1_turnsAhead 26 = .ok (.iaload, 1) := by decide +kernel
theorem dX1_turnsAhead_27 : decode cX1_turnsAhead 27 = .ok (.if_icmp .ne 28, 3) := by decide +kernel
theorem dX1_turnsAhead_30 : decode cX1_turnsAhead 30 = .ok (.aload_n 1, 1) := by decide +kernel
theorem dX1_turnsAhead_31 : decode cX1_turnsAhead 31 = .ok (.getfield 66, 3) := by decide +kernel
theorem dX1_turnsAhead_34 : decode cX1_turnsAhead 34 = .ok (.iload 4, 2) := by decide +kernel
theorem dX1_turnsAhead_36 : decode cX1_turnsAhead 36 = .ok (.aaload, 1) := by decide +kernel
theorem dX1_turnsAhead_37 : decode cX1_turnsAhead 37 = .ok (.getfield 70, 3) := by decide +kernel
theorem dX1_turnsAhead_40 : decode cX1_turnsAhead 40 = .ok (.aload_n 1, 1) := by decide +kernel
theorem dX1_turnsAhead_41 : decode cX1_turnsAhead 41 = .ok (.getfield 66, 3) := by decide +kernel
theorem dX1_turnsAhead_44 : decode cX1_turnsAhead 44 = .ok (.iload_n 2, 1) := by decide +kernel
theorem dX1_turnsAhead_45 : decode cX1_turnsAhead 45 = .ok (.aaload, 1) := by decide +kernel
theorem dX1_turnsAhead_46 : decode cX1_turnsAhead 46 = .ok (.getfield 70, 3) := by decide +kernel
theorem dX1_turnsAhead_49 : decode cX1_turnsAhead 49 = .ok (.if_icmp .ge 6, 3) := by decide +kernel
theorem dX1_turnsAhead_52 : decode cX1_turnsAhead 52 = .ok (.iinc 3 1, 3) := by decide +kernel
theorem dX1_turnsAhead_55 : decode cX1_turnsAhead 55 = .ok (.iinc 4 1, 3) := by decide +kernel
theorem dX1_turnsAhead_58 : decode cX1_turnsAhead 58 = .ok (.goto (-53), 3) := by decide +kernel
theorem dX1_turnsAhead_61 : decode cX1_turnsAhead 61 = .ok (.iload_n 3, 1) := by decide +kernel
theorem dX1_turnsAhead_62 : decode cX1_turnsAhead 62 = .ok (.ireturn, 1) := by decide +kernel
set_option maxRecDepth 20000 in
theorem ggX1_foesOf_X1_reaches : GoodIn wsX1_foesOf wsX1_reaches := goodIn_r _ [6, 7, 8, 9, 10, 11, 12, 13, 14, 22, 23, 24, 25, 26, 27, 28, 29, 15, 16, 17, 18, 19, 20, 21] (by decide +kernel) (by decide +kernel)
set_option maxRecDepth 20000 in
theorem gX1_foesOf_X1_reaches : GoodIn wsX1_foesOf (wsV RX1 87 RX1 yX1_reaches wsX1_reaches) := goodIn_app (goodIn_of _ (by decide +kernel)) ggX1_foesOf_X1_reaches
theorem dX1_foesOf_0 : decode cX1_foesOf 0 = .ok (.iconst 0, 1) := by decide +kernel
theorem dX1_foesOf_1 : decode cX1_foesOf 1 = .ok (.istore_n 3, 1) := by decide +kernel
theorem dX1_foesOf_2 : decode cX1_foesOf 2 = .ok (.iconst 0, 1) := by decide +kernel
theorem dX1_foesOf_3 : decode cX1_foesOf 3 = .ok (.istore 4, 2) := by decide +kernel
theorem dX1_foesOf_5 : decode cX1_foesOf 5 = .ok (.iload 4, 2) := by decide +kernel
theorem dX1_foesOf_7 : decode cX1_foesOf 7 = .ok (.aload_n 0, 1) := by decide +kernel
theorem dX1_foesOf_8 : decode cX1_foesOf 8 = .ok (.getfield 32, 3) := by decide +kernel
theorem dX1_foesOf_11 : decode cX1_foesOf 11 = .ok (.if_icmp .ge 44, 3) := by decide +kernel
theorem dX1_foesOf_14 : decode cX1_foesOf 14 = .ok (.iload 4, 2) := by decide +kernel
theorem dX1_foesOf_16 : decode cX1_foesOf 16 = .ok (.iload_n 2, 1) := by decide +kernel
theorem dX1_foesOf_17 : decode cX1_foesOf 17 = .ok (.if_icmp .eq 32, 3) := by decide +kernel
theorem dX1_foesOf_20 : decode cX1_foesOf 20 = .ok (.aload_n 0, 1) := by decide +kernel
theorem dX1_foesOf_21 : decode cX1_foesOf 21 = .ok (.aload_n 1, 1) := by decide +kernel
theorem dX1_foesOf_22 : decode cX1_foesOf 22 = .ok (.iload 4, 2) := by decide +kernel
theorem dX1_foesOf_24 : decode cX1_foesOf 24 = .ok (.iload_n 2, 1) := by decide +kernel
theorem dX1_foesOf_25 : decode cX1_foesOf 25 = .ok (.invokevirtual 87, 3) := by decide +kernel
theorem dX1_foesOf_28 : decode cX1_foesOf 28 = .ok (.ifCond .ne 21, 3) := by decide +kernel
theorem dX1_foesOf_31 : decode cX1_foesOf 31 = .ok (.aload_n 0, 1) := by decide +kernel
theorem dX1_foesOf_32 : decode cX1_foesOf 32 = .ok (.aload_n 1, 1) := by decide +kernel
theorem dX1_foesOf_33 : decode cX1_foesOf 33 = .ok (.iload_n 2, 1) := by decide +kernel
theorem dX1_foesOf_34 : decode cX1_foesOf 34 = .ok (.iload 4, 2) := by decide +kernel
theorem dX1_foesOf_36 : decode cX1_foesOf 36 = .ok (.invokevirtual 87, 3) := by decide +kernel
theorem dX1_foesOf_39 : decode cX1_foesOf 39 = .ok (.ifCond .ne 10, 3) := by decide +kernel
theorem dX1_foesOf_42 : decode cX1_foesOf 42 = .ok (.iload_n 3, 1) := by decide +kernel
theorem dX1_foesOf_43 : decode cX1_foesOf 43 = .ok (.iconst 1, 1) := by decide +kernel
theorem dX1_foesOf_44 : decode cX1_foesOf 44 = .ok (.iload 4, 2) := by decide +kernel
theorem dX1_foesOf_46 : decode cX1_foesOf 46 = .ok (.ishl, 1) := by decide +kernel
theorem dX1_foesOf_47 : decode cX1_foesOf 47 = .ok (.ior, 1) := by decide +kernel
theorem dX1_foesOf_48 : decode cX1_foesOf 48 = .ok (.istore_n 3, 1) := by decide +kernel
theorem dX1_foesOf_49 : decode cX1_foesOf 49 = .ok (.iinc 4 1, 3) := by decide +kernel
theorem dX1_foesOf_52 : decode cX1_foesOf 52 = .ok (.goto (-47), 3) := by decide +kernel
theorem dX1_foesOf_55 : decode cX1_foesOf 55 = .ok (.iload_n 3, 1) := by decide +kernel
theorem dX1_foesOf_56 : decode cX1_foesOf 56 = .ok (.ireturn, 1) := by decide +kernel
theorem dX1_reaches_0 : decode cX1_reaches 0 = .ok (.aload_n 1, 1) := by decide +kernel
theorem dX1_reaches_1 : decode cX1_reaches 1 = .ok (.getfield 66, 3) := by decide +kernel
theorem dX1_reaches_4 : decode cX1_reaches 4 = .ok (.iload_n 2, 1) := by decide +kernel
theorem dX1_reaches_5 : decode cX1_reaches 5 = .ok (.aaload, 1) := by decide +kernel
theorem dX1_reaches_6 : decode cX1_reaches 6 = .ok (.getfield 91, 3) := by decide +kernel
theorem dX1_reaches_9 : decode cX1_reaches 9 = .ok (.aload_n 1, 1) := by decide +kernel
theorem dX1_reaches_10 : decode cX1_reaches 10 = .ok (.getfield 66, 3) := by decide +kernel
theorem dX1_reaches_13 : decode cX1_reaches 13 = .ok (.iload_n 3, 1) := by decide +kernel
theorem dX1_reaches_14 : decode cX1_reaches 14 = .ok (.aaload, 1) := by decide +kernel
theorem dX1_reaches_15 : decode cX1_reaches 15 = .ok (.getfield 91, 3) := by decide +kernel
theorem dX1_reaches_18 : decode cX1_reaches 18 = .ok (.isub, 1) := by decide +kernel
theorem dX1_reaches_19 : decode cX1_reaches 19 = .ok (.invokestatic 94, 3) := by decide +kernel
theorem dX1_reaches_22 : decode cX1_reaches 22 = .ok (.istore 4, 2) := by decide +kernel
theorem dX1_reaches_24 : decode cX1_reaches 24 = .ok (.aload_n 0, 1) := by decide +kernel
theorem dX1_reaches_25 : decode cX1_reaches 25 = .ok (.getfield 23, 3) := by decide +kernel
theorem dX1_reaches_28 : decode cX1_reaches 28 = .ok (.iload_n 2, 1) := by decide +kernel
theorem dX1_reaches_29 : decode cX1_reaches 29 = .ok (.iaload, 1) := by decide +kernel
theorem dX1_reaches_30 : decode cX1_reaches 30 = .ok (.aload_n 1, 1) := by decide +kernel
theorem dX1_reaches_31 : decode cX1_reaches 31 = .ok (.getfield 66, 3) := by decide +kernel
theorem dX1_reaches_34 : decode cX1_reaches 34 = .ok (.iload_n 3, 1) := by decide +kernel
theorem dX1_reaches_35 : decode cX1_reaches 35 = .ok (.aaload, 1) := by decide +kernel
theorem dX1_reaches_36 : decode cX1_reaches 36 = .ok (.getfield 70, 3) := by decide +kernel
theorem dX1_reaches_39 : decode cX1_reaches 39 = .ok (.iload 4, 2) := by decide +kernel
theorem dX1_reaches_41 : decode cX1_reaches 41 = .ok (.isub, 1) := by decide +kernel
theorem dX1_reaches_42 : decode cX1_reaches 42 = .ok (.if_icmp .gt 7, 3) := by decide +kernel
theorem dX1_reaches_45 : decode cX1_reaches 45 = .ok (.iconst 1, 1) := by decide +kernel
theorem dX1_reaches_46 : decode cX1_reaches 46 = .ok (.goto 4, 3) := by decide +kernel
theorem dX1_reaches_49 : decode cX1_reaches 49 = .ok (.iconst 0, 1) := by decide +kernel
theorem dX1_reaches_50 : decode cX1_reaches 50 = .ok (.ireturn, 1) := by decide +kernel
set_option maxRecDepth 20000 in
theorem ggX1_giveFrom_X1_giveFrom : GoodIn wsX1_giveFrom wsX1_giveFrom := goodIn_r _ [0, 1, 2, 3, 4, 5, 6, 7, 8, 9, 10, 11, 12, 13, 14, 15, 16, 17] (by decide +kernel) (by decide +kernel)
set_option maxRecDepth 20000 in
theorem gX1_giveFrom_X1_giveFrom : GoodIn wsX1_giveFrom (wsV RX1 63 RX1 yX1_giveFrom wsX1_giveFrom) := goodIn_app (goodIn_of _ (by decide +kernel)) ggX1_giveFrom_X1_giveFrom
theorem dX1_giveFrom_0 : decode cX1_giveFrom 0 = .ok (.iload_n 1, 1) := by decide +kernel
theorem dX1_giveFrom_1 : decode cX1_giveFrom 1 = .ok (.aload_n 0, 1) := by decide +kernel
theorem dX1_giveFrom_2 : decode cX1_giveFrom 2 = .ok (.getfield 32, 3) := by decide +kernel
theorem dX1_giveFrom_5 : decode cX1_giveFrom 5 = .ok (.if_icmp .lt 5, 3) := by decide +kernel
theorem dX1_giveFrom_8 : decode cX1_giveFrom 8 = .ok (.iconst 1, 1) := by decide +kernel
theorem dX1_giveFrom_9 : decode cX1_giveFrom 9 = .ok (.ireturn, 1) := by decide +kernel
theorem dX1_giveFrom_10 : decode cX1_giveFrom 10 = .ok (.aload_n 0, 1) := by decide +kernel
theorem dX1_giveFrom_11 : decode cX1_giveFrom 11 = .ok (.getfield 19, 3) := by decide +kernel
theorem dX1_giveFrom_14 : decode cX1_giveFrom 14 = .ok (.iload_n 1, 1) := by decide +kernel
theorem dX1_giveFrom_15 : decode cX1_giveFrom 15 = .ok (.baload, 1) := by decide +kernel
theorem dX1_giveFrom_16 : decode cX1_giveFrom 16 = .ok (.ifCond .ne 19, 3) := by decide +kernel
theorem dX1_giveFrom_19 : decode cX1_giveFrom 19 = .ok (.aload_n 0, 1) := by decide +kernel
theorem dX1_giveFrom_20 : decode cX1_giveFrom 20 = .ok (.getfield 15, 3) := by decide +kernel
theorem dX1_giveFrom_23 : decode cX1_giveFrom 23 = .ok (.iload_n 1, 1) := by decide +kernel
theorem dX1_giveFrom_24 : decode cX1_giveFrom 24 = .ok (.bipush (-6), 2) := by decide +kernel
theorem dX1_giveFrom_26 : decode cX1_giveFrom 26 = .ok (.iastore, 1) := by decide +kernel
theorem dX1_giveFrom_27 : decode cX1_giveFrom 27 = .ok (.aload_n 0, 1) := by decide +kernel
theorem dX1_giveFrom_28 : decode cX1_giveFrom 28 = .ok (.iload_n 1, 1) := by decide +kernel
theorem dX1_giveFrom_29 : decode cX1_giveFrom 29 = .ok (.iconst 1, 1) := by decide +kernel
theorem dX1_giveFrom_30 : decode cX1_giveFrom 30 = .ok (.iadd, 1) := by decide +kernel
theorem dX1_giveFrom_31 : decode cX1_giveFrom 31 = .ok (.invokevirtual 63, 3) := by decide +kernel
theorem dX1_giveFrom_34 : decode cX1_giveFrom 34 = .ok (.ireturn, 1) := by decide +kernel
theorem dX1_giveFrom_35 : decode cX1_giveFrom 35 = .ok (.iconst 0, 1) := by decide +kernel
theorem dX1_giveFrom_36 : decode cX1_giveFrom 36 = .ok (.istore_n 2, 1) := by decide +kernel
theorem dX1_giveFrom_37 : decode cX1_giveFrom 37 = .ok (.iload_n 2, 1) := by decide +kernel
theorem dX1_giveFrom_38 : decode cX1_giveFrom 38 = .ok (.aload_n 0, 1) := by decide +kernel
theorem dX1_giveFrom_39 : decode cX1_giveFrom 39 = .ok (.getfield 9, 3) := by decide +kernel
theorem dX1_giveFrom_42 : decode cX1_giveFrom 42 = .ok (.if_icmp .ge 91, 3) := by decide +kernel
theorem dX1_giveFrom_45 : decode cX1_giveFrom 45 = .ok (.aload_n 0, 1) := by decide +kernel
theorem dX1_giveFrom_46 : decode cX1_giveFrom 46 = .ok (.getfield 29, 3) := by decide +kernel
theorem dX1_giveFrom_49 : decode cX1_giveFrom 49 = .ok (.iload_n 2, 1) := by decide +kernel
theorem dX1_giveFrom_50 : decode cX1_giveFrom 50 = .ok (.iaload, 1) := by decide +kernel
theorem dX1_giveFrom_51 : decode cX1_giveFrom 51 = .ok (.ifCond .ne 7, 3) := by decide +kernel
theorem dX1_giveFrom_54 : decode cX1_giveFrom 54 = .ok (.iconst 1, 1) := by decide +kernel
theorem dX1_giveFrom_55 : decode cX1_giveFrom 55 = .ok (.goto 4, 3) := by decide +kernel
theorem dX1_giveFrom_58 : decode cX1_giveFrom 58 = .ok (.iconst 0, 1) := by decide +kernel
theorem dX1_giveFrom_59 : decode cX1_giveFrom 59 = .ok (.istore_n 3, 1) := by decide +kernel
theorem dX1_giveFrom_60 : decode cX1_giveFrom 60 = .ok (.aload_n 0, 1) := by decide +kernel
theorem dX1_giveFrom_61 : decode cX1_giveFrom 61 = .ok (.getfield 29, 3) := by decide +kernel
theorem dX1_giveFrom_64 : decode cX1_giveFrom 64 = .ok (.iload_n 2, 1) := by decide +kernel
theorem dX1_giveFrom_65 : decode cX1_giveFrom 65 = .ok (.iaload, 1) := by decide +kernel
theorem dX1_giveFrom_66 : decode cX1_giveFrom 66 = .ok (.aload_n 0, 1) := by decide +kernel
theorem dX1_giveFrom_67 : decode cX1_giveFrom 67 = .ok (.getfield 26, 3) := by decide +kernel
theorem dX1_giveFrom_70 : decode cX1_giveFrom 70 = .ok (.iload_n 1, 1) := by decide +kernel
theorem dX1_giveFrom_71 : decode cX1_giveFrom 71 = .ok (.iaload, 1) := by decide +kernel
theorem dX1_giveFrom_72 : decode cX1_giveFrom 72 = .ok (.iand, 1) := by decide +kernel
theorem dX1_giveFrom_73 : decode cX1_giveFrom 73 = .ok (.ifCond .ne 48, 3) := by decide +kernel
theorem dX1_giveFrom_76 : decode cX1_giveFrom 76 = .ok (.aload_n 0, 1) := by decide +kernel
theorem dX1_giveFrom_77 : decode cX1_giveFrom 77 = .ok (.getfield 29, 3) := by decide +kernel
theorem dX1_giveFrom_80 : decode cX1_giveFrom 80 = .ok (.iload_n 2, 1) := by decide +kernel
theorem dX1_giveFrom_81 : decode cX1_giveFrom 81 = .ok (.dup2, 1) := by decide +kernel
theorem dX1_giveFrom_82 : decode cX1_giveFrom 82 = .ok (.iaload, 1) := by decide +kernel
theorem dX1_giveFrom_83 : decode cX1_giveFrom 83 = .ok (.iconst 1, 1) := by decide +kernel
theorem dX1_giveFrom_84 : decode cX1_giveFrom 84 = .ok (.iload_n 1, 1) := by decide +kernel
theorem dX1_giveFrom_85 : decode cX1_giveFrom 85 = .ok (.ishl, 1) := by decide +kernel
theorem dX1_giveFrom_86 : decode cX1_giveFrom 86 = .ok (.ior, 1) := by decide +kernel
theorem dX1_giveFrom_87 : decode cX1_giveFrom 87 = .ok (.iastore, 1) := by decide +kernel
theorem dX1_giveFrom_88 : decode cX1_giveFrom 88 = .ok (.aload_n 0, 1) := by decide +kernel
theorem dX1_giveFrom_89 : decode cX1_giveFrom 89 = .ok (.getfield 15, 3) := by decide +kernel
theorem dX1_giveFrom_92 : decode cX1_giveFrom 92 = .ok (.iload_n 1, 1) := by decide +kernel
theorem dX1_giveFrom_93 : decode cX1_giveFrom 93 = .ok (.iload_n 2, 1) := by decide +kernel
theorem dX1_giveFrom_94 : decode cX1_giveFrom 94 = .ok (.iastore, 1) := by decide +kernel
theorem dX1_giveFrom_95 : decode cX1_giveFrom 95 = .ok (.aload_n 0, 1) := by decide +kernel
theorem dX1_giveFrom_96 : decode cX1_giveFrom 96 = .ok (.iload_n 1, 1) := by decide +kernel
theorem dX1_giveFrom_97 : decode cX1_giveFrom 97 = .ok (.iconst 1, 1) := by decide +kernel
theorem dX1_giveFrom_98 : decode cX1_giveFrom 98 = .ok (.iadd, 1) := by decide +kernel
theorem dX1_giveFrom_99 : decode cX1_giveFrom 99 = .ok (.invokevirtual 63, 3) := by decide +kernel
theorem dX1_giveFrom_102 : decode cX1_giveFrom 102 = .ok (.ifCond .eq 5, 3) := by decide +kernel
theorem dX1_giveFrom_105 : decode cX1_giveFrom 105 = .ok (.iconst 1, 1) := by decide +kernel
theorem dX1_giveFrom_106 : decode cX1_giveFrom 106 = .ok (.ireturn, 1) := by decide +kernel
theorem dX1_giveFrom_107 : decode cX1_giveFrom 107 = .ok (.aload_n 0, 1) := by decide +kernel
theorem dX1_giveFrom_108 : decode cX1_giveFrom 108 = .ok (.getfield 29, 3) := by decide +kernel
theorem dX1_giveFrom_111 : decode cX1_giveFrom 111 = .ok (.iload_n 2, 1) := by decide +kernel
theorem dX1_giveFrom_112 : decode cX1_giveFrom 112 = .ok (.dup2, 1) := by decide +kernel
theorem dX1_giveFrom_113 : decode cX1_giveFrom 113 = .ok (.iaload, 1) := by decide +kernel
theorem dX1_giveFrom_114 : decode cX1_giveFrom 114 = .ok (.iconst 1, 1) := by decide +kernel
theorem dX1_giveFrom_115 : decode cX1_giveFrom 115 = .ok (.iload_n 1, 1) := by decide +kernel
theorem dX1_giveFrom_116 : decode cX1_giveFrom 116 = .ok (.ishl, 1) := by decide +kernel
theorem dX1_giveFrom_117 : decode cX1_giveFrom 117 = .ok (.iconst (-1), 1) := by decide +kernel
theorem dX1_giveFrom_118 : decode cX1_giveFrom 118 = .ok (.ixor, 1) := by decide +kernel
theorem dX1_giveFrom_119 : decode cX1_giveFrom 119 = .ok (.iand, 1) := by decide +kernel
theorem dX1_giveFrom_120 : decode cX1_giveFrom 120 = .ok (.iastore, 1) := by decide +kernel
theorem dX1_giveFrom_121 : decode cX1_giveFrom 121 = .ok (.iload_n 3, 1) := by decide +kernel
theorem dX1_giveFrom_122 : decode cX1_giveFrom 122 = .ok (.ifCond .eq 5, 3) := by decide +kernel
theorem dX1_giveFrom_125 : decode cX1_giveFrom 125 = .ok (.iconst 0, 1) := by decide +kernel
theorem dX1_giveFrom_126 : decode cX1_giveFrom 126 = .ok (.ireturn, 1) := by decide +kernel
theorem dX1_giveFrom_127 : decode cX1_giveFrom 127 = .ok (.iinc 2 1, 3) := by decide +kernel
theorem dX1_giveFrom_130 : decode cX1_giveFrom 130 = .ok (.goto (-93), 3) := by decide +kernel
theorem dX1_giveFrom_133 : decode cX1_giveFrom 133 = .ok (.iconst 0, 1) := by decide +kernel
theorem dX1_giveFrom_134 : decode cX1_giveFrom 134 = .ok (.ireturn, 1) := by decide +kernel
theorem dX2_init_0 : decode cX2_init 0 = .ok (.aload_n 0, 1) := by decide +kernel
theorem dX2_init_1 : decode cX2_init 1 = .ok (.invokespecial 3, 3) := by decide +kernel
theorem dX2_init_4 : decode cX2_init 4 = .ok (.aload_n 0, 1) := by decide +kernel
theorem dX2_init_5 : decode cX2_init 5 = .ok (.bipush 10, 2) := by decide +kernel
theorem dX2_init_7 : decode cX2_init 7 = .ok (.sipush 301, 3) := by decide +kernel
theorem dX2_init_10 : decode cX2_init 10 = .ok (.multianewarray 9 2, 4) := by decide +kernel
theorem dX2_init_14 : decode cX2_init 14 = .ok (.putfield 11, 3) := by decide +kernel
theorem dX2_init_17 : decode cX2_init 17 = .ok (.return_, 1) := by decide +kernel
set_option maxRecDepth 20000 in
theorem ggX2_trace_X6_firstMoveFrom : GoodIn wsX2_trace wsX6_firstMoveFrom := goodIn_r _ [10, 11, 12, 13, 14, 27, 28, 29, 30, 34, 35, 36, 37] (by decide +kernel) (by decide +kernel)
set_option maxRecDepth 20000 in
theorem gX2_trace_X6_firstMoveFrom : GoodIn wsX2_trace (wsV RX2 28 RX6 yX6_firstMoveFrom wsX6_firstMoveFrom) := goodIn_app (goodIn_of _ (by decide +kernel)) ggX2_trace_X6_firstMoveFrom
set_option maxRecDepth 20000 in
theorem ggX2_trace_X4_stepFrom : GoodIn wsX2_trace wsX4_stepFrom := goodIn_r _ [19, 20, 21, 22, 23, 24, 25, 34, 35, 36, 37] (by decide +kernel) (by decide +kernel)
set_option maxRecDepth 20000 in
theorem gX2_trace_X4_stepFrom : GoodIn wsX2_trace (wsV RX2 42 RX4 yX4_stepFrom wsX4_stepFrom) := goodIn_app (goodIn_of _ (by decide +kernel)) ggX2_trace_X4_stepFrom
theorem dX2_trace_0 : decode cX2_trace 0 = .ok (.aload_n 0, 1) := by decide +kernel
theorem dX2_trace_1 : decode cX2_trace 1 = .ok (.getfield 11, 3) := by decide +kernel
theorem dX2_trace_4 : decode cX2_trace 4 = .ok (.iload_n 2, 1) := by decide +kernel
theorem dX2_trace_5 : decode cX2_trace 5 = .ok (.aaload, 1) := by decide +kernel
theorem dX2_trace_6 : decode cX2_trace 6 = .ok (.astore_n 3, 1) := by decide +kernel
theorem dX2_trace_7 : decode cX2_trace 7 = .ok (.aload_n 3, 1) := by decide +kernel
theorem dX2_trace_8 : decode cX2_trace 8 = .ok (.iconst 0, 1) := by decide +kernel
theorem dX2_trace_9 : decode cX2_trace 9 = .ok (.aload_n 1, 1) := by decide +kernel
theorem dX2_trace_10 : decode cX2_trace 10 = .ok (.getfield 16, 3) := by decide +kernel
theorem dX2_trace_13 : decode cX2_trace 13 = .ok (.iload_n 2, 1) := by decide +kernel
theorem dX2_trace_14 : decode cX2_trace 14 = .ok (.aaload, 1) := by decide +kernel
theorem dX2_trace_15 : decode cX2_trace 15 = .ok (.getfield 22, 3) := by decide +kernel
theorem dX2_trace_18 : decode cX2_trace 18 = .ok (.iconst 0, 1) := by decide +kernel
theorem dX2_trace_19 : decode cX2_trace 19 = .ok (.iaload, 1) := by decide +kernel
theorem dX2_trace_20 : decode cX2_trace 20 = .ok (.iastore, 1) := by decide +kernel
theorem dX2_trace_21 : decode cX2_trace 21 = .ok (.iconst (-1), 1) := by decide +kernel
theorem dX2_trace_22 : decode cX2_trace 22 = .ok (.istore 4, 2) := by decide +kernel
theorem dX2_trace_24 : decode cX2_trace 24 = .ok (.aload_n 1, 1) := by decide +kernel
theorem dX2_trace_25 : decode cX2_trace 25 = .ok (.iload_n 2, 1) := by decide +kernel
theorem dX2_trace_26 : decode cX2_trace 26 = .ok (.iconst 0, 1) := by decide +kernel
theorem dX2_trace_27 : decode cX2_trace 27 = .ok (.invokevirtual 28, 3) := by decide +kernel
theorem dX2_trace_30 : decode cX2_trace 30 = .ok (.istore 5, 2) := by decide +kernel
theorem dX2_trace_32 : decode cX2_trace 32 = .ok (.iconst 1, 1) := by decide +kernel
theorem dX2_trace_33 : decode cX2_trace 33 = .ok (.istore 6, 2) := by decide +kernel
theorem dX2_trace_35 : decode cX2_trace 35 = .ok (.iload 6, 2) := by decide +kernel
theorem dX2_trace_37 : decode cX2_trace 37 = .ok (.sipush 300, 3) := by decide +kernel
theorem dX2_trace_40 : decode cX2_trace 40 = .ok (.if_icmp .gt 78, 3) := by decide +kernel
theorem dX2_trace_43 : decode cX2_trace 43 = .ok (.iload 5, 2) := by decide +kernel
theorem dX2_trace_45 : decode cX2_trace 45 = .ok (.ifCond .lt 33, 3) := by decide +kernel
theorem dX2_trace_48 : decode cX2_trace 48 = .ok (.aload_n 1, 1) := by decide +kernel
theorem dX2_trace_49 : decode cX2_trace 49 = .ok (.getfield 32, 3) := by decide +kernel
theorem dX2_trace_52 : decode cX2_trace 52 = .ok (.iload 5, 2) := by decide +kernel
theorem dX2_trace_54 : decode cX2_trace 54 = .ok (.aaload, 1) := by decide +kernel
theorem dX2_trace_55 : decode cX2_trace 55 = .ok (.getfield 36, 3) := by decide +kernel
theorem dX2_trace_58 : decode cX2_trace 58 = .ok (.iload 6, 2) := by decide +kernel
theorem dX2_trace_60 : decode cX2_trace 60 = .ok (.iconst 1, 1) := by decide +kernel
theorem dX2_trace_61 : decode cX2_trace 61 = .ok (.isub, 1) := by decide +kernel
theorem dX2_trace_62 : decode cX2_trace 62 = .ok (.if_icmp .ne 16, 3) := by decide +kernel
theorem dX2_trace_65 : decode cX2_trace 65 = .ok (.iload 5, 2) := by decide +kernel
theorem dX2_trace_67 : decode cX2_trace 67 = .ok (.istore 4, 2) := by decide +kernel
theorem dX2_trace_69 : decode cX2_trace 69 = .ok (.aload_n 1, 1) := by decide +kernel
theorem dX2_trace_70 : decode cX2_trace 70 = .ok (.iload_n 2, 1) := by decide +kernel
theorem dX2_trace_71 : decode cX2_trace 71 = .ok (.iload 6, 2) := by decide +kernel
theorem dX2_trace_73 : decode cX2_trace 73 = .ok (.invokevirtual 28, 3) := by decide +kernel
theorem dX2_trace_76 : decode cX2_trace 76 = .ok (.istore 5, 2) := by decide +kernel
theorem dX2_trace_78 : decode cX2_trace 78 = .ok (.aload_n 3, 1) := by decide +kernel
theorem dX2_trace_79 : decode cX2_trace 79 = .ok (.iload 6, 2) := by decide +kernel
theorem dX2_trace_81 : decode cX2_trace 81 = .ok (.iload 4, 2) := by decide +kernel
theorem dX2_trace_83 : decode cX2_trace 83 = .ok (.ifCond .ge 12, 3) := by decide +kernel
theorem dX2_trace_86 : decode cX2_trace 86 = .ok (.aload_n 3, 1) := by decide +kernel
theorem dX2_trace_87 : decode cX2_trace 87 = .ok (.iload 6, 2) := by decide +kernel
theorem dX2_trace_89 : decode cX2_trace 89 = .ok (.iconst 1, 1) := by decide +kernel
theorem dX2_trace_90 : decode cX2_trace 90 = .ok (.isub, 1) := by decide +kernel
theorem dX2_trace_91 : decode cX2_trace 91 = .ok (.iaload, 1) := by decide +kernel
theorem dX2_trace_92 : decode cX2_trace 92 = .ok (.goto 19, 3) := by decide +kernel
theorem dX2_trace_95 : decode cX2_trace 95 = .ok (.aload_n 1, 1) := by decide +kernel
theorem dX2_trace_96 : decode cX2_trace 96 = .ok (.getfield 32, 3) := by decide +kernel
theorem dX2_trace_99 : decode cX2_trace 99 = .ok (.iload 4, 2) := by decide +kernel
theorem dX2_trace_101 : decode cX2_trace 101 = .ok (.aaload, 1) := by decide +kernel
theorem dX2_trace_102 : decode cX2_trace 102 = .ok (.aload_n 3, 1) := by decide +kernel
theorem dX2_trace_103 : decode cX2_trace 103 = .ok (.iload 6, 2) := by decide +kernel
theorem dX2_trace_105 : decode cX2_trace 105 = .ok (.iconst 1, 1) := by decide +kernel
theorem dX2_trace_106 : decode cX2_trace 106 = .ok (.isub, 1) := by decide +kernel
theorem dX2_trace_107 : decode cX2_trace 107 = .ok (.iaload, 1) := by decide +kernel
theorem dX2_trace_108 : decode cX2_trace 108 = .ok (.invokevirtual 42, 3) := by decide +kernel
theorem dX2_trace_111 : decode cX2_trace 111 = .ok (.iastore, 1) := by decide +kernel
theorem dX2_trace_112 : decode cX2_trace 112 = .ok (.iinc 6 1, 3) := by decide +kernel
theorem dX2_trace_115 : decode cX2_trace 115 = .ok (.goto (-80), 3) := by decide +kernel
theorem dX2_trace_118 : decode cX2_trace 118 = .ok (.return_, 1) := by decide +kernel
set_option maxRecDepth 20000 in
theorem ggX2_traceAll_X2_trace : GoodIn wsX2_traceAll wsX2_trace := goodIn_r _ [5, 6, 7, 8, 9, 10, 11, 12, 13, 14, 15, 16, 17, 18, 19, 20, 21, 22, 23, 24, 25, 26, 27, 28, 29, 30, 31, 32, 33, 34, 35, 36, 37, 38, 39, 40, 41, 42] (by decide +kernel) (by decide +kernel)
set_option maxRecDepth 20000 in
theorem gX2_traceAll_X2_trace : GoodIn wsX2_traceAll (wsV RX2 46 RX2 yX2_trace wsX2_trace) := goodIn_app (goodIn_of _ (by decide +kernel)) ggX2_traceAll_X2_trace
theorem dX2_traceAll_0 : decode cX2_traceAll 0 = .ok (.iconst 0, 1) := by decide +kernel
theorem dX2_traceAll_1 : decode cX2_traceAll 1 = .ok (.istore_n 2, 1) := by decide +kernel
theorem dX2_traceAll_2 : decode cX2_traceAll 2 = .ok (.iload_n 2, 1) := by decide +kernel
theorem dX2_traceAll_3 : decode cX2_traceAll 3 = .ok (.bipush 10, 2) := by decide +kernel
theorem dX2_traceAll_5 : decode cX2_traceAll 5 = .ok (.if_icmp .ge 15, 3) := by decide +kernel
theorem dX2_traceAll_8 : decode cX2_traceAll 8 = .ok (.aload_n 0, 1) := by decide +kernel
theorem dX2_traceAll_9 : decode cX2_traceAll 9 = .ok (.aload_n 1, 1) := by decide +kernel
theorem dX2_traceAll_10 : decode cX2_traceAll 10 = .ok (.iload_n 2, 1) := by decide +kernel
theorem dX2_traceAll_11 : decode cX2_traceAll 11 = .ok (.invokevirtual 46, 3) := by decide +kernel
theorem dX2_traceAll_14 : decode cX2_traceAll 14 = .ok (.iinc 2 1, 3) := by decide +kernel
theorem dX2_traceAll_17 : decode cX2_traceAll 17 = .ok (.goto (-15), 3) := by decide +kernel
theorem dX2_traceAll_20 : decode cX2_traceAll 20 = .ok (.return_, 1) := by decide +kernel
set_option maxRecDepth 20000 in
theorem ggX2_endOf_X6_firstMoveFrom : GoodIn wsX2_endOf wsX6_firstMoveFrom := goodIn_r _ [10, 11, 12, 13, 14, 15, 16, 17, 18, 19, 20, 21, 22] (by decide +kernel) (by decide +kernel)
set_option maxRecDepth 20000 in
theorem gX2_endOf_X6_firstMoveFrom : GoodIn wsX2_endOf (wsV RX2 28 RX6 yX6_firstMoveFrom wsX6_firstMoveFrom) := goodIn_app (goodIn_of _ (by decide +kernel)) ggX2_endOf_X6_firstMoveFrom
theorem dX2_endOf_0 : decode cX2_endOf 0 = .ok (.aload_n 1, 1) := by decide +kernel
theorem dX2_endOf_1 : decode cX2_endOf 1 = .ok (.getfield 32, 3) := by decide +kernel
theorem dX2_endOf_4 : decode cX2_endOf 4 = .ok (.iload_n 2, 1) := by decide +kernel
theorem dX2_endOf_5 : decode cX2_endOf 5 = .ok (.aaload, 1) := by decide +kernel
theorem dX2_endOf_6 : decode cX2_endOf 6 = .ok (.astore_n 3, 1) := by decide +kernel
theorem dX2_endOf_7 : decode cX2_endOf 7 = .ok (.aload_n 1, 1) := by decide +kernel
theorem dX2_endOf_8 : decode cX2_endOf 8 = .ok (.aload_n 3, 1) := by decide +kernel
theorem dX2_endOf_9 : decode cX2_endOf 9 = .ok (.getfield 50, 3) := by decide +kernel
theorem dX2_endOf_12 : decode cX2_endOf 12 = .ok (.aload_n 3, 1) := by decide +kernel
theorem dX2_endOf_13 : decode cX2_endOf 13 = .ok (.getfield 36, 3) := by decide +kernel
theorem dX2_endOf_16 : decode cX2_endOf 16 = .ok (.iconst 1, 1) := by decide +kernel
theorem dX2_endOf_17 : decode cX2_endOf 17 = .ok (.iadd, 1) := by decide +kernel
theorem dX2_endOf_18 : decode cX2_endOf 18 = .ok (.invokevirtual 28, 3) := by decide +kernel
theorem dX2_endOf_21 : decode cX2_endOf 21 = .ok (.istore 4, 2) := by decide +kernel
theorem dX2_endOf_23 : decode cX2_endOf 23 = .ok (.iload 4, 2) := by decide +kernel
theorem dX2_endOf_25 : decode cX2_endOf 25 = .ok (.ifCond .ge 9, 3) := by decide +kernel
theorem dX2_endOf_28 : decode cX2_endOf 28 = .ok (.sipush 300, 3) := by decide +kernel
theorem dX2_endOf_31 : decode cX2_endOf 31 = .ok (.goto 13, 3) := by decide +kernel
theorem dX2_endOf_34 : decode cX2_endOf 34 = .ok (.aload_n 1, 1) := by decide +kernel
theorem dX2_endOf_35 : decode cX2_endOf 35 = .ok (.getfield 32, 3) := by decide +kernel
theorem dX2_endOf_38 : decode cX2_endOf 38 = .ok (.iload 4, 2) := by decide +kernel
theorem dX2_endOf_40 : decode cX2_endOf 40 = .ok (.aaload, 1) := by decide +kernel
theorem dX2_endOf_41 : decode cX2_endOf 41 = .ok (.getfield 36, 3) := by decide +kernel
theorem dX2_endOf_44 : decode cX2_endOf 44 = .ok (.istore 5, 2) := by decide +kernel
theorem dX2_endOf_46 : decode cX2_endOf 46 = .ok (.aload_n 3, 1) := by decide +kernel
theorem dX2_endOf_47 : decode cX2_endOf 47 = .ok (.getfield 36, 3) := by decide +kernel
theorem dX2_endOf_50 : decode cX2_endOf 50 = .ok (.istore 6, 2) := by decide +kernel
theorem dX2_endOf_52 : decode cX2_endOf 52 = .ok (.iload 6, 2) := by decide +kernel
theorem dX2_endOf_54 : decode cX2_endOf 54 = .ok (.iload 5, 2) := by decide +kernel
theorem dX2_endOf_56 : decode cX2_endOf 56 = .ok (.if_icmp .ge 28, 3) := by decide +kernel
theorem dX2_endOf_59 : decode cX2_endOf 59 = .ok (.aload_n 0, 1) := by decide +kernel
theorem dX2_endOf_60 : decode cX2_endOf 60 = .ok (.getfield 11, 3) := by decide +kernel
theorem dX2_endOf_63 : decode cX2_endOf 63 = .ok (.aload_n 3, 1) := by decide +kernel
theorem dX2_endOf_64 : decode cX2_endOf 64 = .ok (.getfield 50, 3) := by decide +kernel
theorem dX2_endOf_67 : decode cX2_endOf 67 = .ok (.aaload, 1) := by decide +kernel
theorem dX2_endOf_68 : decode cX2_endOf 68 = .ok (.iload 6, 2) := by decide +kernel
theorem dX2_endOf_70 : decode cX2_endOf 70 = .ok (.iaload, 1) := by decide +kernel
theorem dX2_endOf_71 : decode cX2_endOf 71 = .ok (.aload_n 3, 1) := by decide +kernel
theorem dX2_endOf_72 : decode cX2_endOf 72 = .ok (.getfield 53, 3) := by decide +kernel
theorem dX2_endOf_75 : decode cX2_endOf 75 = .ok (.if_icmp .eq 9, 3) := by decide +kernel
theorem dX2_endOf_78 : decode cX2_endOf 78 = .ok (.iinc 6 1, 3) := by decide +kernel
theorem dX2_endOf_81 : decode cX2_endOf 81 = .ok (.goto (-29), 3) := by decide +kernel
theorem dX2_endOf_84 : decode cX2_endOf 84 = .ok (.iload 6, 2) := by decide +kernel
theorem dX2_endOf_86 : decode cX2_endOf 86 = .ok (.ireturn, 1) := by decide +kernel
set_option maxRecDepth 20000 in
theorem ggX2_canStrike_X6_areNear : GoodIn wsX2_canStrike wsX6_areNear := goodIn_r _ [7, 8, 9, 10, 11, 12, 13, 14, 15, 16, 17, 18, 19, 20] (by decide +kernel) (by decide +kernel)
set_option maxRecDepth 20000 in
theorem gX2_canStrike_X6_areNear : GoodIn wsX2_canStrike (wsV RX2 56 RX6 yX6_areNear wsX6_areNear) := goodIn_app (goodIn_of _ (by decide +kernel)) ggX2_canStrike_X6_areNear
theorem dX2_canStrike_0 : decode cX2_canStrike 0 = .ok (.aload_n 1, 1) := by decide +kernel
theorem dX2_canStrike_1 : decode cX2_canStrike 1 = .ok (.getfield 16, 3) := by decide +kernel
theorem dX2_canStrike_4 : decode cX2_canStrike 4 = .ok (.iload_n 2, 1) := by decide +kernel
theorem dX2_canStrike_5 : decode cX2_canStrike 5 = .ok (.aaload, 1) := by decide +kernel
theorem dX2_canStrike_6 : decode cX2_canStrike 6 = .ok (.getfield 22, 3) := by decide +kernel
theorem dX2_canStrike_9 : decode cX2_canStrike 9 = .ok (.iconst 1, 1) := by decide +kernel
theorem dX2_canStrike_10 : decode cX2_canStrike 10 = .ok (.iaload, 1) := by decide +kernel
theorem dX2_canStrike_11 : decode cX2_canStrike 11 = .ok (.ifCond .le 21, 3) := by decide +kernel
theorem dX2_canStrike_14 : decode cX2_canStrike 14 = .ok (.aload_n 1, 1) := by decide +kernel
theorem dX2_canStrike_15 : decode cX2_canStrike 15 = .ok (.getfield 16, 3) := by decide +kernel
theorem dX2_canStrike_18 : decode cX2_canStrike 18 = .ok (.iload_n 3, 1) := by decide +kernel
theorem dX2_canStrike_19 : decode cX2_canStrike 19 = .ok (.aaload, 1) := by decide +kernel
theorem dX2_canStrike_20 : decode cX2_canStrike 20 = .ok (.getfield 22, 3) := by decide +kernel
theorem dX2_canStrike_23 : decode cX2_canStrike 23 = .ok (.iconst 1, 1) := by decide +kernel
theorem dX2_canStrike_24 : decode cX2_canStrike 24 = .ok (.iaload, 1) := by decide +kernel
theorem dX2_canStrike_25 : decode cX2_canStrike 25 = .ok (.ifCond .le 7, 3) := by decide +kernel
theorem dX2_canStrike_28 : decode cX2_canStrike 28 = .ok (.iconst 1, 1) := by decide +kernel
theorem dX2_canStrike_29 : decode cX2_canStrike 29 = .ok (.goto 4, 3) := by decide +kernel
theorem dX2_canStrike_32 : decode cX2_canStrike 32 = .ok (.iconst 0, 1) := by decide +kernel
theorem dX2_canStrike_33 : decode cX2_canStrike 33 = .ok (.istore 4, 2) := by decide +kernel
theorem dX2_canStrike_35 : decode cX2_canStrike 35 = .ok (.iload 4, 2) := by decide +kernel
theorem dX2_canStrike_37 : decode cX2_canStrike 37 = .ok (.ifCond .eq 16, 3) := by decide +kernel
theorem dX2_canStrike_40 : decode cX2_canStrike 40 = .ok (.aload_n 1, 1) := by decide +kernel
theorem dX2_canStrike_41 : decode cX2_canStrike 41 = .ok (.iload_n 2, 1) := by decide +kernel
theorem dX2_canStrike_42 : decode cX2_canStrike 42 = .ok (.iload_n 3, 1) := by decide +kernel
theorem dX2_canStrike_43 : decode cX2_canStrike 43 = .ok (.invokevirtual 56, 3) := by decide +kernel
theorem dX2_canStrike_46 : decode cX2_canStrike 46 = .ok (.ifCond .eq 7, 3) := by decide +kernel
theorem dX2_canStrike_49 : decode cX2_canStrike 49 = .ok (.iconst 1, 1) := by decide +kernel
theorem dX2_canStrike_50 : decode cX2_canStrike 50 = .ok (.goto 4, 3) := by decide +kernel
theorem dX2_canStrike_53 : decode cX2_canStrike 53 = .ok (.iconst 0, 1) := by decide +kernel
theorem dX2_canStrike_54 : decode cX2_canStrike 54 = .ok (.ireturn, 1) := by decide +kernel
theorem dX2_overlap_0 : decode cX2_overlap 0 = .ok (.aload_n 0, 1) := by decide +kernel
theorem dX2_overlap_1 : decode cX2_overlap 1 = .ok (.getfield 11, 3) := by decide +kernel
theorem dX2_overlap_4 : decode cX2_overlap 4 = .ok (.iload_n 2, 1) := by decide +kernel
theorem dX2_overlap_5 : decode cX2_overlap 5 = .ok (.aaload, 1) := by decide +kernel
theorem dX2_overlap_6 : decode cX2_overlap 6 = .ok (.iload 4, 2) := by decide +kernel
theorem dX2_overlap_8 : decode cX2_overlap 8 = .ok (.iaload, 1) := by decide +kernel
theorem dX2_overlap_9 : decode cX2_overlap 9 = .ok (.istore 5, 2) := by decide +kernel
theorem dX2_overlap_11 : decode cX2_overlap 11 = .ok (.aload_n 0, 1) := by decide +kernel
theorem dX2_overlap_12 : decode cX2_overlap 12 = .ok (.getfield 11, 3) := by decide +kernel
theorem dX2_overlap_15 : decode cX2_overlap 15 = .ok (.iload_n 3, 1) := by decide +kernel
theorem dX2_overlap_16 : decode cX2_overlap 16 = .ok (.aaload, 1) := by decide +kernel
theorem dX2_overlap_17 : decode cX2_overlap 17 = .ok (.iload 4, 2) := by decide +kernel
theorem dX2_overlap_19 : decode cX2_overlap 19 = .ok (.iaload, 1) := by decide +kernel
theorem dX2_overlap_20 : decode cX2_overlap 20 = .ok (.istore 6, 2) := by decide +kernel
theorem dX2_overlap_22 : decode cX2_overlap 22 = .ok (.iload 5, 2) := by decide +kernel
theorem dX2_overlap_24 : decode cX2_overlap 24 = .ok (.aload_n 1, 1) := by decide +kernel
theorem dX2_overlap_25 : decode cX2_overlap 25 = .ok (.getfield 16, 3) := by decide +kernel
theorem dX2_overlap_28 : decode cX2_overlap 28 = .ok (.iload_n 2, 1) := by decide +kernel
theorem dX2_overlap_29 : decode cX2_overlap 29 = .ok (.aaload, 1) := by decide +kernel
theorem dX2_overlap_30 : decode cX2_overlap 30 = .ok (.getfield 22, 3) := by decide +kernel
theorem dX2_overlap_33 : decode cX2_overlap 33 = .ok (.iconst 1, 1) := by decide +kernel
theorem dX2_overlap_34 : decode cX2_overlap 34 = .ok (.iaload, 1) := by decide +kernel
theorem dX2_overlap_35 : decode cX2_overlap 35 = .ok (.isub, 1) := by decide +kernel
theorem dX2_overlap_36 : decode cX2_overlap 36 = .ok (.istore 7, 2) := by decide +kernel
theorem dX2_overlap_38 : decode cX2_overlap 38 = .ok (.iload 6, 2) := by decide +kernel
theorem dX2_overlap_40 : decode cX2_overlap 40 = .ok (.aload_n 1, 1) := by decide +kernel
theorem dX2_overlap_41 : decode cX2_overlap 41 = .ok (.getfield 16, 3) := by decide +kernel
theorem dX2_overlap_44 : decode cX2_overlap 44 = .ok (.iload_n 3, 1) := by decide +kernel
theorem dX2_overlap_45 : decode cX2_overlap 45 = .ok (.aaload, 1) := by decide +kernel
theorem dX2_overlap_46 : decode cX2_overlap 46 = .ok (.getfield 22, 3) := by decide +kernel
theorem dX2_overlap_49 : decode cX2_overlap 49 = .ok (.iconst 1, 1) := by decide +kernel
theorem dX2_overlap_50 : decode cX2_overlap 50 = .ok (.iaload, 1) := by decide +kernel
theorem dX2_overlap_51 : decode cX2_overlap 51 = .ok (.isub, 1) := by decide +kernel
theorem dX2_overlap_52 : decode cX2_overlap 52 = .ok (.istore 8, 2) := by decide +kernel
theorem dX2_overlap_54 : decode cX2_overlap 54 = .ok (.iload 7, 2) := by decide +kernel
theorem dX2_overlap_56 : decode cX2_overlap 56 = .ok (.iload 8, 2) := by decide +kernel
theorem dX2_overlap_58 : decode cX2_overlap 58 = .ok (.invokestatic 60, 3) := by decide +kernel
theorem dX2_overlap_61 : decode cX2_overlap 61 = .ok (.iload 5, 2) := by decide +kernel
theorem dX2_overlap_63 : decode cX2_overlap 63 = .ok (.iload 6, 2) := by decide +kernel
theorem dX2_overlap_65 : decode cX2_overlap 65 = .ok (.invokestatic 65, 3) := by decide +kernel
theorem dX2_overlap_68 : decode cX2_overlap 68 = .ok (.if_icmp .ge 7, 3) := by decide +kernel
theorem dX2_overlap_71 : decode cX2_overlap 71 = .ok (.iconst 1, 1) := by decide +kernel
theorem dX2_overlap_72 : decode cX2_overlap 72 = .ok (.goto 4, 3) := by decide +kernel
theorem dX2_overlap_75 : decode cX2_overlap 75 = .ok (.iconst 0, 1) := by decide +kernel
theorem dX2_overlap_76 : decode cX2_overlap 76 = .ok (.ireturn, 1) := by decide +kernel
set_option maxRecDepth 20000 in
theorem ggX2_firstStrike_X2_canStrike : GoodIn wsX2_firstStrike wsX2_canStrike := goodIn_r _ [5, 6, 7, 8, 9, 10, 11, 12, 13, 14, 15, 16, 17, 18, 30, 31, 32, 33, 34, 35, 36] (by decide +kernel) (by decide +kernel)
set_option maxRecDepth 20000 in
theorem gX2_firstStrike_X2_canStrike : GoodIn wsX2_firstStrike (wsV RX2 68 RX2 yX2_canStrike wsX2_canStrike) := goodIn_app (goodIn_of _ (by decide +kernel)) ggX2_firstStrike_X2_canStrike
set_option maxRecDepth 20000 in
theorem ggX2_firstStrike_X2_overlap : GoodIn wsX2_firstStrike wsX2_overlap := goodIn_r _ [22, 23, 6, 7, 24, 25, 15, 26, 27, 28, 29, 37, 30, 31, 32, 33, 34, 35, 36] (by decide +kernel) (by decide +kernel)
set_option maxRecDepth 20000 in
theorem gX2_firstStrike_X2_overlap : GoodIn wsX2_firstStrike (wsV RX2 72 RX2 yX2_overlap wsX2_overlap) := goodIn_app (goodIn_of _ (by decide +kernel)) ggX2_firstStrike_X2_overlap
theorem dX2_firstStrike_0 : decode cX2_firstStrike 0 = .ok (.aload_n 0, 1) := by decide +kernel
theorem dX2_firstStrike_1 : decode cX2_firstStrike 1 = .ok (.aload_n 1, 1) := by decide +kernel
theorem dX2_firstStrike_2 : decode cX2_firstStrike 2 = .ok (.iload_n 2, 1) := by decide +kernel
theorem dX2_firstStrike_3 : decode cX2_firstStrike 3 = .ok (.iload_n 3, 1) := by decide +kernel
theorem dX2_firstStrike_4 : decode cX2_firstStrike 4 = .ok (.invokevirtual 68, 3) := by decide +kernel
theorem dX2_firstStrike_7 : decode cX2_firstStrike 7 = .ok (.ifCond .ne 6, 3) := by decide +kernel
theorem dX2_firstStrike_10 : decode cX2_firstStrike 10 = .ok (.iload 5, 2) := by decide +kernel
theorem dX2_firstStrike_12 : decode cX2_firstStrike 12 = .ok (.ireturn, 1) := by decide +kernel
theorem dX2_firstStrike_13 : decode cX2_firstStrike 13 = .ok (.iload 4, 2) := by decide +kernel
theorem dX2_firstStrike_15 : decode cX2_firstStrike 15 = .ok (.istore 6, 2) := by decide +kernel
theorem dX2_firstStrike_17 : decode cX2_firstStrike 17 = .ok (.iload 6, 2) := by decide +kernel
theorem dX2_firstStrike_19 : decode cX2_firstStrike 19 = .ok (.iload 5, 2) := by decide +kernel
theorem dX2_firstStrike_21 : decode cX2_firstStrike 21 = .ok (.if_icmp .ge 24, 3) := by decide +kernel
theorem dX2_firstStrike_24 : decode cX2_firstStrike 24 = .ok (.aload_n 0, 1) := by decide +kernel
theorem dX2_firstStrike_25 : decode cX2_firstStrike 25 = .ok (.aload_n 1, 1) := by decide +kernel
theorem dX2_firstStrike_26 : decode cX2_firstStrike 26 = .ok (.iload_n 2, 1) := by decide +kernel
theorem dX2_firstStrike_27 : decode cX2_firstStrike 27 = .ok (.iload_n 3, 1) := by decide +kernel
theorem dX2_firstStrike_28 : decode cX2_firstStrike 28 = .ok (.iload 6, 2) := by decide +kernel
theorem dX2_firstStrike_30 : decode cX2_firstStrike 30 = .ok (.invokevirtual 72, 3) := by decide +kernel
theorem dX2_firstStrike_33 : decode cX2_firstStrike 33 = .ok (.ifCond .eq 6, 3) := by decide +kernel
theorem dX2_firstStrike_36 : decode cX2_firstStrike 36 = .ok (.iload 6, 2) := by decide +kernel
theorem dX2_firstStrike_38 : decode cX2_firstStrike 38 = .ok (.ireturn, 1) := by decide +kernel
theorem dX2_firstStrike_39 : decode cX2_firstStrike 39 = .ok (.iinc 6 1, 3) := by decide +kernel
theorem dX2_firstStrike_42 : decode cX2_firstStrike 42 = .ok (.goto (-25), 3) := by decide +kernel
theorem dX2_firstStrike_45 : decode cX2_firstStrike 45 = .ok (.iload 5, 2) := by decide +kernel
theorem dX2_firstStrike_47 : decode cX2_firstStrike 47 = .ok (.ireturn, 1) := by decide +kernel
set_option maxRecDepth 20000 in
theorem ggX2_strikesOf_X2_canStrike : GoodIn wsX2_strikesOf wsX2_canStrike := goodIn_r _ [5, 6, 7, 8, 9, 10, 11, 12, 13, 14, 15, 16, 17, 18, 30, 31, 32, 33, 34, 35, 36] (by decide +kernel) (by decide +kernel)
set_option maxRecDepth 20000 in
theorem gX2_strikesOf_X2_canStrike : GoodIn wsX2_strikesOf (wsV RX2 68 RX2 yX2_canStrike wsX2_canStrike) := goodIn_app (goodIn_of _ (by decide +kernel)) ggX2_strikesOf_X2_canStrike
set_option maxRecDepth 20000 in
theorem ggX2_strikesOf_X2_overlap : GoodIn wsX2_strikesOf wsX2_overlap := goodIn_r _ [22, 23, 6, 7, 24, 25, 15, 26, 27, 28, 29, 37, 30, 31, 32, 33, 34, 35, 36] (by decide +kernel) (by decide +kernel)
set_option maxRecDepth 20000 in
theorem gX2_strikesOf_X2_overlap : GoodIn wsX2_strikesOf (wsV RX2 72 RX2 yX2_overlap wsX2_overlap) := goodIn_app (goodIn_of _ (by decide +kernel)) ggX2_strikesOf_X2_overlap
theorem dX2_strikesOf_0 : decode cX2_strikesOf 0 = .ok (.aload_n 0, 1) := by decide +kernel
theorem dX2_strikesOf_1 : decode cX2_strikesOf 1 = .ok (.aload_n 1, 1) := by decide +kernel
theorem dX2_strikesOf_2 : decode cX2_strikesOf 2 = .ok (.iload_n 2, 1) := by decide +kernel
theorem dX2_strikesOf_3 : decode cX2_strikesOf 3 = .ok (.iload_n 3, 1) := by decide +kernel
theorem dX2_strikesOf_4 : decode cX2_strikesOf 4 = .ok (.invokevirtual 68, 3) := by decide +kernel
theorem dX2_strikesOf_7 : decode cX2_strikesOf 7 = .ok (.ifCond .ne 5, 3) := by decide +kernel
theorem dX2_strikesOf_10 : decode cX2_strikesOf 10 = .ok (.iconst 0, 1) := by decide +kernel
theorem dX2_strikesOf_11 : decode cX2_strikesOf 11 = .ok (.ireturn, 1) := by decide +kernel
theorem dX2_strikesOf_12 : decode cX2_strikesOf 12 = .ok (.iconst 0, 1) := by decide +kernel
theorem dX2_strikesOf_13 : decode cX2_strikesOf 13 = .ok (.istore 4, 2) := by decide +kernel
theorem dX2_strikesOf_15 : decode cX2_strikesOf 15 = .ok (.iconst 0, 1) := by decide +kernel
theorem dX2_strikesOf_16 : decode cX2_strikesOf 16 = .ok (.istore 5, 2) := by decide +kernel
theorem dX2_strikesOf_18 : decode cX2_strikesOf 18 = .ok (.iload 5, 2) := by decide +kernel
theorem dX2_strikesOf_20 : decode cX2_strikesOf 20 = .ok (.sipush 300, 3) := by decide +kernel
theorem dX2_strikesOf_23 : decode cX2_strikesOf 23 = .ok (.if_icmp .gt 24, 3) := by decide +kernel
theorem dX2_strikesOf_26 : decode cX2_strikesOf 26 = .ok (.aload_n 0, 1) := by decide +kernel
theorem dX2_strikesOf_27 : decode cX2_strikesOf 27 = .ok (.aload_n 1, 1) := by decide +kernel
theorem dX2_strikesOf_28 : decode cX2_strikesOf 28 = .ok (.iload_n 2, 1) := by decide +kernel
theorem dX2_strikesOf_29 : decode cX2_strikesOf 29 = .ok (.iload_n 3, 1) := by decide +kernel
theorem dX2_strikesOf_30 : decode cX2_strikesOf 30 = .ok (.iload 5, 2) := by decide +kernel
theorem dX2_strikesOf_32 : decode cX2_strikesOf 32 = .ok (.invokevirtual 72, 3) := by decide +kernel
theorem dX2_strikesOf_35 : decode cX2_strikesOf 35 = .ok (.ifCond .eq 6, 3) := by decide +kernel
theorem dX2_strikesOf_38 : decode cX2_strikesOf 38 = .ok (.iinc 4 1, 3) := by decide +kernel
theorem dX2_strikesOf_41 : decode cX2_strikesOf 41 = .ok (.iinc 5 1, 3) := by decide +kernel
theorem dX2_strikesOf_44 : decode cX2_strikesOf 44 = .ok (.goto (-26), 3) := by decide +kernel
theorem dX2_strikesOf_47 : decode cX2_strikesOf 47 = .ok (.iload 4, 2) := by decide +kernel
theorem dX2_strikesOf_49 : decode cX2_strikesOf 49 = .ok (.ireturn, 1) := by decide +kernel
theorem dX3_init_0 : decode cX3_init 0 = .ok (.aload_n 0, 1) := by decide +kernel
theorem dX3_init_1 : decode cX3_init 1 = .ok (.invokespecial 3, 3) := by decide +kernel
theorem dX3_init_4 : decode cX3_init 4 = .ok (.aload_n 0, 1) := by decide +kernel
theorem dX3_init_5 : decode cX3_init 5 = .ok (.bipush 64, 2) := by decide +kernel
theorem dX3_init_7 : decode cX3_init 7 = .ok (.newarray .int, 2) := by decide +kernel
theorem dX3_init_9 : decode cX3_init 9 = .ok (.putfield 9, 3) := by decide +kernel
theorem dX3_init_12 : decode cX3_init 12 = .ok (.aload_n 0, 1) := by decide +kernel
theorem dX3_init_13 : decode cX3_init 13 = .ok (.bipush 64, 2) := by decide +kernel
theorem dX3_init_15 : decode cX3_init 15 = .ok (.newarray .int, 2) := by decide +kernel
theorem dX3_init_17 : decode cX3_init 17 = .ok (.putfield 15, 3) := by decide +kernel
theorem dX3_init_20 : decode cX3_init 20 = .ok (.aload_n 0, 1) := by decide +kernel
theorem dX3_init_21 : decode cX3_init 21 = .ok (.sipush 4096, 3) := by decide +kernel
theorem dX3_init_24 : decode cX3_init 24 = .ok (.newarray .int, 2) := by decide +kernel
theorem dX3_init_26 : decode cX3_init 26 = .ok (.putfield 18, 3) := by decide +kernel
theorem dX3_init_29 : decode cX3_init 29 = .ok (.aload_n 0, 1) := by decide +kernel
theorem dX3_init_30 : decode cX3_init 30 = .ok (.iconst 0, 1) := by decide +kernel
theorem dX3_init_31 : decode cX3_init 31 = .ok (.putfield 21, 3) := by decide +kernel
theorem dX3_init_34 : decode cX3_init 34 = .ok (.aload_n 0, 1) := by decide +kernel
theorem dX3_init_35 : decode cX3_init 35 = .ok (.iconst 0, 1) := by decide +kernel
theorem dX3_init_36 : decode cX3_init 36 = .ok (.putfield 25, 3) := by decide +kernel
theorem dX3_init_39 : decode cX3_init 39 = .ok (.return_, 1) := by decide +kernel
set_option maxRecDepth 20000 in
theorem ggX3_reckon_X3_fillSums : GoodIn wsX3_reckon wsX3_fillSums := goodIn_r _ [16, 2, 17, 28, 29] (by decide +kernel) (by decide +kernel)
set_option maxRecDepth 20000 in
theorem gX3_reckon_X3_fillSums : GoodIn wsX3_reckon (va_wsS RX3 42 yX3_fillSums wsX3_fillSums) := goodIn_app (goodIn_of _ (by decide +kernel)) ggX3_reckon_X3_fillSums
set_option maxRecDepth 20000 in
theorem ggX3_reckon_X3_indexOf : GoodIn wsX3_reckon wsX3_indexOf := goodIn_r _ [20] (by decide +kernel) (by decide +kernel)
set_option maxRecDepth 20000 in
theorem gX3_reckon_X3_indexOf : GoodIn wsX3_reckon (va_wsS RX3 52 yX3_indexOf wsX3_indexOf) := goodIn_app (goodIn_of _ (by decide +kernel)) ggX3_reckon_X3_indexOf
set_option maxRecDepth 20000 in
theorem ggX3_reckon_X3_ordersBehind : GoodIn wsX3_reckon wsX3_ordersBehind := goodIn_r _ [24, 3, 5, 12, 18, 19, 15, 20, 30, 31, 32, 33, 34] (by decide +kernel) (by decide +kernel)
set_option maxRecDepth 20000 in
theorem gX3_reckon_X3_ordersBehind : GoodIn wsX3_reckon (wsV RX3 56 RX3 yX3_ordersBehind wsX3_ordersBehind) := goodIn_app (goodIn_of _ (by decide +kernel)) ggX3_reckon_X3_ordersBehind
theorem dX3_reckon_0 : decode cX3_reckon 0 = .ok (.aload_n 0, 1) := by decide +kernel
theorem dX3_reckon_1 : decode cX3_reckon 1 = .ok (.aload_n 1, 1) := by decide +kernel
theorem dX3_reckon_2 : decode cX3_reckon 2 = .ok (.getfield 28, 3) := by decide +kernel
theorem dX3_reckon_5 : decode cX3_reckon 5 = .ok (.getfield 34, 3) := by decide +kernel
theorem dX3_reckon_8 : decode cX3_reckon 8 = .ok (.putfield 21, 3) := by decide +kernel
theorem dX3_reckon_11 : decode cX3_reckon 11 = .ok (.aload_n 0, 1) := by decide +kernel
theorem dX3_reckon_12 : decode cX3_reckon 12 = .ok (.aload_n 1, 1) := by decide +kernel
theorem dX3_reckon_13 : decode cX3_reckon 13 = .ok (.getfield 39, 3) := by decide +kernel
theorem dX3_reckon_16 : decode cX3_reckon 16 = .ok (.getfield 34, 3) := by decide +kernel
theorem dX3_reckon_19 : decode cX3_reckon 19 = .ok (.putfield 25, 3) := by decide +kernel
theorem dX3_reckon_22 : decode cX3_reckon 22 = .ok (.aload_n 1, 1) := by decide +kernel
theorem dX3_reckon_23 : decode cX3_reckon 23 = .ok (.getfield 28, 3) := by decide +kernel
theorem dX3_reckon_26 : decode cX3_reckon 26 = .ok (.aload_n 0, 1) := by decide +kernel
theorem dX3_reckon_27 : decode cX3_reckon 27 = .ok (.getfield 9, 3) := by decide +kernel
theorem dX3_reckon_30 : decode cX3_reckon 30 = .ok (.invokestatic 42, 3) := by decide +kernel
theorem dX3_reckon_33 : decode cX3_reckon 33 = .ok (.aload_n 1, 1) := by decide +kernel
theorem dX3_reckon_34 : decode cX3_reckon 34 = .ok (.getfield 39, 3) := by decide +kernel
theorem dX3_reckon_37 : decode cX3_reckon 37 = .ok (.aload_n 0, 1) := by decide +kernel
theorem dX3_reckon_38 : decode cX3_reckon 38 = .ok (.getfield 15, 3) := by decide +kernel
theorem dX3_reckon_41 : decode cX3_reckon 41 = .ok (.invokestatic 42, 3) := by decide +kernel
theorem dX3_reckon_44 : decode cX3_reckon 44 = .ok (.iconst 1, 1) := by decide +kernel
theorem dX3_reckon_45 : decode cX3_reckon 45 = .ok (.aload_n 0, 1) := by decide +kernel
theorem dX3_reckon_46 : decode cX3_reckon 46 = .ok (.getfield 25, 3) := by decide +kernel
theorem dX3_reckon_49 : decode cX3_reckon 49 = .ok (.ishl, 1) := by decide +kernel
theorem dX3_reckon_50 : decode cX3_reckon 50 = .ok (.iconst 1, 1) := by decide +kernel
theorem dX3_reckon_51 : decode cX3_reckon 51 = .ok (.isub, 1) := by decide +kernel
theorem dX3_reckon_52 : decode cX3_reckon 52 = .ok (.istore_n 3, 1) := by decide +kernel
theorem dX3_reckon_53 : decode cX3_reckon 53 = .ok (.iload_n 3, 1) := by decide +kernel
theorem dX3_reckon_54 : decode cX3_reckon 54 = .ok (.ifCond .lt 85, 3) := by decide +kernel
theorem dX3_reckon_57 : decode cX3_reckon 57 = .ok (.iconst 1, 1) := by decide +kernel
theorem dX3_reckon_58 : decode cX3_reckon 58 = .ok (.aload_n 0, 1) := by decide +kernel
theorem dX3_reckon_59 : decode cX3_reckon 59 = .ok (.getfield 21, 3) := by decide +kernel
theorem dX3_reckon_62 : decode cX3_reckon 62 = .ok (.ishl, 1) := by decide +kernel
theorem dX3_reckon_63 : decode cX3_reckon 63 = .ok (.iconst 1, 1) := by decide +kernel
theorem dX3_reckon_64 : decode cX3_reckon 64 = .ok (.isub, 1) := by decide +kernel
theorem dX3_reckon_65 : decode cX3_reckon 65 = .ok (.istore 4, 2) := by decide +kernel
theorem dX3_reckon_67 : decode cX3_reckon 67 = .ok (.iload 4, 2) := by decide +kernel
theorem dX3_reckon_69 : decode cX3_reckon 69 = .ok (.ifCond .lt 64, 3) := by decide +kernel
theorem dX3_reckon_72 : decode cX3_reckon 72 = .ok (.aload_n 0, 1) := by decide +kernel
theorem dX3_reckon_73 : decode cX3_reckon 73 = .ok (.getfield 9, 3) := by decide +kernel
theorem dX3_reckon_76 : decode cX3_reckon 76 = .ok (.iload 4, 2) := by decide +kernel
theorem dX3_reckon_78 : decode cX3_reckon 78 = .ok (.iaload, 1) := by decide +kernel
theorem dX3_reckon_79 : decode cX3_reckon 79 = .ok (.aload_n 0, 1) := by decide +kernel
theorem dX3_reckon_80 : decode cX3_reckon 80 = .ok (.getfield 15, 3) := by decide +kernel
theorem dX3_reckon_83 : decode cX3_reckon 83 = .ok (.iload_n 3, 1) := by decide +kernel
theorem dX3_reckon_84 : decode cX3_reckon 84 = .ok (.iaload, 1) := by decide +kernel
theorem dX3_reckon_85 : decode cX3_reckon 85 = .ok (.isub, 1) := by decide +kernel
theorem dX3_reckon_86 : decode cX3_reckon 86 = .ok (.invokestatic 46, 3) := by decide +kernel
theorem dX3_reckon_89 : decode cX3_reckon 89 = .ok (.iload_n 2, 1) := by decide +kernel
theorem dX3_reckon_90 : decode cX3_reckon 90 = .ok (.if_icmp .gt 7, 3) := by decide +kernel
theorem dX3_reckon_93 : decode cX3_reckon 93 = .ok (.iconst 1, 1) := by decide +kernel
theorem dX3_reckon_94 : decode cX3_reckon 94 = .ok (.goto 4, 3) := by decide +kernel
theorem dX3_reckon_97 : decode cX3_reckon 97 = .ok (.iconst 0, 1) := by decide +kernel
theorem dX3_reckon_98 : decode cX3_reckon 98 = .ok (.istore 5, 2) := by decide +kernel
theorem dX3_reckon_100 : decode cX3_reckon 100 = .ok (.aload_n 0, 1) := by decide +kernel
theorem dX3_reckon_101 : decode cX3_reckon 101 = .ok (.getfield 18, 3) := by decide +kernel
theorem dX3_reckon_104 : decode cX3_reckon 104 = .ok (.iload 4, 2) := by decide +kernel
theorem dX3_reckon_106 : decode cX3_reckon 106 = .ok (.iload_n 3, 1) := by decide +kernel
theorem dX3_reckon_107 : decode cX3_reckon 107 = .ok (.invokestatic 52, 3) := by decide +kernel
theorem dX3_reckon_110 : decode cX3_reckon 110 = .ok (.iload 5, 2) := by decide +kernel
theorem dX3_reckon_112 : decode cX3_reckon 112 = .ok (.ifCond .eq 13, 3) := by decide +kernel
theorem dX3_reckon_115 : decode cX3_reckon 115 = .ok (.aload_n 0, 1) := by decide +kernel
theorem dX3_reckon_116 : decode cX3_reckon 116 = .ok (.iload 4, 2) := by decide +kernel
theorem dX3_reckon_118 : decode cX3_reckon 118 = .ok (.iload_n 3, 1) := by decide +kernel
theorem dX3_reckon_119 : decode cX3_reckon 119 = .ok (.invokevirtual 56, 3) := by decide +kernel
theorem dX3_reckon_122 : decode cX3_reckon 122 = .ok (.goto 4, 3) := by decide +kernel
theorem dX3_reckon_125 : decode cX3_reckon 125 = .ok (.iconst 0, 1) := by decide +kernel
theorem dX3_reckon_126 : decode cX3_reckon 126 = .ok (.iastore, 1) := by decide +kernel
theorem dX3_reckon_127 : decode cX3_reckon 127 = .ok (.iinc 4 (-1), 3) := by decide +kernel
theorem dX3_reckon_130 : decode cX3_reckon 130 = .ok (.goto (-63), 3) := by decide +kernel
theorem dX3_reckon_133 : decode cX3_reckon 133 = .ok (.iinc 3 (-1), 3) := by decide +kernel
theorem dX3_reckon_136 : decode cX3_reckon 136 = .ok (.goto (-83), 3) := by decide +kernel
theorem dX3_reckon_139 : decode cX3_reckon 139 = .ok (.return_, 1) := by decide +kernel
theorem dX3_allOrders_0 : decode cX3_allOrders 0 = .ok (.aload_n 0, 1) := by decide +kernel
theorem dX3_allOrders_1 : decode cX3_allOrders 1 = .ok (.getfield 18, 3) := by decide +kernel
theorem dX3_allOrders_4 : decode cX3_allOrders 4 = .ok (.iconst 0, 1) := by decide +kernel
theorem dX3_allOrders_5 : decode cX3_allOrders 5 = .ok (.iaload, 1) := by decide +kernel
theorem dX3_allOrders_6 : decode cX3_allOrders 6 = .ok (.ireturn, 1) := by decide +kernel
theorem dX3_things_0 : decode cX3_things 0 = .ok (.aload_n 0, 1) := by decide +kernel
theorem dX3_things_1 : decode cX3_things 1 = .ok (.getfield 21, 3) := by decide +kernel
theorem dX3_things_4 : decode cX3_things 4 = .ok (.aload_n 0, 1) := by decide +kernel
theorem dX3_things_5 : decode cX3_things 5 = .ok (.getfield 25, 3) := by decide +kernel
theorem dX3_things_8 : decode cX3_things 8 = .ok (.iadd, 1) := by decide +kernel
theorem dX3_things_9 : decode cX3_things 9 = .ok (.ireturn, 1) := by decide +kernel
set_option maxRecDepth 20000 in
theorem ggX3_placed_X3_things : GoodIn wsX3_placed wsX3_things := goodIn_r _ [5, 6, 7, 16, 17, 18, 19, 20] (by decide +kernel) (by decide +kernel)
set_option maxRecDepth 20000 in
theorem gX3_placed_X3_things : GoodIn wsX3_placed (wsV RX3 59 RX3 yX3_things wsX3_things) := goodIn_app (goodIn_of _ (by decide +kernel)) ggX3_placed_X3_things
set_option maxRecDepth 20000 in
theorem ggX3_placed_X3_leastBehind : GoodIn wsX3_placed wsX3_leastBehind := goodIn_r _ [11, 6, 12, 7, 13, 14, 4, 15, 16, 17, 18, 19, 20] (by decide +kernel) (by decide +kernel)
set_option maxRecDepth 20000 in
theorem gX3_placed_X3_leastBehind : GoodIn wsX3_placed (wsV RX3 63 RX3 yX3_leastBehind wsX3_leastBehind) := goodIn_app (goodIn_of _ (by decide +kernel)) ggX3_placed_X3_leastBehind
theorem dX3_placed_0 : decode cX3_placed 0 = .ok (.iload_n 1, 1) := by decide +kernel
theorem dX3_placed_1 : decode cX3_placed 1 = .ok (.aload_n 0, 1) := by decide +kernel
theorem dX3_placed_2 : decode cX3_placed 2 = .ok (.invokevirtual 59, 3) := by decide +kernel
theorem dX3_placed_5 : decode cX3_placed 5 = .ok (.if_icmp .lt 6, 3) := by decide +kernel
theorem dX3_placed_8 : decode cX3_placed 8 = .ok (.bipush (-6), 2) := by decide +kernel
theorem dX3_placed_10 : decode cX3_placed 10 = .ok (.ireturn, 1) := by decide +kernel
theorem dX3_placed_11 : decode cX3_placed 11 = .ok (.iconst 0, 1) := by decide +kernel
theorem dX3_placed_12 : decode cX3_placed 12 = .ok (.istore_n 2, 1) := by decide +kernel
theorem dX3_placed_13 : decode cX3_placed 13 = .ok (.iconst 0, 1) := by decide +kernel
theorem dX3_placed_14 : decode cX3_placed 14 = .ok (.istore_n 3, 1) := by decide +kernel
theorem dX3_placed_15 : decode cX3_placed 15 = .ok (.bipush (-6), 2) := by decide +kernel
theorem dX3_placed_17 : decode cX3_placed 17 = .ok (.istore 4, 2) := by decide +kernel
theorem dX3_placed_19 : decode cX3_placed 19 = .ok (.iconst 0, 1) := by decide +kernel
theorem dX3_placed_20 : decode cX3_placed 20 = .ok (.istore 5, 2) := by decide +kernel
theorem dX3_placed_22 : decode cX3_placed 22 = .ok (.iload 5, 2) := by decide +kernel
theorem dX3_placed_24 : decode cX3_placed 24 = .ok (.iload_n 1, 1) := by decide +kernel
theorem dX3_placed_25 : decode cX3_placed 25 = .ok (.if_icmp .gt 49, 3) := by decide +kernel
theorem dX3_placed_28 : decode cX3_placed 28 = .ok (.aload_n 0, 1) := by decide +kernel
theorem dX3_placed_29 : decode cX3_placed 29 = .ok (.iload_n 2, 1) := by decide +kernel
theorem dX3_placed_30 : decode cX3_placed 30 = .ok (.iload_n 3, 1) := by decide +kernel
theorem dX3_placed_31 : decode cX3_placed 31 = .ok (.invokevirtual 63, 3) := by decide +kernel
theorem dX3_placed_34 : decode cX3_placed 34 = .ok (.istore 4, 2) := by decide +kernel
theorem dX3_placed_36 : decode cX3_placed 36 = .ok (.iload 4, 2) := by decide +kernel
theorem dX3_placed_38 : decode cX3_placed 38 = .ok (.bipush 10, 2) := by decide +kernel
theorem dX3_placed_40 : decode cX3_placed 40 = .ok (.if_icmp .lt 16, 3) := by decide +kernel
theorem dX3_placed_43 : decode cX3_placed 43 = .ok (.iload_n 3, 1) := by decide +kernel
theorem dX3_placed_44 : decode cX3_placed 44 = .ok (.iconst 1, 1) := by decide +kernel
theorem dX3_placed_45 : decode cX3_placed 45 = .ok (.iload 4, 2) := by decide +kernel
theorem dX3_placed_47 : decode cX3_placed 47 = .ok (.bipush 10, 2) := by decide +kernel
theorem dX3_placed_49 : decode cX3_placed 49 = .ok (.isub, 1) := by decide +kernel
theorem dX3_placed_50 : decode cX3_placed 50 = .ok (.ishl, 1) := by decide +kernel
theorem dX3_placed_51 : decode cX3_placed 51 = .ok (.ior, 1) := by decide +kernel
theorem dX3_placed_52 : decode cX3_placed 52 = .ok (.istore_n 3, 1) := by decide +kernel
theorem dX3_placed_53 : decode cX3_placed 53 = .ok (.goto 15, 3) := by decide +kernel
theorem dX3_placed_56 : decode cX3_placed 56 = .ok (.iload 4, 2) := by decide +kernel
theorem dX3_placed_58 : decode cX3_placed 58 = .ok (.ifCond .lt 10, 3) := by decide +kernel
theorem dX3_placed_61 : decode cX3_placed 61 = .ok (.iload_n 2, 1) := by decide +kernel
theorem dX3_placed_62 : decode cX3_placed 62 = .ok (.iconst 1, 1) := by decide +kernel
theorem dX3_placed_63 : decode cX3_placed 63 = .ok (.iload 4, 2) := by decide +kernel
theorem dX3_placed_65 : decode cX3_placed 65 = .ok (.ishl, 1) := by decide +kernel
theorem dX3_placed_66 : decode cX3_placed 66 = .ok (.ior, 1) := by decide +kernel
theorem dX3_placed_67 : decode cX3_placed 67 = .ok (.istore_n 2, 1) := by decide +kernel
theorem dX3_placed_68 : decode cX3_placed 68 = .ok (.iinc 5 1, 3) := by decide +kernel
theorem dX3_placed_71 : decode cX3_placed 71 = .ok (.goto (-49), 3) := by decide +kernel
theorem dX3_placed_74 : decode cX3_placed 74 = .ok (.iload 4, 2) := by decide +kernel
theorem dX3_placed_76 : decode cX3_placed 76 = .ok (.ireturn, 1) := by decide +kernel
theorem dX3_fillSums_0 : decode cX3_fillSums 0 = .ok (.aload_n 1, 1) := by decide +kernel
theorem dX3_fillSums_1 : decode cX3_fillSums 1 = .ok (.iconst 0, 1) := by decide +kernel
theorem dX3_fillSums_2 : decode cX3_fillSums 2 = .ok (.iconst 0, 1) := by decide +kernel
theorem dX3_fillSums_3 : decode cX3_fillSums 3 = .ok (.iastore, 1) := by decide +kernel
theorem dX3_fillSums_4 : decode cX3_fillSums 4 = .ok (.iconst 0, 1) := by decide +kernel
theorem dX3_fillSums_5 : decode cX3_fillSums 5 = .ok (.istore_n 2, 1) := by decide +kernel
theorem dX3_fillSums_6 : decode cX3_fillSums 6 = .ok (.iload_n 2, 1) := by decide +kernel
theorem dX3_fillSums_7 : decode cX3_fillSums 7 = .ok (.aload_n 0, 1) := by decide +kernel
theorem dX3_fillSums_8 : decode cX3_fillSums 8 = .ok (.getfield 34, 3) := by decide +kernel
theorem dX3_fillSums_11 : decode cX3_fillSums 11 = .ok (.if_icmp .ge 45, 3) := by decide +kernel
theorem dX3_fillSums_14 : decode cX3_fillSums 14 = .ok (.iconst 1, 1) := by decide +kernel
theorem dX3_fillSums_15 : decode cX3_fillSums 15 = .ok (.iload_n 2, 1) := by decide +kernel
theorem dX3_fillSums_16 : decode cX3_fillSums 16 = .ok (.ishl, 1) := by decide +kernel
theorem dX3_fillSums_17 : decode cX3_fillSums 17 = .ok (.istore_n 3, 1) := by decide +kernel
theorem dX3_fillSums_18 : decode cX3_fillSums 18 = .ok (.iconst 0, 1) := by decide +kernel
theorem dX3_fillSums_19 : decode cX3_fillSums 19 = .ok (.istore 4, 2) := by decide +kernel
theorem dX3_fillSums_21 : decode cX3_fillSums 21 = .ok (.iload 4, 2) := by decide +kernel
theorem dX3_fillSums_23 : decode cX3_fillSums 23 = .ok (.iload_n 3, 1) := by decide +kernel
theorem dX3_fillSums_24 : decode cX3_fillSums 24 = .ok (.if_icmp .ge 26, 3) := by decide +kernel
theorem dX3_fillSums_27 : decode cX3_fillSums 27 = .ok (.aload_n 1, 1) := by decide +kernel
theorem dX3_fillSums_28 : decode cX3_fillSums 28 = .ok (.iload 4, 2) := by decide +kernel
theorem dX3_fillSums_30 : decode cX3_fillSums 30 = .ok (.iload_n 3, 1) := by decide +kernel
theorem dX3_fillSums_31 : decode cX3_fillSums 31 = .ok (.iadd, 1) := by decide +kernel
theorem dX3_fillSums_32 : decode cX3_fillSums 32 = .ok (.aload_n 1, 1) := by decide +kernel
theorem dX3_fillSums_33 : decode cX3_fillSums 33 = .ok (.iload 4, 2) := by decide +kernel
theorem dX3_fillSums_35 : decode cX3_fillSums 35 = .ok (.iaload, 1) := by decide +kernel
theorem dX3_fillSums_36 : decode cX3_fillSums 36 = .ok (.aload_n 0, 1) := by decide +kernel
theorem dX3_fillSums_37 : decode cX3_fillSums 37 = .ok (.getfield 66, 3) := by decide +kernel
theorem dX3_fillSums_40 : decode cX3_fillSums 40 = .ok (.iload_n 2, 1) := by decide +kernel
theorem dX3_fillSums_41 : decode cX3_fillSums 41 = .ok (.iaload, 1) := by decide +kernel
theorem dX3_fillSums_42 : decode cX3_fillSums 42 = .ok (.iadd, 1) := by decide +kernel
theorem dX3_fillSums_43 : decode cX3_fillSums 43 = .ok (.iastore, 1) := by decide +kernel
theorem dX3_fillSums_44 : decode cX3_fillSums 44 = .ok (.iinc 4 1, 3) := by decide +kernel
theorem dX3_fillSums_47 : decode cX3_fillSums 47 = .ok (.goto (-26), 3) := by decide +kernel
theorem dX3_fillSums_50 : decode cX3_fillSums 50 = .ok (.iinc 2 1, 3) := by decide +kernel
theorem dX3_fillSums_53 : decode cX3_fillSums 53 = .ok (.goto (-47), 3) := by decide +kernel
theorem dX3_fillSums_56 : decode cX3_fillSums 56 = .ok (.return_, 1) := by decide +kernel
theorem dX3_indexOf_0 : decode cX3_indexOf 0 = .ok (.iload_n 1, 1) := by decide +kernel
theorem dX3_indexOf_1 : decode cX3_indexOf 1 = .ok (.bipush 64, 2) := by decide +kernel
theorem dX3_indexOf_3 : decode cX3_indexOf 3 = .ok (.imul, 1) := by decide +kernel
theorem dX3_indexOf_4 : decode cX3_indexOf 4 = .ok (.iload_n 0, 1) := by decide +kernel
theorem dX3_indexOf_5 : decode cX3_indexOf 5 = .ok (.iadd, 1) := by decide +kernel
theorem dX3_indexOf_6 : decode cX3_indexOf 6 = .ok (.ireturn, 1) := by decide +kernel
set_option maxRecDepth 20000 in
theorem ggX3_ordersBehind_X3_indexOf : GoodIn wsX3_ordersBehind wsX3_indexOf := goodIn_r _ [7] (by decide +kernel) (by decide +kernel)
set_option maxRecDepth 20000 in
theorem gX3_ordersBehind_X3_indexOf : GoodIn wsX3_ordersBehind (va_wsS RX3 52 yX3_indexOf wsX3_indexOf) := goodIn_app (goodIn_of _ (by decide +kernel)) ggX3_ordersBehind_X3_indexOf
theorem dX3_ordersBehind_0 : decode cX3_ordersBehind 0 = .ok (.iload_n 1, 1) := by decide +kernel
theorem dX3_ordersBehind_1 : decode cX3_ordersBehind 1 = .ok (.iconst 1, 1) := by decide +kernel
theorem dX3_ordersBehind_2 : decode cX3_ordersBehind 2 = .ok (.aload_n 0, 1) := by decide +kernel
theorem dX3_ordersBehind_3 : decode cX3_ordersBehind 3 = .ok (.getfield 21, 3) := by decide +kernel
theorem dX3_ordersBehind_6 : decode cX3_ordersBehind 6 = .ok (.ishl, 1) := by decide +kernel
theorem dX3_ordersBehind_7 : decode cX3_ordersBehind 7 = .ok (.iconst 1, 1) := by decide +kernel
theorem dX3_ordersBehind_8 : decode cX3_ordersBehind 8 = .ok (.isub, 1) := by decide +kernel
theorem dX3_ordersBehind_9 : decode cX3_ordersBehind 9 = .ok (.if_icmp .ne 17, 3) := by decide +kernel
theorem dX3_ordersBehind_12 : decode cX3_ordersBehind 12 = .ok (.iload_n 2, 1) := by decide +kernel
theorem dX3_ordersBehind_13 : decode cX3_ordersBehind 13 = .ok (.iconst 1, 1) := by decide +kernel
theorem dX3_ordersBehind_14 : decode cX3_ordersBehind 14 = .ok (.aload_n 0, 1) := by decide +kernel
theorem dX3_ordersBehind_15 : decode cX3_ordersBehind 15 = .ok (.getfield 25, 3) := by decide +kernel
theorem dX3_ordersBehind_18 : decode cX3_ordersBehind 18 = .ok (.ishl, 1) := by decide +kernel
theorem dX3_ordersBehind_19 : decode cX3_ordersBehind 19 = .ok (.iconst 1, 1) := by decide +kernel
theorem dX3_ordersBehind_20 : decode cX3_ordersBehind 20 = .ok (.isub, 1) := by decide +kernel
theorem dX3_ordersBehind_21 : decode cX3_ordersBehind 21 = .ok (.if_icmp .ne 5, 3) := by decide +kernel
theorem dX3_ordersBehind_24 : decode cX3_ordersBehind 24 = .ok (.iconst 1, 1) := by decide +kernel
theorem dX3_ordersBehind_25 : decode cX3_ordersBehind 25 = .ok (.ireturn, 1) := by decide +kernel
theorem dX3_ordersBehind_26 : decode cX3_ordersBehind 26 = .ok (.iconst 0, 1) := by decide +kernel
theorem dX3_ordersBehind_27 : decode cX3_ordersBehind 27 = .ok (.istore_n 3, 1) := by decide +kernel
theorem dX3_ordersBehind_28 : decode cX3_ordersBehind 28 = .ok (.iconst 0, 1) := by decide +kernel
theorem dX3_ordersBehind_29 : decode cX3_ordersBehind 29 = .ok (.istore 4, 2) := by decide +kernel
theorem dX3_ordersBehind_31 : decode cX3_ordersBehind 31 = .ok (.iload 4, 2) := by decide +kernel
theorem dX3_ordersBehind_33 : decode cX3_ordersBehind 33 = .ok (.aload_n 0, 1) := by decide +kernel
theorem dX3_ordersBehind_34 : decode cX3_ordersBehind 34 = .ok (.getfield 21, 3) := by decide +kernel
theorem dX3_ordersBehind_37 : decode cX3_ordersBehind 37 = .ok (.if_icmp .ge 36, 3) := by decide +kernel
theorem dX3_ordersBehind_40 : decode cX3_ordersBehind 40 = .ok (.iload_n 1, 1) := by decide +kernel
theorem dX3_ordersBehind_41 : decode cX3_ordersBehind 41 = .ok (.iload 4, 2) := by decide +kernel
theorem dX3_ordersBehind_43 : decode cX3_ordersBehind 43 = .ok (.ishr, 1) := by decide +kernel
theorem dX3_ordersBehind_44 : decode cX3_ordersBehind 44 = .ok (.iconst 1, 1) := by decide +kernel
theorem dX3_ordersBehind_45 : decode cX3_ordersBehind 45 = .ok (.iand, 1) := by decide +kernel
theorem dX3_ordersBehind_46 : decode cX3_ordersBehind 46 = .ok (.ifCond .ne 21, 3) := by decide +kernel
theorem dX3_ordersBehind_49 : decode cX3_ordersBehind 49 = .ok (.iload_n 3, 1) := by decide +kernel
theorem dX3_ordersBehind_50 : decode cX3_ordersBehind 50 = .ok (.aload_n 0, 1) := by decide +kernel
theorem dX3_ordersBehind_51 : decode cX3_ordersBehind 51 = .ok (.getfield 18, 3) := by decide +kernel
theorem dX3_ordersBehind_54 : decode cX3_ordersBehind 54 = .ok (.iload_n 1, 1) := by decide +kernel
theorem dX3_ordersBehind_55 : decode cX3_ordersBehind 55 = .ok (.iconst 1, 1) := by decide +kernel
theorem dX3_ordersBehind_56 : decode cX3_ordersBehind 56 = .ok (.iload 4, 2) := by decide +kernel
theorem dX3_ordersBehind_58 : decode cX3_ordersBehind 58 = .ok (.ishl, 1) := by decide +kernel
theorem dX3_ordersBehind_59 : decode cX3_ordersBehind 59 = .ok (.ior, 1) := by decide +kernel
theorem dX3_ordersBehind_60 : decode cX3_ordersBehind 60 = .ok (.iload_n 2, 1) := by decide +kernel
theorem dX3_ordersBehind_61 : decode cX3_ordersBehind 61 = .ok (.invokestatic 52, 3) := by decide +kernel
theorem dX3_ordersBehind_64 : decode cX3_ordersBehind 64 = .ok (.iaload, 1) := by decide +kernel
theorem dX3_ordersBehind_65 : decode cX3_ordersBehind 65 = .ok (.iadd, 1) := by decide +kernel
theorem dX3_ordersBehind_66 : decode cX3_ordersBehind 66 = .ok (.istore_n 3, 1) := by decide +kernel
theorem dX3_ordersBehind_67 : decode cX3_ordersBehind 67 = .ok (.iinc 4 1, 3) := by decide +kernel
theorem dX3_ordersBehind_70 : decode cX3_ordersBehind 70 = .ok (.goto (-39), 3) := by decide +kernel
theorem dX3_ordersBehind_73 : decode cX3_ordersBehind 73 = .ok (.iconst 0, 1) := by decide +kernel
theorem dX3_ordersBehind_74 : decode cX3_ordersBehind 74 = .ok (.istore 4, 2) := by decide +kernel
theorem dX3_ordersBehind_76 : decode cX3_ordersBehind 76 = .ok (.iload 4, 2) := by decide +kernel
theorem dX3_ordersBehind_78 : decode cX3_ordersBehind 78 = .ok (.aload_n 0, 1) := by decide +kernel
theorem dX3_ordersBehind_79 : decode cX3_ordersBehind 79 = .ok (.getfield 25, 3) := by decide +kernel
theorem dX3_ordersBehind_82 : decode cX3_ordersBehind 82 = .ok (.if_icmp .ge 36, 3) := by decide +kernel
theorem dX3_ordersBehind_85 : decode cX3_ordersBehind 85 = .ok (.iload_n 2, 1) := by decide +kernel
theorem dX3_ordersBehind_86 : decode cX3_ordersBehind 86 = .ok (.iload 4, 2) := by decide +kernel
theorem dX3_ordersBehind_88 : decode cX3_ordersBehind 88 = .ok (.ishr, 1) := by decide +kernel
theorem dX3_ordersBehind_89 : decode cX3_ordersBehind 89 = .ok (.iconst 1, 1) := by decide +kernel
theorem dX3_ordersBehind_90 : decode cX3_ordersBehind 90 = .ok (.iand, 1) := by decide +kernel
theorem dX3_ordersBehind_91 : decode cX3_ordersBehind 91 = .ok (.ifCond .ne 21, 3) := by decide +kernel
theorem dX3_ordersBehind_94 : decode cX3_ordersBehind 94 = .ok (.iload_n 3, 1) := by decide +kernel
theorem dX3_ordersBehind_95 : decode cX3_ordersBehind 95 = .ok (.aload_n 0, 1) := by decide +kernel
theorem dX3_ordersBehind_96 : decode cX3_ordersBehind 96 = .ok (.getfield 18, 3) := by decide +kernel
theorem dX3_ordersBehind_99 : decode cX3_ordersBehind 99 = .ok (.iload_n 1, 1) := by decide +kernel
theorem dX3_ordersBehind_100 : decode cX3_ordersBehind 100 = .ok (.iload_n 2, 1) := by decide +kernel
theorem dX3_ordersBehind_101 : decode cX3_ordersBehind 101 = .ok (.iconst 1, 1) := by decide +kernel
theorem dX3_ordersBehind_102 : decode cX3_ordersBehind 102 = .ok (.iload 4, 2) := by decide +kernel
theorem dX3_ordersBehind_104 : decode cX3_ordersBehind 104 = .ok (.ishl, 1) := by decide +kernel
theorem dX3_ordersBehind_105 : decode cX3_ordersBehind 105 = .ok (.ior, 1) := by decide +kernel
theorem dX3_ordersBehind_106 : decode cX3_ordersBehind 106 = .ok (.invokestatic 52, 3) := by decide +kernel
theorem dX3_ordersBehind_109 : decode cX3_ordersBehind 109 = .ok (.iaload, 1) := by decide +kernel
theorem dX3_ordersBehind_110 : decode cX3_ordersBehind 110 = .ok (.iadd, 1) := by decide +kernel
theorem dX3_ordersBehind_111 : decode cX3_ordersBehind 111 = .ok (.istore_n 3, 1) := by decide +kernel
theorem dX3_ordersBehind_112 : decode cX3_ordersBehind 112 = .ok (.iinc 4 1, 3) := by decide +kernel
theorem dX3_ordersBehind_115 : decode cX3_ordersBehind 115 = .ok (.goto (-39), 3) := by decide +kernel
theorem dX3_ordersBehind_118 : decode cX3_ordersBehind 118 = .ok (.iload_n 3, 1) := by decide +kernel
theorem dX3_ordersBehind_119 : decode cX3_ordersBehind 119 = .ok (.ireturn, 1) := by decide +kernel
set_option maxRecDepth 20000 in
theorem ggX3_leastBehind_X3_indexOf : GoodIn wsX3_leastBehind wsX3_indexOf := goodIn_r _ [7] (by decide +kernel) (by decide +kernel)
set_option maxRecDepth 20000 in
theorem gX3_leastBehind_X3_indexOf : GoodIn wsX3_leastBehind (va_wsS RX3 52 yX3_indexOf wsX3_indexOf) := goodIn_app (goodIn_of _ (by decide +kernel)) ggX3_leastBehind_X3_indexOf
theorem dX3_leastBehind_0 : decode cX3_leastBehind 0 = .ok (.iconst 0, 1) := by decide +kernel
theorem dX3_leastBehind_1 : decode cX3_leastBehind 1 = .ok (.istore_n 3, 1) := by decide +kernel
theorem dX3_leastBehind_2 : decode cX3_leastBehind 2 = .ok (.iload_n 3, 1) := by decide +kernel
theorem dX3_leastBehind_3 : decode cX3_leastBehind 3 = .ok (.aload_n 0, 1) := by decide +kernel
theorem dX3_leastBehind_4 : decode cX3_leastBehind 4 = .ok (.getfield 21, 3) := by decide +kernel
theorem dX3_leastBehind_7 : decode cX3_leastBehind 7 = .ok (.if_icmp .ge 36, 3) := by decide +kernel
theorem dX3_leastBehind_10 : decode cX3_leastBehind 10 = .ok (.iload_n 1, 1) := by decide +kernel
theorem dX3_leastBehind_11 : decode cX3_leastBehind 11 = .ok (.iload_n 3, 1) := by decide +kernel
theorem dX3_leastBehind_12 : decode cX3_leastBehind 12 = .ok (.ishr, 1) := by decide +kernel
theorem dX3_leastBehind_13 : decode cX3_leastBehind 13 = .ok (.iconst 1, 1) := by decide +kernel
theorem dX3_leastBehind_14 : decode cX3_leastBehind 14 = .ok (.iand, 1) := by decide +kernel
theorem dX3_leastBehind_15 : decode cX3_leastBehind 15 = .ok (.ifCond .ne 22, 3) := by decide +kernel
theorem dX3_leastBehind_18 : decode cX3_leastBehind 18 = .ok (.aload_n 0, 1) := by decide +kernel
theorem dX3_leastBehind_19 : decode cX3_leastBehind 19 = .ok (.getfield 18, 3) := by decide +kernel
theorem dX3_leastBehind_22 : decode cX3_leastBehind 22 = .ok (.iload_n 1, 1) := by decide +kernel
theorem dX3_leastBehind_23 : decode cX3_leastBehind 23 = .ok (.iconst 1, 1) := by decide +kernel
theorem dX3_leastBehind_24 : decode cX3_leastBehind 24 = .ok (.iload_n 3, 1) := by decide +kernel
theorem dX3_leastBehind_25 : decode cX3_leastBehind 25 = .ok (.ishl, 1) := by decide +kernel
theorem dX3_leastBehind_26 : decode cX3_leastBehind 26 = .ok (.ior, 1) := by decide +kernel
theorem dX3_leastBehind_27 : decode cX3_leastBehind 27 = .ok (.iload_n 2, 1) := by decide +kernel
theorem dX3_leastBehind_28 : decode cX3_leastBehind 28 = .ok (.invokestatic 52, 3) := by decide +kernel
theorem dX3_leastBehind_31 : decode cX3_leastBehind 31 = .ok (.iaload, 1) := by decide +kernel
theorem dX3_leastBehind_32 : decode cX3_leastBehind 32 = .ok (.ifCond .le 5, 3) := by decide +kernel
theorem dX3_leastBehind_35 : decode cX3_leastBehind 35 = .ok (.iload_n 3, 1) := by decide +kernel
theorem dX3_leastBehind_36 : decode cX3_leastBehind 36 = .ok (.ireturn, 1) := by decide +kernel
theorem dX3_leastBehind_37 : decode cX3_leastBehind 37 = .ok (.iinc 3 1, 3) := by decide +kernel
theorem dX3_leastBehind_40 : decode cX3_leastBehind 40 = .ok (.goto (-38), 3) := by decide +kernel
theorem dX3_leastBehind_43 : decode cX3_leastBehind 43 = .ok (.iconst 0, 1) := by decide +kernel
theorem dX3_leastBehind_44 : decode cX3_leastBehind 44 = .ok (.istore_n 3, 1) := by decide +kernel
theorem dX3_leastBehind_45 : decode cX3_leastBehind 45 = .ok (.iload_n 3, 1) := by decide +kernel
theorem dX3_leastBehind_46 : decode cX3_leastBehind 46 = .ok (.aload_n 0, 1) := by decide +kernel
theorem dX3_leastBehind_47 : decode cX3_leastBehind 47 = .ok (.getfield 25, 3) := by decide +kernel
theorem dX3_leastBehind_50 : decode cX3_leastBehind 50 = .ok (.if_icmp .ge 39, 3) := by decide +kernel
theorem dX3_leastBehind_53 : decode cX3_leastBehind 53 = .ok (.iload_n 2, 1) := by decide +kernel
theorem dX3_leastBehind_54 : decode cX3_leastBehind 54 = .ok (.iload_n 3, 1) := by decide +kernel
theorem dX3_leastBehind_55 : decode cX3_leastBehind 55 = .ok (.ishr, 1) := by decide +kernel
theorem dX3_leastBehind_56 : decode cX3_leastBehind 56 = .ok (.iconst 1, 1) := by decide +kernel
theorem dX3_leastBehind_57 : decode cX3_leastBehind 57 = .ok (.iand, 1) := by decide +kernel
theorem dX3_leastBehind_58 : decode cX3_leastBehind 58 = .ok (.ifCond .ne 25, 3) := by decide +kernel
theorem dX3_leastBehind_61 : decode cX3_leastBehind 61 = .ok (.aload_n 0, 1) := by decide +kernel
theorem dX3_leastBehind_62 : decode cX3_leastBehind 62 = .ok (.getfield 18, 3) := by decide +kernel
theorem dX3_leastBehind_65 : decode cX3_leastBehind 65 = .ok (.iload_n 1, 1) := by decide +kernel
theorem dX3_leastBehind_66 : decode cX3_leastBehind 66 = .ok (.iload_n 2, 1) := by decide +kernel
theorem dX3_leastBehind_67 : decode cX3_leastBehind 67 = .ok (.iconst 1, 1) := by decide +kernel
theorem dX3_leastBehind_68 : decode cX3_leastBehind 68 = .ok (.iload_n 3, 1) := by decide +kernel
theorem dX3_leastBehind_69 : decode cX3_leastBehind 69 = .ok (.ishl, 1) := by decide +kernel
theorem dX3_leastBehind_70 : decode cX3_leastBehind 70 = .ok (.ior, 1) := by decide +kernel
theorem dX3_leastBehind_71 : decode cX3_leastBehind 71 = .ok (.invokestatic 52, 3) := by decide +kernel
theorem dX3_leastBehind_74 : decode cX3_leastBehind 74 = .ok (.iaload, 1) := by decide +kernel
theorem dX3_leastBehind_75 : decode cX3_leastBehind 75 = .ok (.ifCond .le 8, 3) := by decide +kernel
theorem dX3_leastBehind_78 : decode cX3_leastBehind 78 = .ok (.bipush 10, 2) := by decide +kernel
theorem dX3_leastBehind_80 : decode cX3_leastBehind 80 = .ok (.iload_n 3, 1) := by decide +kernel
theorem dX3_leastBehind_81 : decode cX3_leastBehind 81 = .ok (.iadd, 1) := by decide +kernel
theorem dX3_leastBehind_82 : decode cX3_leastBehind 82 = .ok (.ireturn, 1) := by decide +kernel
theorem dX3_leastBehind_83 : decode cX3_leastBehind 83 = .ok (.iinc 3 1, 3) := by decide +kernel
theorem dX3_leastBehind_86 : decode cX3_leastBehind 86 = .ok (.goto (-41), 3) := by decide +kernel
theorem dX3_leastBehind_89 : decode cX3_leastBehind 89 = .ok (.bipush (-6), 2) := by decide +kernel
theorem dX3_leastBehind_91 : decode cX3_leastBehind 91 = .ok (.ireturn, 1) := by decide +kernel
theorem dX4_init_0 : decode cX4_init 0 = .ok (.aload_n 0, 1) := by decide +kernel
theorem dX4_init_1 : decode cX4_init 1 = .ok (.invokespecial 1, 3) := by decide +kernel
theorem dX4_init_4 : decode cX4_init 4 = .ok (.aload_n 0, 1) := by decide +kernel
theorem dX4_init_5 : decode cX4_init 5 = .ok (.iconst 0, 1) := by decide +kernel
theorem dX4_init_6 : decode cX4_init 6 = .ok (.putfield 7, 3) := by decide +kernel
theorem dX4_init_9 : decode cX4_init 9 = .ok (.aload_n 0, 1) := by decide +kernel
theorem dX4_init_10 : decode cX4_init 10 = .ok (.iconst 0, 1) := by decide +kernel
theorem dX4_init_11 : decode cX4_init 11 = .ok (.putfield 13, 3) := by decide +kernel
theorem dX4_init_14 : decode cX4_init 14 = .ok (.aload_n 0, 1) := by decide +kernel
theorem dX4_init_15 : decode cX4_init 15 = .ok (.iconst 0, 1) := by decide +kernel
theorem dX4_init_16 : decode cX4_init 16 = .ok (.putfield 16, 3) := by decide +kernel
theorem dX4_init_19 : decode cX4_init 19 = .ok (.aload_n 0, 1) := by decide +kernel
theorem dX4_init_20 : decode cX4_init 20 = .ok (.iconst 1, 1) := by decide +kernel
theorem dX4_init_21 : decode cX4_init 21 = .ok (.putfield 19, 3) := by decide +kernel
theorem dX4_init_24 : decode cX4_init 24 = .ok (.return_, 1) := by decide +kernel
theorem dX4_stepFrom_0 : decode cX4_stepFrom 0 = .ok (.aload_n 0, 1) := by decide +kernel
theorem dX4_stepFrom_1 : decode cX4_stepFrom 1 = .ok (.getfield 16, 3) := by decide +kernel
theorem dX4_stepFrom_4 : decode cX4_stepFrom 4 = .ok (.iload_n 1, 1) := by decide +kernel
theorem dX4_stepFrom_5 : decode cX4_stepFrom 5 = .ok (.isub, 1) := by decide +kernel
theorem dX4_stepFrom_6 : decode cX4_stepFrom 6 = .ok (.invokestatic 22, 3) := by decide +kernel
theorem dX4_stepFrom_9 : decode cX4_stepFrom 9 = .ok (.aload_n 0, 1) := by decide +kernel
theorem dX4_stepFrom_10 : decode cX4_stepFrom 10 = .ok (.getfield 19, 3) := by decide +kernel
theorem dX4_stepFrom_13 : decode cX4_stepFrom 13 = .ok (.if_icmp .gt 8, 3) := by decide +kernel
theorem dX4_stepFrom_16 : decode cX4_stepFrom 16 = .ok (.aload_n 0, 1) := by decide +kernel
theorem dX4_stepFrom_17 : decode cX4_stepFrom 17 = .ok (.getfield 16, 3) := by decide +kernel
theorem dX4_stepFrom_20 : decode cX4_stepFrom 20 = .ok (.ireturn, 1) := by decide +kernel
theorem dX4_stepFrom_21 : decode cX4_stepFrom 21 = .ok (.iload_n 1, 1) := by decide +kernel
theorem dX4_stepFrom_22 : decode cX4_stepFrom 22 = .ok (.aload_n 0, 1) := by decide +kernel
theorem dX4_stepFrom_23 : decode cX4_stepFrom 23 = .ok (.getfield 16, 3) := by decide +kernel
theorem dX4_stepFrom_26 : decode cX4_stepFrom 26 = .ok (.if_icmp .ge 12, 3) := by decide +kernel
theorem dX4_stepFrom_29 : decode cX4_stepFrom 29 = .ok (.iload_n 1, 1) := by decide +kernel
theorem dX4_stepFrom_30 : decode cX4_stepFrom 30 = .ok (.aload_n 0, 1) := by decide +kernel
theorem dX4_stepFrom_31 : decode cX4_stepFrom 31 = .ok (.getfield 19, 3) := by decide +kernel
theorem dX4_stepFrom_34 : decode cX4_stepFrom 34 = .ok (.iadd, 1) := by decide +kernel
theorem dX4_stepFrom_35 : decode cX4_stepFrom 35 = .ok (.goto 9, 3) := by decide +kernel
theorem dX4_stepFrom_38 : decode cX4_stepFrom 38 = .ok (.iload_n 1, 1) := by decide +kernel
