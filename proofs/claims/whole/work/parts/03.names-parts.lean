theorem dX0_init_0 : decode cX0_init 0 = .ok (.aload_n 0, 1) := by decide +kernel
theorem dX0_init_1 : decode cX0_init 1 = .ok (.invokespecial 3, 3) := by decide +kernel
theorem dX0_init_4 : decode cX0_init 4 = .ok (.aload_n 0, 1) := by decide +kernel
theorem dX0_init_5 : decode cX0_init 5 = .ok (.sipush 310, 3) := by decide +kernel
theorem dX0_init_8 : decode cX0_init 8 = .ok (.newarray .int, 2) := by decide +kernel
theorem dX0_init_10 : decode cX0_init 10 = .ok (.putfield 9, 3) := by decide +kernel
theorem dX0_init_13 : decode cX0_init 13 = .ok (.aload_n 0, 1) := by decide +kernel
theorem dX0_init_14 : decode cX0_init 14 = .ok (.sipush 310, 3) := by decide +kernel
theorem dX0_init_17 : decode cX0_init 17 = .ok (.newarray .int, 2) := by decide +kernel
theorem dX0_init_19 : decode cX0_init 19 = .ok (.putfield 15, 3) := by decide +kernel
theorem dX0_init_22 : decode cX0_init 22 = .ok (.aload_n 0, 1) := by decide +kernel
theorem dX0_init_23 : decode cX0_init 23 = .ok (.sipush 256, 3) := by decide +kernel
theorem dX0_init_26 : decode cX0_init 26 = .ok (.newarray .int, 2) := by decide +kernel
theorem dX0_init_28 : decode cX0_init 28 = .ok (.putfield 18, 3) := by decide +kernel
theorem dX0_init_31 : decode cX0_init 31 = .ok (.aload_n 0, 1) := by decide +kernel
theorem dX0_init_32 : decode cX0_init 32 = .ok (.sipush 250, 3) := by decide +kernel
theorem dX0_init_35 : decode cX0_init 35 = .ok (.newarray .int, 2) := by decide +kernel
theorem dX0_init_37 : decode cX0_init 37 = .ok (.putfield 21, 3) := by decide +kernel
theorem dX0_init_40 : decode cX0_init 40 = .ok (.aload_n 0, 1) := by decide +kernel
theorem dX0_init_41 : decode cX0_init 41 = .ok (.sipush 250, 3) := by decide +kernel
theorem dX0_init_44 : decode cX0_init 44 = .ok (.newarray .int, 2) := by decide +kernel
theorem dX0_init_46 : decode cX0_init 46 = .ok (.putfield 24, 3) := by decide +kernel
theorem dX0_init_49 : decode cX0_init 49 = .ok (.aload_n 0, 1) := by decide +kernel
theorem dX0_init_50 : decode cX0_init 50 = .ok (.sipush 250, 3) := by decide +kernel
theorem dX0_init_53 : decode cX0_init 53 = .ok (.newarray .boolean, 2) := by decide +kernel
theorem dX0_init_55 : decode cX0_init 55 = .ok (.putfield 27, 3) := by decide +kernel
theorem dX0_init_58 : decode cX0_init 58 = .ok (.aload_n 0, 1) := by decide +kernel
theorem dX0_init_59 : decode cX0_init 59 = .ok (.sipush 250, 3) := by decide +kernel
theorem dX0_init_62 : decode cX0_init 62 = .ok (.newarray .int, 2) := by decide +kernel
theorem dX0_init_64 : decode cX0_init 64 = .ok (.putfield 31, 3) := by decide +kernel
theorem dX0_init_67 : decode cX0_init 67 = .ok (.return_, 1) := by decide +kernel
set_option maxRecDepth 20000 in
theorem ggX0_begin_X1_plant : GoodIn wsX0_begin wsX1_plant := goodIn_r _ [10, 11, 12, 13, 14, 15, 16, 17, 18, 56, 57, 58, 59, 60, 61, 62] (by decide +kernel) (by decide +kernel)
set_option maxRecDepth 20000 in
theorem gX0_begin_X1_plant : GoodIn wsX0_begin (wsV RX0 40 RX1 yX1_plant wsX1_plant) := goodIn_app (goodIn_of _ (by decide +kernel)) ggX0_begin_X1_plant
set_option maxRecDepth 20000 in
theorem ggX0_begin_J7_fill_53178 : GoodIn wsX0_begin wsJ7_fill_53178 := goodIn_r _ [22] (by decide +kernel) (by decide +kernel)
set_option maxRecDepth 20000 in
theorem gX0_begin_J7_fill_53178 : GoodIn wsX0_begin (va_wsS RX0 46 yJ7_fill_53178 wsJ7_fill_53178) := goodIn_app (goodIn_of _ (by decide +kernel)) ggX0_begin_J7_fill_53178
set_option maxRecDepth 20000 in
theorem ggX0_begin_X0_place : GoodIn wsX0_begin wsX0_place := goodIn_r _ [27, 5, 28, 2, 29, 30, 31, 32, 33, 34, 9, 35, 14, 36, 37, 38, 26, 39, 3, 40, 41, 42, 43, 44, 45, 46, 47, 48, 49, 50, 51, 52, 53, 54, 55, 56, 57, 58, 59, 60, 61, 62] (by decide +kernel) (by decide +kernel)
set_option maxRecDepth 20000 in
theorem gX0_begin_X0_place : GoodIn wsX0_begin (wsV RX0 61 RX0 yX0_place wsX0_place) := goodIn_app (goodIn_of _ (by decide +kernel)) ggX0_begin_X0_place
theorem dX0_begin_0 : decode cX0_begin 0 = .ok (.aload_n 2, 1) := by decide +kernel
theorem dX0_begin_1 : decode cX0_begin 1 = .ok (.aload_n 1, 1) := by decide +kernel
theorem dX0_begin_2 : decode cX0_begin 2 = .ok (.getfield 34, 3) := by decide +kernel
theorem dX0_begin_5 : decode cX0_begin 5 = .ok (.invokevirtual 40, 3) := by decide +kernel
theorem dX0_begin_8 : decode cX0_begin 8 = .ok (.aload_n 0, 1) := by decide +kernel
theorem dX0_begin_9 : decode cX0_begin 9 = .ok (.getfield 18, 3) := by decide +kernel
theorem dX0_begin_12 : decode cX0_begin 12 = .ok (.iconst (-1), 1) := by decide +kernel
theorem dX0_begin_13 : decode cX0_begin 13 = .ok (.invokestatic 46, 3) := by decide +kernel
theorem dX0_begin_16 : decode cX0_begin 16 = .ok (.aload_n 0, 1) := by decide +kernel
theorem dX0_begin_17 : decode cX0_begin 17 = .ok (.iconst 0, 1) := by decide +kernel
theorem dX0_begin_18 : decode cX0_begin 18 = .ok (.putfield 52, 3) := by decide +kernel
theorem dX0_begin_21 : decode cX0_begin 21 = .ok (.aload_n 0, 1) := by decide +kernel
theorem dX0_begin_22 : decode cX0_begin 22 = .ok (.iconst 0, 1) := by decide +kernel
theorem dX0_begin_23 : decode cX0_begin 23 = .ok (.putfield 55, 3) := by decide +kernel
theorem dX0_begin_26 : decode cX0_begin 26 = .ok (.iconst 0, 1) := by decide +kernel
theorem dX0_begin_27 : decode cX0_begin 27 = .ok (.istore_n 3, 1) := by decide +kernel
theorem dX0_begin_28 : decode cX0_begin 28 = .ok (.iload_n 3, 1) := by decide +kernel
theorem dX0_begin_29 : decode cX0_begin 29 = .ok (.aload_n 1, 1) := by decide +kernel
theorem dX0_begin_30 : decode cX0_begin 30 = .ok (.getfield 34, 3) := by decide +kernel
theorem dX0_begin_33 : decode cX0_begin 33 = .ok (.if_icmp .ge 26, 3) := by decide +kernel
theorem dX0_begin_36 : decode cX0_begin 36 = .ok (.aload_n 1, 1) := by decide +kernel
theorem dX0_begin_37 : decode cX0_begin 37 = .ok (.getfield 58, 3) := by decide +kernel
theorem dX0_begin_40 : decode cX0_begin 40 = .ok (.iload_n 3, 1) := by decide +kernel
theorem dX0_begin_41 : decode cX0_begin 41 = .ok (.iaload, 1) := by decide +kernel
theorem dX0_begin_42 : decode cX0_begin 42 = .ok (.iconst (-1), 1) := by decide +kernel
theorem dX0_begin_43 : decode cX0_begin 43 = .ok (.if_icmp .eq 10, 3) := by decide +kernel
theorem dX0_begin_46 : decode cX0_begin 46 = .ok (.aload_n 0, 1) := by decide +kernel
theorem dX0_begin_47 : decode cX0_begin 47 = .ok (.aload_n 1, 1) := by decide +kernel
theorem dX0_begin_48 : decode cX0_begin 48 = .ok (.aload_n 2, 1) := by decide +kernel
theorem dX0_begin_49 : decode cX0_begin 49 = .ok (.iload_n 3, 1) := by decide +kernel
theorem dX0_begin_50 : decode cX0_begin 50 = .ok (.invokevirtual 61, 3) := by decide +kernel
theorem dX0_begin_53 : decode cX0_begin 53 = .ok (.iinc 3 1, 3) := by decide +kernel
theorem dX0_begin_56 : decode cX0_begin 56 = .ok (.goto (-28), 3) := by decide +kernel
theorem dX0_begin_59 : decode cX0_begin 59 = .ok (.return_, 1) := by decide +kernel
theorem dX0_expect_0 : decode cX0_expect 0 = .ok (.aload_n 0, 1) := by decide +kernel
theorem dX0_expect_1 : decode cX0_expect 1 = .ok (.getfield 52, 3) := by decide +kernel
theorem dX0_expect_4 : decode cX0_expect 4 = .ok (.aload_n 0, 1) := by decide +kernel
theorem dX0_expect_5 : decode cX0_expect 5 = .ok (.getfield 9, 3) := by decide +kernel
theorem dX0_expect_8 : decode cX0_expect 8 = .ok (.arraylength, 1) := by decide +kernel
theorem dX0_expect_9 : decode cX0_expect 9 = .ok (.if_icmp .ge 33, 3) := by decide +kernel
theorem dX0_expect_12 : decode cX0_expect 12 = .ok (.aload_n 0, 1) := by decide +kernel
theorem dX0_expect_13 : decode cX0_expect 13 = .ok (.getfield 9, 3) := by decide +kernel
theorem dX0_expect_16 : decode cX0_expect 16 = .ok (.aload_n 0, 1) := by decide +kernel
theorem dX0_expect_17 : decode cX0_expect 17 = .ok (.getfield 52, 3) := by decide +kernel
theorem dX0_expect_20 : decode cX0_expect 20 = .ok (.iload_n 1, 1) := by decide +kernel
theorem dX0_expect_21 : decode cX0_expect 21 = .ok (.iastore, 1) := by decide +kernel
theorem dX0_expect_22 : decode cX0_expect 22 = .ok (.aload_n 0, 1) := by decide +kernel
theorem dX0_expect_23 : decode cX0_expect 23 = .ok (.getfield 15, 3) := by decide +kernel
theorem dX0_expect_26 : decode cX0_expect 26 = .ok (.aload_n 0, 1) := by decide +kernel
theorem dX0_expect_27 : decode cX0_expect 27 = .ok (.getfield 52, 3) := by decide +kernel
theorem dX0_expect_30 : decode cX0_expect 30 = .ok (.iload_n 2, 1) := by decide +kernel
theorem dX0_expect_31 : decode cX0_expect 31 = .ok (.iastore, 1) := by decide +kernel
theorem dX0_expect_32 : decode cX0_expect 32 = .ok (.aload_n 0, 1) := by decide +kernel
theorem dX0_expect_33 : decode cX0_expect 33 = .ok (.dup, 1) := by decide +kernel
theorem dX0_expect_34 : decode cX0_expect 34 = .ok (.getfield 52, 3) := by decide +kernel
theorem dX0_expect_37 : decode cX0_expect 37 = .ok (.iconst 1, 1) := by decide +kernel
theorem dX0_expect_38 : decode cX0_expect 38 = .ok (.iadd, 1) := by decide +kernel
theorem dX0_expect_39 : decode cX0_expect 39 = .ok (.putfield 52, 3) := by decide +kernel
theorem dX0_expect_42 : decode cX0_expect 42 = .ok (.return_, 1) := by decide +kernel
set_option maxRecDepth 20000 in
theorem ggX0_settle_X0_step : GoodIn wsX0_settle wsX0_step := goodIn_r _ [6, 1, 7, 8, 9, 10, 11, 5, 12, 13, 14, 15, 16, 17, 18, 19, 20, 21, 22, 23, 24, 25, 26, 27, 28, 29, 30, 31, 32, 33, 34, 35, 36, 37, 38, 39, 40, 41, 42, 43, 44, 45, 46, 47, 48, 49, 50, 51, 52, 53, 54, 55, 56, 57, 58, 59, 60, 61, 62, 63, 64, 65, 66, 67, 68, 69, 70, 71, 72, 73, 74, 75, 76, 77, 78, 79, 80, 81] (by decide +kernel) (by decide +kernel)
set_option maxRecDepth 20000 in
theorem gX0_settle_X0_step : GoodIn wsX0_settle (wsV RX0 65 RX0 yX0_step wsX0_step) := goodIn_app (goodIn_of _ (by decide +kernel)) ggX0_settle_X0_step
theorem dX0_settle_0 : decode cX0_settle 0 = .ok (.iconst 0, 1) := by decide +kernel
theorem dX0_settle_1 : decode cX0_settle 1 = .ok (.istore 4, 2) := by decide +kernel
theorem dX0_settle_3 : decode cX0_settle 3 = .ok (.iload 4, 2) := by decide +kernel
theorem dX0_settle_5 : decode cX0_settle 5 = .ok (.sipush 500, 3) := by decide +kernel
theorem dX0_settle_8 : decode cX0_settle 8 = .ok (.if_icmp .ge 23, 3) := by decide +kernel
theorem dX0_settle_11 : decode cX0_settle 11 = .ok (.aload_n 0, 1) := by decide +kernel
theorem dX0_settle_12 : decode cX0_settle 12 = .ok (.getfield 52, 3) := by decide +kernel
theorem dX0_settle_15 : decode cX0_settle 15 = .ok (.ifCond .le 16, 3) := by decide +kernel
theorem dX0_settle_18 : decode cX0_settle 18 = .ok (.aload_n 0, 1) := by decide +kernel
theorem dX0_settle_19 : decode cX0_settle 19 = .ok (.aload_n 1, 1) := by decide +kernel
theorem dX0_settle_20 : decode cX0_settle 20 = .ok (.aload_n 2, 1) := by decide +kernel
theorem dX0_settle_21 : decode cX0_settle 21 = .ok (.iload_n 3, 1) := by decide +kernel
theorem dX0_settle_22 : decode cX0_settle 22 = .ok (.invokevirtual 65, 3) := by decide +kernel
theorem dX0_settle_25 : decode cX0_settle 25 = .ok (.iinc 4 1, 3) := by decide +kernel
theorem dX0_settle_28 : decode cX0_settle 28 = .ok (.goto (-25), 3) := by decide +kernel
theorem dX0_settle_31 : decode cX0_settle 31 = .ok (.return_, 1) := by decide +kernel
set_option maxRecDepth 20000 in
theorem ggX0_step_X0_unite : GoodIn wsX0_step wsX0_unite := goodIn_r _ [8, 9, 10, 11, 12, 13, 14, 15, 16, 17, 18, 19, 20, 7, 21, 22, 23, 2, 3, 24, 25, 26, 27, 28, 29, 30, 31, 32, 33, 34, 35, 36, 37, 38, 39, 57, 58, 59, 60, 61, 62, 63, 64, 65, 66, 67, 68, 69, 70, 71, 72, 73, 74, 75, 76, 77] (by decide +kernel) (by decide +kernel)
set_option maxRecDepth 20000 in
theorem gX0_step_X0_unite : GoodIn wsX0_step (wsV RX0 68 RX0 yX0_unite wsX0_unite) := goodIn_app (goodIn_of _ (by decide +kernel)) ggX0_step_X0_unite
set_option maxRecDepth 20000 in
theorem ggX0_step_X0_takeOut : GoodIn wsX0_step wsX0_takeOut := goodIn_r _ [43, 44, 45, 46, 57, 58, 59, 60, 61, 62, 63, 64, 65] (by decide +kernel) (by decide +kernel)
set_option maxRecDepth 20000 in
theorem gX0_step_X0_takeOut : GoodIn wsX0_step (wsV RX0 72 RX0 yX0_takeOut wsX0_takeOut) := goodIn_app (goodIn_of _ (by decide +kernel)) ggX0_step_X0_takeOut
set_option maxRecDepth 20000 in
theorem ggX0_step_X0_place : GoodIn wsX0_step wsX0_place := goodIn_r _ [50, 51, 52, 45, 44, 46, 23, 12, 13, 14, 15, 16, 17, 53, 54, 55, 7, 56, 1, 9, 10, 73, 74, 75, 76, 77, 57, 58, 59, 60, 61, 62, 63, 64, 65, 66, 67, 68, 69, 70, 71, 72] (by decide +kernel) (by decide +kernel)
set_option maxRecDepth 20000 in
theorem gX0_step_X0_place : GoodIn wsX0_step (wsV RX0 61 RX0 yX0_place wsX0_place) := goodIn_app (goodIn_of _ (by decide +kernel)) ggX0_step_X0_place
theorem dX0_step_0 : decode cX0_step 0 = .ok (.iconst 0, 1) := by decide +kernel
theorem dX0_step_1 : decode cX0_step 1 = .ok (.istore 4, 2) := by decide +kernel
theorem dX0_step_3 : decode cX0_step 3 = .ok (.iload 4, 2) := by decide +kernel
theorem dX0_step_5 : decode cX0_step 5 = .ok (.aload_n 0, 1) := by decide +kernel
theorem dX0_step_6 : decode cX0_step 6 = .ok (.getfield 52, 3) := by decide +kernel
theorem dX0_step_9 : decode cX0_step 9 = .ok (.if_icmp .ge 18, 3) := by decide +kernel
theorem dX0_step_12 : decode cX0_step 12 = .ok (.aload_n 0, 1) := by decide +kernel
theorem dX0_step_13 : decode cX0_step 13 = .ok (.aload_n 1, 1) := by decide +kernel
theorem dX0_step_14 : decode cX0_step 14 = .ok (.aload_n 2, 1) := by decide +kernel
theorem dX0_step_15 : decode cX0_step 15 = .ok (.iload 4, 2) := by decide +kernel
theorem dX0_step_17 : decode cX0_step 17 = .ok (.iload_n 3, 1) := by decide +kernel
theorem dX0_step_18 : decode cX0_step 18 = .ok (.invokevirtual 68, 3) := by decide +kernel
theorem dX0_step_21 : decode cX0_step 21 = .ok (.iinc 4 1, 3) := by decide +kernel
theorem dX0_step_24 : decode cX0_step 24 = .ok (.goto (-21), 3) := by decide +kernel
theorem dX0_step_27 : decode cX0_step 27 = .ok (.aload_n 0, 1) := by decide +kernel
theorem dX0_step_28 : decode cX0_step 28 = .ok (.iconst 0, 1) := by decide +kernel
theorem dX0_step_29 : decode cX0_step 29 = .ok (.putfield 52, 3) := by decide +kernel
theorem dX0_step_32 : decode cX0_step 32 = .ok (.iconst 0, 1) := by decide +kernel
theorem dX0_step_33 : decode cX0_step 33 = .ok (.istore 4, 2) := by decide +kernel
theorem dX0_step_35 : decode cX0_step 35 = .ok (.iload 4, 2) := by decide +kernel
theorem dX0_step_37 : decode cX0_step 37 = .ok (.aload_n 0, 1) := by decide +kernel
theorem dX0_step_38 : decode cX0_step 38 = .ok (.getfield 55, 3) := by decide +kernel
theorem dX0_step_41 : decode cX0_step 41 = .ok (.if_icmp .ge 33, 3) := by decide +kernel
theorem dX0_step_44 : decode cX0_step 44 = .ok (.aload_n 0, 1) := by decide +kernel
theorem dX0_step_45 : decode cX0_step 45 = .ok (.aload_n 0, 1) := by decide +kernel
theorem dX0_step_46 : decode cX0_step 46 = .ok (.getfield 31, 3) := by decide +kernel
theorem dX0_step_49 : decode cX0_step 49 = .ok (.iload 4, 2) := by decide +kernel
theorem dX0_step_51 : decode cX0_step 51 = .ok (.iaload, 1) := by decide +kernel
theorem dX0_step_52 : decode cX0_step 52 = .ok (.invokevirtual 72, 3) := by decide +kernel
theorem dX0_step_55 : decode cX0_step 55 = .ok (.aload_n 0, 1) := by decide +kernel
theorem dX0_step_56 : decode cX0_step 56 = .ok (.aload_n 1, 1) := by decide +kernel
theorem dX0_step_57 : decode cX0_step 57 = .ok (.aload_n 2, 1) := by decide +kernel
theorem dX0_step_58 : decode cX0_step 58 = .ok (.aload_n 0, 1) := by decide +kernel
theorem dX0_step_59 : decode cX0_step 59 = .ok (.getfield 31, 3) := by decide +kernel
theorem dX0_step_62 : decode cX0_step 62 = .ok (.iload 4, 2) := by decide +kernel
theorem dX0_step_64 : decode cX0_step 64 = .ok (.iaload, 1) := by decide +kernel
theorem dX0_step_65 : decode cX0_step 65 = .ok (.invokevirtual 61, 3) := by decide +kernel
theorem dX0_step_68 : decode cX0_step 68 = .ok (.iinc 4 1, 3) := by decide +kernel
theorem dX0_step_71 : decode cX0_step 71 = .ok (.goto (-36), 3) := by decide +kernel
theorem dX0_step_74 : decode cX0_step 74 = .ok (.aload_n 0, 1) := by decide +kernel
theorem dX0_step_75 : decode cX0_step 75 = .ok (.iconst 0, 1) := by decide +kernel
theorem dX0_step_76 : decode cX0_step 76 = .ok (.putfield 55, 3) := by decide +kernel
theorem dX0_step_79 : decode cX0_step 79 = .ok (.return_, 1) := by decide +kernel
set_option maxRecDepth 20000 in
theorem ggX0_unite_X1_top : GoodIn wsX0_unite wsX1_top := goodIn_r _ [8, 9, 44, 45, 46, 47, 48, 49, 50] (by decide +kernel) (by decide +kernel)
set_option maxRecDepth 20000 in
theorem gX0_unite_X1_top : GoodIn wsX0_unite (wsV RX0 75 RX1 yX1_top wsX1_top) := goodIn_app (goodIn_of _ (by decide +kernel)) ggX0_unite_X1_top
set_option maxRecDepth 20000 in
theorem ggX0_unite_X0_loosenUsers : GoodIn wsX0_unite wsX0_loosenUsers := goodIn_r _ [14, 3, 15, 16, 17, 18, 19, 20, 44, 45, 46, 47, 48, 49, 50, 51, 52, 53, 54, 55, 35, 36, 37, 38, 39, 40, 41, 42, 43] (by decide +kernel) (by decide +kernel)
set_option maxRecDepth 20000 in
theorem gX0_unite_X0_loosenUsers : GoodIn wsX0_unite (wsV RX0 82 RX0 yX0_loosenUsers wsX0_loosenUsers) := goodIn_app (goodIn_of _ (by decide +kernel)) ggX0_unite_X0_loosenUsers
set_option maxRecDepth 20000 in
theorem ggX0_unite_X1_join : GoodIn wsX0_unite wsX1_join := goodIn_r _ [24, 9, 25, 26, 27, 28, 29, 30, 31, 32, 33, 34, 44, 45, 46, 47, 48, 49, 50] (by decide +kernel) (by decide +kernel)
set_option maxRecDepth 20000 in
theorem gX0_unite_X1_join : GoodIn wsX0_unite (wsV RX0 85 RX1 yX1_join wsX1_join) := goodIn_app (goodIn_of _ (by decide +kernel)) ggX0_unite_X1_join
theorem dX0_unite_0 : decode cX0_unite 0 = .ok (.aload_n 2, 1) := by decide +kernel
theorem dX0_unite_1 : decode cX0_unite 1 = .ok (.aload_n 0, 1) := by decide +kernel
theorem dX0_unite_2 : decode cX0_unite 2 = .ok (.getfield 9, 3) := by decide +kernel
theorem dX0_unite_5 : decode cX0_unite 5 = .ok (.iload_n 3, 1) := by decide +kernel
theorem dX0_unite_6 : decode cX0_unite 6 = .ok (.iaload, 1) := by decide +kernel
theorem dX0_unite_7 : decode cX0_unite 7 = .ok (.invokevirtual 75, 3) := by decide +kernel
theorem dX0_unite_10 : decode cX0_unite 10 = .ok (.istore 5, 2) := by decide +kernel
theorem dX0_unite_12 : decode cX0_unite 12 = .ok (.aload_n 2, 1) := by decide +kernel
theorem dX0_unite_13 : decode cX0_unite 13 = .ok (.aload_n 0, 1) := by decide +kernel
theorem dX0_unite_14 : decode cX0_unite 14 = .ok (.getfield 15, 3) := by decide +kernel
theorem dX0_unite_17 : decode cX0_unite 17 = .ok (.iload_n 3, 1) := by decide +kernel
theorem dX0_unite_18 : decode cX0_unite 18 = .ok (.iaload, 1) := by decide +kernel
theorem dX0_unite_19 : decode cX0_unite 19 = .ok (.invokevirtual 75, 3) := by decide +kernel
theorem dX0_unite_22 : decode cX0_unite 22 = .ok (.istore 6, 2) := by decide +kernel
theorem dX0_unite_24 : decode cX0_unite 24 = .ok (.iload 5, 2) := by decide +kernel
theorem dX0_unite_26 : decode cX0_unite 26 = .ok (.iload 6, 2) := by decide +kernel
theorem dX0_unite_28 : decode cX0_unite 28 = .ok (.if_icmp .ne 4, 3) := by decide +kernel
theorem dX0_unite_31 : decode cX0_unite 31 = .ok (.return_, 1) := by decide +kernel
theorem dX0_unite_32 : decode cX0_unite 32 = .ok (.aload_n 2, 1) := by decide +kernel
theorem dX0_unite_33 : decode cX0_unite 33 = .ok (.getfield 79, 3) := by decide +kernel
theorem dX0_unite_36 : decode cX0_unite 36 = .ok (.iload 5, 2) := by decide +kernel
theorem dX0_unite_38 : decode cX0_unite 38 = .ok (.iaload, 1) := by decide +kernel
theorem dX0_unite_39 : decode cX0_unite 39 = .ok (.aload_n 2, 1) := by decide +kernel
theorem dX0_unite_40 : decode cX0_unite 40 = .ok (.getfield 79, 3) := by decide +kernel
theorem dX0_unite_43 : decode cX0_unite 43 = .ok (.iload 6, 2) := by decide +kernel
theorem dX0_unite_45 : decode cX0_unite 45 = .ok (.iaload, 1) := by decide +kernel
theorem dX0_unite_46 : decode cX0_unite 46 = .ok (.if_icmp .le 7, 3) := by decide +kernel
theorem dX0_unite_49 : decode cX0_unite 49 = .ok (.iconst 1, 1) := by decide +kernel
theorem dX0_unite_50 : decode cX0_unite 50 = .ok (.goto 4, 3) := by decide +kernel
theorem dX0_unite_53 : decode cX0_unite 53 = .ok (.iconst 0, 1) := by decide +kernel
theorem dX0_unite_54 : decode cX0_unite 54 = .ok (.istore 7, 2) := by decide +kernel
theorem dX0_unite_56 : decode cX0_unite 56 = .ok (.iload 7, 2) := by decide +kernel
theorem dX0_unite_58 : decode cX0_unite 58 = .ok (.ifCond .eq 8, 3) := by decide +kernel
theorem dX0_unite_61 : decode cX0_unite 61 = .ok (.iload 6, 2) := by decide +kernel
theorem dX0_unite_63 : decode cX0_unite 63 = .ok (.goto 5, 3) := by decide +kernel
theorem dX0_unite_66 : decode cX0_unite 66 = .ok (.iload 5, 2) := by decide +kernel
theorem dX0_unite_68 : decode cX0_unite 68 = .ok (.istore 8, 2) := by decide +kernel
theorem dX0_unite_70 : decode cX0_unite 70 = .ok (.iload 7, 2) := by decide +kernel
theorem dX0_unite_72 : decode cX0_unite 72 = .ok (.ifCond .eq 8, 3) := by decide +kernel
theorem dX0_unite_75 : decode cX0_unite 75 = .ok (.iload 5, 2) := by decide +kernel
theorem dX0_unite_77 : decode cX0_unite 77 = .ok (.goto 5, 3) := by decide +kernel
theorem dX0_unite_80 : decode cX0_unite 80 = .ok (.iload 6, 2) := by decide +kernel
theorem dX0_unite_82 : decode cX0_unite 82 = .ok (.istore 9, 2) := by decide +kernel
theorem dX0_unite_84 : decode cX0_unite 84 = .ok (.aload_n 0, 1) := by decide +kernel
theorem dX0_unite_85 : decode cX0_unite 85 = .ok (.aload_n 1, 1) := by decide +kernel
theorem dX0_unite_86 : decode cX0_unite 86 = .ok (.aload_n 2, 1) := by decide +kernel
theorem dX0_unite_87 : decode cX0_unite 87 = .ok (.iload 8, 2) := by decide +kernel
theorem dX0_unite_89 : decode cX0_unite 89 = .ok (.invokevirtual 82, 3) := by decide +kernel
theorem dX0_unite_92 : decode cX0_unite 92 = .ok (.aload_n 2, 1) := by decide +kernel
theorem dX0_unite_93 : decode cX0_unite 93 = .ok (.iload 8, 2) := by decide +kernel
theorem dX0_unite_95 : decode cX0_unite 95 = .ok (.iload 9, 2) := by decide +kernel
theorem dX0_unite_97 : decode cX0_unite 97 = .ok (.iload 4, 2) := by decide +kernel
theorem dX0_unite_99 : decode cX0_unite 99 = .ok (.invokevirtual 85, 3) := by decide +kernel
theorem dX0_unite_102 : decode cX0_unite 102 = .ok (.return_, 1) := by decide +kernel
theorem dX0_loosenUsers_0 : decode cX0_loosenUsers 0 = .ok (.iload_n 3, 1) := by decide +kernel
theorem dX0_loosenUsers_1 : decode cX0_loosenUsers 1 = .ok (.istore 4, 2) := by decide +kernel
theorem dX0_loosenUsers_3 : decode cX0_loosenUsers 3 = .ok (.iconst 0, 1) := by decide +kernel
theorem dX0_loosenUsers_4 : decode cX0_loosenUsers 4 = .ok (.istore 5, 2) := by decide +kernel
theorem dX0_loosenUsers_6 : decode cX0_loosenUsers 6 = .ok (.iload 5, 2) := by decide +kernel
theorem dX0_loosenUsers_8 : decode cX0_loosenUsers 8 = .ok (.aload_n 2, 1) := by decide +kernel
theorem dX0_loosenUsers_9 : decode cX0_loosenUsers 9 = .ok (.getfield 79, 3) := by decide +kernel
theorem dX0_loosenUsers_12 : decode cX0_loosenUsers 12 = .ok (.iload_n 3, 1) := by decide +kernel
theorem dX0_loosenUsers_13 : decode cX0_loosenUsers 13 = .ok (.iaload, 1) := by decide +kernel
theorem dX0_loosenUsers_14 : decode cX0_loosenUsers 14 = .ok (.if_icmp .ge 116, 3) := by decide +kernel
theorem dX0_loosenUsers_17 : decode cX0_loosenUsers 17 = .ok (.aload_n 1, 1) := by decide +kernel
theorem dX0_loosenUsers_18 : decode cX0_loosenUsers 18 = .ok (.getfield 89, 3) := by decide +kernel
theorem dX0_loosenUsers_21 : decode cX0_loosenUsers 21 = .ok (.iload 4, 2) := by decide +kernel
theorem dX0_loosenUsers_23 : decode cX0_loosenUsers 23 = .ok (.iaload, 1) := by decide +kernel
theorem dX0_loosenUsers_24 : decode cX0_loosenUsers 24 = .ok (.istore 6, 2) := by decide +kernel
theorem dX0_loosenUsers_26 : decode cX0_loosenUsers 26 = .ok (.iconst 0, 1) := by decide +kernel
theorem dX0_loosenUsers_27 : decode cX0_loosenUsers 27 = .ok (.istore 7, 2) := by decide +kernel
theorem dX0_loosenUsers_29 : decode cX0_loosenUsers 29 = .ok (.iload 7, 2) := by decide +kernel
theorem dX0_loosenUsers_31 : decode cX0_loosenUsers 31 = .ok (.sipush 500, 3) := by decide +kernel
theorem dX0_loosenUsers_34 : decode cX0_loosenUsers 34 = .ok (.if_icmp .ge 81, 3) := by decide +kernel
theorem dX0_loosenUsers_37 : decode cX0_loosenUsers 37 = .ok (.iload 6, 2) := by decide +kernel
theorem dX0_loosenUsers_39 : decode cX0_loosenUsers 39 = .ok (.iconst (-1), 1) := by decide +kernel
theorem dX0_loosenUsers_40 : decode cX0_loosenUsers 40 = .ok (.if_icmp .eq 75, 3) := by decide +kernel
theorem dX0_loosenUsers_43 : decode cX0_loosenUsers 43 = .ok (.iload 6, 2) := by decide +kernel
theorem dX0_loosenUsers_45 : decode cX0_loosenUsers 45 = .ok (.iconst 2, 1) := by decide +kernel
theorem dX0_loosenUsers_46 : decode cX0_loosenUsers 46 = .ok (.idiv, 1) := by decide +kernel
theorem dX0_loosenUsers_47 : decode cX0_loosenUsers 47 = .ok (.istore 8, 2) := by decide +kernel
theorem dX0_loosenUsers_49 : decode cX0_loosenUsers 49 = .ok (.aload_n 0, 1) := by decide +kernel
theorem dX0_loosenUsers_50 : decode cX0_loosenUsers 50 = .ok (.getfield 27, 3) := by decide +kernel
theorem dX0_loosenUsers_53 : decode cX0_loosenUsers 53 = .ok (.iload 8, 2) := by decide +kernel
theorem dX0_loosenUsers_55 : decode cX0_loosenUsers 55 = .ok (.baload, 1) := by decide +kernel
theorem dX0_loosenUsers_56 : decode cX0_loosenUsers 56 = .ok (.ifCond .eq 44, 3) := by decide +kernel
theorem dX0_loosenUsers_59 : decode cX0_loosenUsers 59 = .ok (.aload_n 0, 1) := by decide +kernel
theorem dX0_loosenUsers_60 : decode cX0_loosenUsers 60 = .ok (.getfield 55, 3) := by decide +kernel
theorem dX0_loosenUsers_63 : decode cX0_loosenUsers 63 = .ok (.aload_n 0, 1) := by decide +kernel
theorem dX0_loosenUsers_64 : decode cX0_loosenUsers 64 = .ok (.getfield 31, 3) := by decide +kernel
theorem dX0_loosenUsers_67 : decode cX0_loosenUsers 67 = .ok (.arraylength, 1) := by decide +kernel
theorem dX0_loosenUsers_68 : decode cX0_loosenUsers 68 = .ok (.if_icmp .ge 32, 3) := by decide +kernel
theorem dX0_loosenUsers_71 : decode cX0_loosenUsers 71 = .ok (.aload_n 0, 1) := by decide +kernel
theorem dX0_loosenUsers_72 : decode cX0_loosenUsers 72 = .ok (.getfield 27, 3) := by decide +kernel
theorem dX0_loosenUsers_75 : decode cX0_loosenUsers 75 = .ok (.iload 8, 2) := by decide +kernel
theorem dX0_loosenUsers_77 : decode cX0_loosenUsers 77 = .ok (.iconst 0, 1) := by decide +kernel
theorem dX0_loosenUsers_78 : decode cX0_loosenUsers 78 = .ok (.bastore, 1) := by decide +kernel
theorem dX0_loosenUsers_79 : decode cX0_loosenUsers 79 = .ok (.aload_n 0, 1) := by decide +kernel
theorem dX0_loosenUsers_80 : decode cX0_loosenUsers 80 = .ok (.getfield 31, 3) := by decide +kernel
theorem dX0_loosenUsers_83 : decode cX0_loosenUsers 83 = .ok (.aload_n 0, 1) := by decide +kernel
theorem dX0_loosenUsers_84 : decode cX0_loosenUsers 84 = .ok (.getfield 55, 3) := by decide +kernel
theorem dX0_loosenUsers_87 : decode cX0_loosenUsers 87 = .ok (.iload 8, 2) := by decide +kernel
theorem dX0_loosenUsers_89 : decode cX0_loosenUsers 89 = .ok (.iastore, 1) := by decide +kernel
theorem dX0_loosenUsers_90 : decode cX0_loosenUsers 90 = .ok (.aload_n 0, 1) := by decide +kernel
theorem dX0_loosenUsers_91 : decode cX0_loosenUsers 91 = .ok (.dup, 1) := by decide +kernel
theorem dX0_loosenUsers_92 : decode cX0_loosenUsers 92 = .ok (.getfield 55, 3) := by decide +kernel
theorem dX0_loosenUsers_95 : decode cX0_loosenUsers 95 = .ok (.iconst 1, 1) := by decide +kernel
theorem dX0_loosenUsers_96 : decode cX0_loosenUsers 96 = .ok (.iadd, 1) := by decide +kernel
theorem dX0_loosenUsers_97 : decode cX0_loosenUsers 97 = .ok (.putfield 55, 3) := by decide +kernel
theorem dX0_loosenUsers_100 : decode cX0_loosenUsers 100 = .ok (.aload_n 1, 1) := by decide +kernel
theorem dX0_loosenUsers_101 : decode cX0_loosenUsers 101 = .ok (.getfield 92, 3) := by decide +kernel
theorem dX0_loosenUsers_104 : decode cX0_loosenUsers 104 = .ok (.iload 6, 2) := by decide +kernel
theorem dX0_loosenUsers_106 : decode cX0_loosenUsers 106 = .ok (.iaload, 1) := by decide +kernel
theorem dX0_loosenUsers_107 : decode cX0_loosenUsers 107 = .ok (.istore 6, 2) := by decide +kernel
theorem dX0_loosenUsers_109 : decode cX0_loosenUsers 109 = .ok (.iinc 7 1, 3) := by decide +kernel
theorem dX0_loosenUsers_112 : decode cX0_loosenUsers 112 = .ok (.goto (-83), 3) := by decide +kernel
theorem dX0_loosenUsers_115 : decode cX0_loosenUsers 115 = .ok (.aload_n 2, 1) := by decide +kernel
theorem dX0_loosenUsers_116 : decode cX0_loosenUsers 116 = .ok (.getfield 95, 3) := by decide +kernel
theorem dX0_loosenUsers_119 : decode cX0_loosenUsers 119 = .ok (.iload 4, 2) := by decide +kernel
theorem dX0_loosenUsers_121 : decode cX0_loosenUsers 121 = .ok (.iaload, 1) := by decide +kernel
theorem dX0_loosenUsers_122 : decode cX0_loosenUsers 122 = .ok (.istore 4, 2) := by decide +kernel
theorem dX0_loosenUsers_124 : decode cX0_loosenUsers 124 = .ok (.iinc 5 1, 3) := by decide +kernel
theorem dX0_loosenUsers_127 : decode cX0_loosenUsers 127 = .ok (.goto (-121), 3) := by decide +kernel
theorem dX0_loosenUsers_130 : decode cX0_loosenUsers 130 = .ok (.return_, 1) := by decide +kernel
theorem dX0_takeOut_0 : decode cX0_takeOut 0 = .ok (.aload_n 0, 1) := by decide +kernel
theorem dX0_takeOut_1 : decode cX0_takeOut 1 = .ok (.getfield 24, 3) := by decide +kernel
theorem dX0_takeOut_4 : decode cX0_takeOut 4 = .ok (.iload_n 1, 1) := by decide +kernel
theorem dX0_takeOut_5 : decode cX0_takeOut 5 = .ok (.iaload, 1) := by decide +kernel
theorem dX0_takeOut_6 : decode cX0_takeOut 6 = .ok (.sipush 256, 3) := by decide +kernel
theorem dX0_takeOut_9 : decode cX0_takeOut 9 = .ok (.irem, 1) := by decide +kernel
theorem dX0_takeOut_10 : decode cX0_takeOut 10 = .ok (.istore_n 2, 1) := by decide +kernel
theorem dX0_takeOut_11 : decode cX0_takeOut 11 = .ok (.aload_n 0, 1) := by decide +kernel
theorem dX0_takeOut_12 : decode cX0_takeOut 12 = .ok (.getfield 18, 3) := by decide +kernel
theorem dX0_takeOut_15 : decode cX0_takeOut 15 = .ok (.iload_n 2, 1) := by decide +kernel
theorem dX0_takeOut_16 : decode cX0_takeOut 16 = .ok (.iaload, 1) := by decide +kernel
theorem dX0_takeOut_17 : decode cX0_takeOut 17 = .ok (.iload_n 1, 1) := by decide +kernel
theorem dX0_takeOut_18 : decode cX0_takeOut 18 = .ok (.if_icmp .ne 16, 3) := by decide +kernel
theorem dX0_takeOut_21 : decode cX0_takeOut 21 = .ok (.aload_n 0, 1) := by decide +kernel
theorem dX0_takeOut_22 : decode cX0_takeOut 22 = .ok (.getfield 18, 3) := by decide +kernel
theorem dX0_takeOut_25 : decode cX0_takeOut 25 = .ok (.iload_n 2, 1) := by decide +kernel
theorem dX0_takeOut_26 : decode cX0_takeOut 26 = .ok (.aload_n 0, 1) := by decide +kernel
theorem dX0_takeOut_27 : decode cX0_takeOut 27 = .ok (.getfield 21, 3) := by decide +kernel
theorem dX0_takeOut_30 : decode cX0_takeOut 30 = .ok (.iload_n 1, 1) := by decide +kernel
theorem dX0_takeOut_31 : decode cX0_takeOut 31 = .ok (.iaload, 1) := by decide +kernel
theorem dX0_takeOut_32 : decode cX0_takeOut 32 = .ok (.iastore, 1) := by decide +kernel
theorem dX0_takeOut_33 : decode cX0_takeOut 33 = .ok (.return_, 1) := by decide +kernel
theorem dX0_takeOut_34 : decode cX0_takeOut 34 = .ok (.aload_n 0, 1) := by decide +kernel
theorem dX0_takeOut_35 : decode cX0_takeOut 35 = .ok (.getfield 18, 3) := by decide +kernel
theorem dX0_takeOut_38 : decode cX0_takeOut 38 = .ok (.iload_n 2, 1) := by decide +kernel
theorem dX0_takeOut_39 : decode cX0_takeOut 39 = .ok (.iaload, 1) := by decide +kernel
theorem dX0_takeOut_40 : decode cX0_takeOut 40 = .ok (.istore_n 3, 1) := by decide +kernel
theorem dX0_takeOut_41 : decode cX0_takeOut 41 = .ok (.iconst 0, 1) := by decide +kernel
theorem dX0_takeOut_42 : decode cX0_takeOut 42 = .ok (.istore 4, 2) := by decide +kernel
theorem dX0_takeOut_44 : decode cX0_takeOut 44 = .ok (.iload 4, 2) := by decide +kernel
theorem dX0_takeOut_46 : decode cX0_takeOut 46 = .ok (.sipush 250, 3) := by decide +kernel
theorem dX0_takeOut_49 : decode cX0_takeOut 49 = .ok (.if_icmp .ge 44, 3) := by decide +kernel
theorem dX0_takeOut_52 : decode cX0_takeOut 52 = .ok (.iload_n 3, 1) := by decide +kernel
theorem dX0_takeOut_53 : decode cX0_takeOut 53 = .ok (.iconst (-1), 1) := by decide +kernel
theorem dX0_takeOut_54 : decode cX0_takeOut 54 = .ok (.if_icmp .eq 39, 3) := by decide +kernel
theorem dX0_takeOut_57 : decode cX0_takeOut 57 = .ok (.aload_n 0, 1) := by decide +kernel
theorem dX0_takeOut_58 : decode cX0_takeOut 58 = .ok (.getfield 21, 3) := by decide +kernel
theorem dX0_takeOut_61 : decode cX0_takeOut 61 = .ok (.iload_n 3, 1) := by decide +kernel
theorem dX0_takeOut_62 : decode cX0_takeOut 62 = .ok (.iaload, 1) := by decide +kernel
theorem dX0_takeOut_63 : decode cX0_takeOut 63 = .ok (.iload_n 1, 1) := by decide +kernel
theorem dX0_takeOut_64 : decode cX0_takeOut 64 = .ok (.if_icmp .ne 16, 3) := by decide +kernel
theorem dX0_takeOut_67 : decode cX0_takeOut 67 = .ok (.aload_n 0, 1) := by decide +kernel
theorem dX0_takeOut_68 : decode cX0_takeOut 68 = .ok (.getfield 21, 3) := by decide +kernel
theorem dX0_takeOut_71 : decode cX0_takeOut 71 = .ok (.iload_n 3, 1) := by decide +kernel
theorem dX0_takeOut_72 : decode cX0_takeOut 72 = .ok (.aload_n 0, 1) := by decide +kernel
theorem dX0_takeOut_73 : decode cX0_takeOut 73 = .ok (.getfield 21, 3) := by decide +kernel
theorem dX0_takeOut_76 : decode cX0_takeOut 76 = .ok (.iload_n 1, 1) := by decide +kernel
theorem dX0_takeOut_77 : decode cX0_takeOut 77 = .ok (.iaload, 1) := by decide +kernel
theorem dX0_takeOut_78 : decode cX0_takeOut 78 = .ok (.iastore, 1) := by decide +kernel
theorem dX0_takeOut_79 : decode cX0_takeOut 79 = .ok (.return_, 1) := by decide +kernel
theorem dX0_takeOut_80 : decode cX0_takeOut 80 = .ok (.aload_n 0, 1) := by decide +kernel
theorem dX0_takeOut_81 : decode cX0_takeOut 81 = .ok (.getfield 21, 3) := by decide +kernel
theorem dX0_takeOut_84 : decode cX0_takeOut 84 = .ok (.iload_n 3, 1) := by decide +kernel
theorem dX0_takeOut_85 : decode cX0_takeOut 85 = .ok (.iaload, 1) := by decide +kernel
theorem dX0_takeOut_86 : decode cX0_takeOut 86 = .ok (.istore_n 3, 1) := by decide +kernel
theorem dX0_takeOut_87 : decode cX0_takeOut 87 = .ok (.iinc 4 1, 3) := by decide +kernel
theorem dX0_takeOut_90 : decode cX0_takeOut 90 = .ok (.goto (-46), 3) := by decide +kernel
theorem dX0_takeOut_93 : decode cX0_takeOut 93 = .ok (.return_, 1) := by decide +kernel
set_option maxRecDepth 20000 in
theorem ggX0_place_X1_top : GoodIn wsX0_place wsX1_top := goodIn_r _ [11, 12, 35, 36, 37, 38, 39, 40, 41] (by decide +kernel) (by decide +kernel)
set_option maxRecDepth 20000 in
theorem gX0_place_X1_top : GoodIn wsX0_place (wsV RX0 75 RX1 yX1_top wsX1_top) := goodIn_app (goodIn_of _ (by decide +kernel)) ggX0_place_X1_top
set_option maxRecDepth 20000 in
theorem ggX0_place_X0_expect : GoodIn wsX0_place wsX0_expect := goodIn_r _ [17, 18, 19, 20, 26, 27, 28, 29, 30, 31, 32, 33, 34] (by decide +kernel) (by decide +kernel)
set_option maxRecDepth 20000 in
theorem gX0_place_X0_expect : GoodIn wsX0_place (wsV RX0 101 RX0 yX0_expect wsX0_expect) := goodIn_app (goodIn_of _ (by decide +kernel)) ggX0_place_X0_expect
theorem dX0_place_0 : decode cX0_place 0 = .ok (.aload_n 2, 1) := by decide +kernel
theorem dX0_place_1 : decode cX0_place 1 = .ok (.aload_n 1, 1) := by decide +kernel
theorem dX0_place_2 : decode cX0_place 2 = .ok (.getfield 58, 3) := by decide +kernel
theorem dX0_place_5 : decode cX0_place 5 = .ok (.iload_n 3, 1) := by decide +kernel
theorem dX0_place_6 : decode cX0_place 6 = .ok (.iaload, 1) := by decide +kernel
theorem dX0_place_7 : decode cX0_place 7 = .ok (.invokevirtual 75, 3) := by decide +kernel
theorem dX0_place_10 : decode cX0_place 10 = .ok (.sipush 250, 3) := by decide +kernel
theorem dX0_place_13 : decode cX0_place 13 = .ok (.imul, 1) := by decide +kernel
theorem dX0_place_14 : decode cX0_place 14 = .ok (.aload_n 2, 1) := by decide +kernel
theorem dX0_place_15 : decode cX0_place 15 = .ok (.aload_n 1, 1) := by decide +kernel
theorem dX0_place_16 : decode cX0_place 16 = .ok (.getfield 98, 3) := by decide +kernel
theorem dX0_place_19 : decode cX0_place 19 = .ok (.iload_n 3, 1) := by decide +kernel
theorem dX0_place_20 : decode cX0_place 20 = .ok (.iaload, 1) := by decide +kernel
theorem dX0_place_21 : decode cX0_place 21 = .ok (.invokevirtual 75, 3) := by decide +kernel
theorem dX0_place_24 : decode cX0_place 24 = .ok (.iadd, 1) := by decide +kernel
theorem dX0_place_25 : decode cX0_place 25 = .ok (.istore 4, 2) := by decide +kernel
theorem dX0_place_27 : decode cX0_place 27 = .ok (.iload 4, 2) := by decide +kernel
theorem dX0_place_29 : decode cX0_place 29 = .ok (.sipush 256, 3) := by decide +kernel
theorem dX0_place_32 : decode cX0_place 32 = .ok (.irem, 1) := by decide +kernel
theorem dX0_place_33 : decode cX0_place 33 = .ok (.istore 5, 2) := by decide +kernel
theorem dX0_place_35 : decode cX0_place 35 = .ok (.aload_n 0, 1) := by decide +kernel
theorem dX0_place_36 : decode cX0_place 36 = .ok (.getfield 18, 3) := by decide +kernel
theorem dX0_place_39 : decode cX0_place 39 = .ok (.iload 5, 2) := by decide +kernel
theorem dX0_place_41 : decode cX0_place 41 = .ok (.iaload, 1) := by decide +kernel
theorem dX0_place_42 : decode cX0_place 42 = .ok (.istore 6, 2) := by decide +kernel
theorem dX0_place_44 : decode cX0_place 44 = .ok (.iconst 0, 1) := by decide +kernel
theorem dX0_place_45 : decode cX0_place 45 = .ok (.istore 7, 2) := by decide +kernel
theorem dX0_place_47 : decode cX0_place 47 = .ok (.iload 7, 2) := by decide +kernel
theorem dX0_place_49 : decode cX0_place 49 = .ok (.sipush 250, 3) := by decide +kernel
theorem dX0_place_52 : decode cX0_place 52 = .ok (.if_icmp .ge 44, 3) := by decide +kernel
theorem dX0_place_55 : decode cX0_place 55 = .ok (.iload 6, 2) := by decide +kernel
theorem dX0_place_57 : decode cX0_place 57 = .ok (.iconst (-1), 1) := by decide +kernel
theorem dX0_place_58 : decode cX0_place 58 = .ok (.if_icmp .eq 38, 3) := by decide +kernel
theorem dX0_place_61 : decode cX0_place 61 = .ok (.aload_n 0, 1) := by decide +kernel
theorem dX0_place_62 : decode cX0_place 62 = .ok (.getfield 24, 3) := by decide +kernel
theorem dX0_place_65 : decode cX0_place 65 = .ok (.iload 6, 2) := by decide +kernel
theorem dX0_place_67 : decode cX0_place 67 = .ok (.iaload, 1) := by decide +kernel
theorem dX0_place_68 : decode cX0_place 68 = .ok (.iload 4, 2) := by decide +kernel
theorem dX0_place_70 : decode cX0_place 70 = .ok (.if_icmp .ne 11, 3) := by decide +kernel
theorem dX0_place_73 : decode cX0_place 73 = .ok (.aload_n 0, 1) := by decide +kernel
theorem dX0_place_74 : decode cX0_place 74 = .ok (.iload_n 3, 1) := by decide +kernel
theorem dX0_place_75 : decode cX0_place 75 = .ok (.iload 6, 2) := by decide +kernel
theorem dX0_place_77 : decode cX0_place 77 = .ok (.invokevirtual 101, 3) := by decide +kernel
theorem dX0_place_80 : decode cX0_place 80 = .ok (.return_, 1) := by decide +kernel
theorem dX0_place_81 : decode cX0_place 81 = .ok (.aload_n 0, 1) := by decide +kernel
theorem dX0_place_82 : decode cX0_place 82 = .ok (.getfield 21, 3) := by decide +kernel
theorem dX0_place_85 : decode cX0_place 85 = .ok (.iload 6, 2) := by decide +kernel
theorem dX0_place_87 : decode cX0_place 87 = .ok (.iaload, 1) := by decide +kernel
theorem dX0_place_88 : decode cX0_place 88 = .ok (.istore 6, 2) := by decide +kernel
theorem dX0_place_90 : decode cX0_place 90 = .ok (.iinc 7 1, 3) := by decide +kernel
theorem dX0_place_93 : decode cX0_place 93 = .ok (.goto (-46), 3) := by decide +kernel
theorem dX0_place_96 : decode cX0_place 96 = .ok (.aload_n 0, 1) := by decide +kernel
theorem dX0_place_97 : decode cX0_place 97 = .ok (.getfield 27, 3) := by decide +kernel
theorem dX0_place_100 : decode cX0_place 100 = .ok (.iload_n 3, 1) := by decide +kernel
theorem dX0_place_101 : decode cX0_place 101 = .ok (.iconst 1, 1) := by decide +kernel
theorem dX0_place_102 : decode cX0_place 102 = .ok (.bastore, 1) := by decide +kernel
theorem dX0_place_103 : decode cX0_place 103 = .ok (.aload_n 0, 1) := by decide +kernel
theorem dX0_place_104 : decode cX0_place 104 = .ok (.getfield 24, 3) := by decide +kernel
theorem dX0_place_107 : decode cX0_place 107 = .ok (.iload_n 3, 1) := by decide +kernel
theorem dX0_place_108 : decode cX0_place 108 = .ok (.iload 4, 2) := by decide +kernel
theorem dX0_place_110 : decode cX0_place 110 = .ok (.iastore, 1) := by decide +kernel
theorem dX0_place_111 : decode cX0_place 111 = .ok (.aload_n 0, 1) := by decide +kernel
theorem dX0_place_112 : decode cX0_place 112 = .ok (.getfield 21, 3) := by decide +kernel
theorem dX0_place_115 : decode cX0_place 115 = .ok (.iload_n 3, 1) := by decide +kernel
theorem dX0_place_116 : decode cX0_place 116 = .ok (.aload_n 0, 1) := by decide +kernel
theorem dX0_place_117 : decode cX0_place 117 = .ok (.getfield 18, 3) := by decide +kernel
theorem dX0_place_120 : decode cX0_place 120 = .ok (.iload 5, 2) := by decide +kernel
theorem dX0_place_122 : decode cX0_place 122 = .ok (.iaload, 1) := by decide +kernel
theorem dX0_place_123 : decode cX0_place 123 = .ok (.iastore, 1) := by decide +kernel
theorem dX0_place_124 : decode cX0_place 124 = .ok (.aload_n 0, 1) := by decide +kernel
theorem dX0_place_125 : decode cX0_place 125 = .ok (.getfield 18, 3) := by decide +kernel
theorem dX0_place_128 : decode cX0_place 128 = .ok (.iload 5, 2) := by decide +kernel
theorem dX0_place_130 : decode cX0_place 130 = .ok (.iload_n 3, 1) := by decide +kernel
theorem dX0_place_131 : decode cX0_place 131 = .ok (.iastore, 1) := by decide +kernel
theorem dX0_place_132 : decode cX0_place 132 = .ok (.return_, 1) := by decide +kernel
theorem dX1_init_0 : decode cX1_init 0 = .ok (.aload_n 0, 1) := by decide +kernel
theorem dX1_init_1 : decode cX1_init 1 = .ok (.invokespecial 3, 3) := by decide +kernel
theorem dX1_init_4 : decode cX1_init 4 = .ok (.aload_n 0, 1) := by decide +kernel
theorem dX1_init_5 : decode cX1_init 5 = .ok (.sipush 250, 3) := by decide +kernel
theorem dX1_init_8 : decode cX1_init 8 = .ok (.newarray .int, 2) := by decide +kernel
theorem dX1_init_10 : decode cX1_init 10 = .ok (.putfield 9, 3) := by decide +kernel
theorem dX1_init_13 : decode cX1_init 13 = .ok (.aload_n 0, 1) := by decide +kernel
theorem dX1_init_14 : decode cX1_init 14 = .ok (.sipush 250, 3) := by decide +kernel
theorem dX1_init_17 : decode cX1_init 17 = .ok (.newarray .int, 2) := by decide +kernel
theorem dX1_init_19 : decode cX1_init 19 = .ok (.putfield 15, 3) := by decide +kernel
theorem dX1_init_22 : decode cX1_init 22 = .ok (.aload_n 0, 1) := by decide +kernel
theorem dX1_init_23 : decode cX1_init 23 = .ok (.sipush 250, 3) := by decide +kernel
theorem dX1_init_26 : decode cX1_init 26 = .ok (.newarray .int, 2) := by decide +kernel
theorem dX1_init_28 : decode cX1_init 28 = .ok (.putfield 18, 3) := by decide +kernel
theorem dX1_init_31 : decode cX1_init 31 = .ok (.aload_n 0, 1) := by decide +kernel
theorem dX1_init_32 : decode cX1_init 32 = .ok (.sipush 250, 3) := by decide +kernel
theorem dX1_init_35 : decode cX1_init 35 = .ok (.newarray .int, 2) := by decide +kernel
theorem dX1_init_37 : decode cX1_init 37 = .ok (.putfield 21, 3) := by decide +kernel
theorem dX1_init_40 : decode cX1_init 40 = .ok (.aload_n 0, 1) := by decide +kernel
theorem dX1_init_41 : decode cX1_init 41 = .ok (.sipush 250, 3) := by decide +kernel
theorem dX1_init_44 : decode cX1_init 44 = .ok (.newarray .int, 2) := by decide +kernel
theorem dX1_init_46 : decode cX1_init 46 = .ok (.putfield 24, 3) := by decide +kernel
theorem dX1_init_49 : decode cX1_init 49 = .ok (.return_, 1) := by decide +kernel
theorem dX1_plant_0 : decode cX1_plant 0 = .ok (.iconst 0, 1) := by decide +kernel
theorem dX1_plant_1 : decode cX1_plant 1 = .ok (.istore_n 2, 1) := by decide +kernel
theorem dX1_plant_2 : decode cX1_plant 2 = .ok (.iload_n 2, 1) := by decide +kernel
theorem dX1_plant_3 : decode cX1_plant 3 = .ok (.iload_n 1, 1) := by decide +kernel
theorem dX1_plant_4 : decode cX1_plant 4 = .ok (.if_icmp .ge 45, 3) := by decide +kernel
theorem dX1_plant_7 : decode cX1_plant 7 = .ok (.aload_n 0, 1) := by decide +kernel
theorem dX1_plant_8 : decode cX1_plant 8 = .ok (.getfield 9, 3) := by decide +kernel
theorem dX1_plant_11 : decode cX1_plant 11 = .ok (.iload_n 2, 1) := by decide +kernel
theorem dX1_plant_12 : decode cX1_plant 12 = .ok (.iconst 1, 1) := by decide +kernel
theorem dX1_plant_13 : decode cX1_plant 13 = .ok (.iastore, 1) := by decide +kernel
theorem dX1_plant_14 : decode cX1_plant 14 = .ok (.aload_n 0, 1) := by decide +kernel
theorem dX1_plant_15 : decode cX1_plant 15 = .ok (.getfield 15, 3) := by decide +kernel
theorem dX1_plant_18 : decode cX1_plant 18 = .ok (.iload_n 2, 1) := by decide +kernel
theorem dX1_plant_19 : decode cX1_plant 19 = .ok (.iload_n 2, 1) := by decide +kernel
theorem dX1_plant_20 : decode cX1_plant 20 = .ok (.iastore, 1) := by decide +kernel
theorem dX1_plant_21 : decode cX1_plant 21 = .ok (.aload_n 0, 1) := by decide +kernel
theorem dX1_plant_22 : decode cX1_plant 22 = .ok (.getfield 18, 3) := by decide +kernel
theorem dX1_plant_25 : decode cX1_plant 25 = .ok (.iload_n 2, 1) := by decide +kernel
theorem dX1_plant_26 : decode cX1_plant 26 = .ok (.iload_n 2, 1) := by decide +kernel
theorem dX1_plant_27 : decode cX1_plant 27 = .ok (.iastore, 1) := by decide +kernel
theorem dX1_plant_28 : decode cX1_plant 28 = .ok (.aload_n 0, 1) := by decide +kernel
theorem dX1_plant_29 : decode cX1_plant 29 = .ok (.getfield 21, 3) := by decide +kernel
theorem dX1_plant_32 : decode cX1_plant 32 = .ok (.iload_n 2, 1) := by decide +kernel
theorem dX1_plant_33 : decode cX1_plant 33 = .ok (.iload_n 2, 1) := by decide +kernel
theorem dX1_plant_34 : decode cX1_plant 34 = .ok (.iastore, 1) := by decide +kernel
theorem dX1_plant_35 : decode cX1_plant 35 = .ok (.aload_n 0, 1) := by decide +kernel
theorem dX1_plant_36 : decode cX1_plant 36 = .ok (.getfield 24, 3) := by decide +kernel
theorem dX1_plant_39 : decode cX1_plant 39 = .ok (.iload_n 2, 1) := by decide +kernel
theorem dX1_plant_40 : decode cX1_plant 40 = .ok (.ldc 27, 2) := by decide +kernel
theorem dX1_plant_42 : decode cX1_plant 42 = .ok (.iastore, 1) := by decide +kernel
theorem dX1_plant_43 : decode cX1_plant 43 = .ok (.iinc 2 1, 3) := by decide +kernel
theorem dX1_plant_46 : decode cX1_plant 46 = .ok (.goto (-44), 3) := by decide +kernel
theorem dX1_plant_49 : decode cX1_plant 49 = .ok (.aload_n 0, 1) := by decide +kernel
theorem dX1_plant_50 : decode cX1_plant 50 = .ok (.iload_n 1, 1) := by decide +kernel
theorem dX1_plant_51 : decode cX1_plant 51 = .ok (.putfield 28, 3) := by decide +kernel
theorem dX1_plant_54 : decode cX1_plant 54 = .ok (.aload_n 0, 1) := by decide +kernel
theorem dX1_plant_55 : decode cX1_plant 55 = .ok (.iconst 0, 1) := by decide +kernel
theorem dX1_plant_56 : decode cX1_plant 56 = .ok (.putfield 32, 3) := by decide +kernel
theorem dX1_plant_59 : decode cX1_plant 59 = .ok (.return_, 1) := by decide +kernel
theorem dX1_top_0 : decode cX1_top 0 = .ok (.iload_n 1, 1) := by decide +kernel
theorem dX1_top_1 : decode cX1_top 1 = .ok (.istore_n 2, 1) := by decide +kernel
theorem dX1_top_2 : decode cX1_top 2 = .ok (.iconst 0, 1) := by decide +kernel
theorem dX1_top_3 : decode cX1_top 3 = .ok (.istore_n 3, 1) := by decide +kernel
theorem dX1_top_4 : decode cX1_top 4 = .ok (.iload_n 3, 1) := by decide +kernel
theorem dX1_top_5 : decode cX1_top 5 = .ok (.sipush 250, 3) := by decide +kernel
theorem dX1_top_8 : decode cX1_top 8 = .ok (.if_icmp .ge 26, 3) := by decide +kernel
theorem dX1_top_11 : decode cX1_top 11 = .ok (.aload_n 0, 1) := by decide +kernel
theorem dX1_top_12 : decode cX1_top 12 = .ok (.getfield 21, 3) := by decide +kernel
theorem dX1_top_15 : decode cX1_top 15 = .ok (.iload_n 2, 1) := by decide +kernel
theorem dX1_top_16 : decode cX1_top 16 = .ok (.iaload, 1) := by decide +kernel
theorem dX1_top_17 : decode cX1_top 17 = .ok (.iload_n 2, 1) := by decide +kernel
theorem dX1_top_18 : decode cX1_top 18 = .ok (.if_icmp .eq 16, 3) := by decide +kernel
theorem dX1_top_21 : decode cX1_top 21 = .ok (.aload_n 0, 1) := by decide +kernel
theorem dX1_top_22 : decode cX1_top 22 = .ok (.getfield 21, 3) := by decide +kernel
theorem dX1_top_25 : decode cX1_top 25 = .ok (.iload_n 2, 1) := by decide +kernel
theorem dX1_top_26 : decode cX1_top 26 = .ok (.iaload, 1) := by decide +kernel
theorem dX1_top_27 : decode cX1_top 27 = .ok (.istore_n 2, 1) := by decide +kernel
theorem dX1_top_28 : decode cX1_top 28 = .ok (.iinc 3 1, 3) := by decide +kernel
theorem dX1_top_31 : decode cX1_top 31 = .ok (.goto (-27), 3) := by decide +kernel
theorem dX1_top_34 : decode cX1_top 34 = .ok (.iload_n 2, 1) := by decide +kernel
theorem dX1_top_35 : decode cX1_top 35 = .ok (.ireturn, 1) := by decide +kernel
theorem dX1_meeting_0 : decode cX1_meeting 0 = .ok (.iload_n 1, 1) := by decide +kernel
theorem dX1_meeting_1 : decode cX1_meeting 1 = .ok (.istore_n 3, 1) := by decide +kernel
theorem dX1_meeting_2 : decode cX1_meeting 2 = .ok (.iload_n 2, 1) := by decide +kernel
theorem dX1_meeting_3 : decode cX1_meeting 3 = .ok (.istore 4, 2) := by decide +kernel
theorem dX1_meeting_5 : decode cX1_meeting 5 = .ok (.iconst 0, 1) := by decide +kernel
theorem dX1_meeting_6 : decode cX1_meeting 6 = .ok (.istore 5, 2) := by decide +kernel
theorem dX1_meeting_8 : decode cX1_meeting 8 = .ok (.iconst 0, 1) := by decide +kernel
theorem dX1_meeting_9 : decode cX1_meeting 9 = .ok (.istore 6, 2) := by decide +kernel
theorem dX1_meeting_11 : decode cX1_meeting 11 = .ok (.iload 6, 2) := by decide +kernel
theorem dX1_meeting_13 : decode cX1_meeting 13 = .ok (.sipush 500, 3) := by decide +kernel
theorem dX1_meeting_16 : decode cX1_meeting 16 = .ok (.if_icmp .ge 69, 3) := by decide +kernel
theorem dX1_meeting_19 : decode cX1_meeting 19 = .ok (.iload_n 3, 1) := by decide +kernel
theorem dX1_meeting_20 : decode cX1_meeting 20 = .ok (.iload 4, 2) := by decide +kernel
theorem dX1_meeting_22 : decode cX1_meeting 22 = .ok (.if_icmp .eq 63, 3) := by decide +kernel
theorem dX1_meeting_25 : decode cX1_meeting 25 = .ok (.aload_n 0, 1) := by decide +kernel
theorem dX1_meeting_26 : decode cX1_meeting 26 = .ok (.getfield 24, 3) := by decide +kernel
theorem dX1_meeting_29 : decode cX1_meeting 29 = .ok (.iload_n 3, 1) := by decide +kernel
theorem dX1_meeting_30 : decode cX1_meeting 30 = .ok (.iaload, 1) := by decide +kernel
theorem dX1_meeting_31 : decode cX1_meeting 31 = .ok (.aload_n 0, 1) := by decide +kernel
theorem dX1_meeting_32 : decode cX1_meeting 32 = .ok (.getfield 24, 3) := by decide +kernel
theorem dX1_meeting_35 : decode cX1_meeting 35 = .ok (.iload 4, 2) := by decide +kernel
theorem dX1_meeting_37 : decode cX1_meeting 37 = .ok (.iaload, 1) := by decide +kernel
theorem dX1_meeting_38 : decode cX1_meeting 38 = .ok (.if_icmp .le 13, 3) := by decide +kernel
theorem dX1_meeting_41 : decode cX1_meeting 41 = .ok (.iload_n 3, 1) := by decide +kernel
theorem dX1_meeting_42 : decode cX1_meeting 42 = .ok (.istore 7, 2) := by decide +kernel
theorem dX1_meeting_44 : decode cX1_meeting 44 = .ok (.iload 4, 2) := by decide +kernel
theorem dX1_meeting_46 : decode cX1_meeting 46 = .ok (.istore_n 3, 1) := by decide +kernel
theorem dX1_meeting_47 : decode cX1_meeting 47 = .ok (.iload 7, 2) := by decide +kernel
theorem dX1_meeting_49 : decode cX1_meeting 49 = .ok (.istore 4, 2) := by decide +kernel
theorem dX1_meeting_51 : decode cX1_meeting 51 = .ok (.aload_n 0, 1) := by decide +kernel
theorem dX1_meeting_52 : decode cX1_meeting 52 = .ok (.getfield 24, 3) := by decide +kernel
theorem dX1_meeting_55 : decode cX1_meeting 55 = .ok (.iload_n 3, 1) := by decide +kernel
theorem dX1_meeting_56 : decode cX1_meeting 56 = .ok (.iaload, 1) := by decide +kernel
theorem dX1_meeting_57 : decode cX1_meeting 57 = .ok (.ldc 27, 2) := by decide +kernel
theorem dX1_meeting_59 : decode cX1_meeting 59 = .ok (.if_icmp .ne 5, 3) := by decide +kernel
theorem dX1_meeting_62 : decode cX1_meeting 62 = .ok (.iconst (-1), 1) := by decide +kernel
theorem dX1_meeting_63 : decode cX1_meeting 63 = .ok (.ireturn, 1) := by decide +kernel
theorem dX1_meeting_64 : decode cX1_meeting 64 = .ok (.aload_n 0, 1) := by decide +kernel
theorem dX1_meeting_65 : decode cX1_meeting 65 = .ok (.getfield 24, 3) := by decide +kernel
theorem dX1_meeting_68 : decode cX1_meeting 68 = .ok (.iload_n 3, 1) := by decide +kernel
theorem dX1_meeting_69 : decode cX1_meeting 69 = .ok (.iaload, 1) := by decide +kernel
theorem dX1_meeting_70 : decode cX1_meeting 70 = .ok (.istore 5, 2) := by decide +kernel
theorem dX1_meeting_72 : decode cX1_meeting 72 = .ok (.aload_n 0, 1) := by decide +kernel
theorem dX1_meeting_73 : decode cX1_meeting 73 = .ok (.getfield 21, 3) := by decide +kernel
theorem dX1_meeting_76 : decode cX1_meeting 76 = .ok (.iload_n 3, 1) := by decide +kernel
theorem dX1_meeting_77 : decode cX1_meeting 77 = .ok (.iaload, 1) := by decide +kernel
theorem dX1_meeting_78 : decode cX1_meeting 78 = .ok (.istore_n 3, 1) := by decide +kernel
theorem dX1_meeting_79 : decode cX1_meeting 79 = .ok (.iinc 6 1, 3) := by decide +kernel
theorem dX1_meeting_82 : decode cX1_meeting 82 = .ok (.goto (-71), 3) := by decide +kernel
theorem dX1_meeting_85 : decode cX1_meeting 85 = .ok (.iload 5, 2) := by decide +kernel
theorem dX1_meeting_87 : decode cX1_meeting 87 = .ok (.ireturn, 1) := by decide +kernel
theorem dX1_join_0 : decode cX1_join 0 = .ok (.aload_n 0, 1) := by decide +kernel
theorem dX1_join_1 : decode cX1_join 1 = .ok (.getfield 21, 3) := by decide +kernel
theorem dX1_join_4 : decode cX1_join 4 = .ok (.iload_n 1, 1) := by decide +kernel
theorem dX1_join_5 : decode cX1_join 5 = .ok (.iload_n 2, 1) := by decide +kernel
theorem dX1_join_6 : decode cX1_join 6 = .ok (.iastore, 1) := by decide +kernel
theorem dX1_join_7 : decode cX1_join 7 = .ok (.aload_n 0, 1) := by decide +kernel
theorem dX1_join_8 : decode cX1_join 8 = .ok (.getfield 24, 3) := by decide +kernel
theorem dX1_join_11 : decode cX1_join 11 = .ok (.iload_n 1, 1) := by decide +kernel
theorem dX1_join_12 : decode cX1_join 12 = .ok (.iload_n 3, 1) := by decide +kernel
theorem dX1_join_13 : decode cX1_join 13 = .ok (.iastore, 1) := by decide +kernel
theorem dX1_join_14 : decode cX1_join 14 = .ok (.aload_n 0, 1) := by decide +kernel
theorem dX1_join_15 : decode cX1_join 15 = .ok (.getfield 9, 3) := by decide +kernel
theorem dX1_join_18 : decode cX1_join 18 = .ok (.iload_n 2, 1) := by decide +kernel
theorem dX1_join_19 : decode cX1_join 19 = .ok (.dup2, 1) := by decide +kernel
theorem dX1_join_20 : decode cX1_join 20 = .ok (.iaload, 1) := by decide +kernel
theorem dX1_join_21 : decode cX1_join 21 = .ok (.aload_n 0, 1) := by decide +kernel
theorem dX1_join_22 : decode cX1_join 22 = .ok (.getfield 9, 3) := by decide +kernel
theorem dX1_join_25 : decode cX1_join 25 = .ok (.iload_n 1, 1) := by decide +kernel
theorem dX1_join_26 : decode cX1_join 26 = .ok (.iaload, 1) := by decide +kernel
theorem dX1_join_27 : decode cX1_join 27 = .ok (.iadd, 1) := by decide +kernel
theorem dX1_join_28 : decode cX1_join 28 = .ok (.iastore, 1) := by decide +kernel
theorem dX1_join_29 : decode cX1_join 29 = .ok (.aload_n 0, 1) := by decide +kernel
theorem dX1_join_30 : decode cX1_join 30 = .ok (.getfield 15, 3) := by decide +kernel
theorem dX1_join_33 : decode cX1_join 33 = .ok (.iload_n 2, 1) := by decide +kernel
theorem dX1_join_34 : decode cX1_join 34 = .ok (.aload_n 0, 1) := by decide +kernel
theorem dX1_join_35 : decode cX1_join 35 = .ok (.getfield 15, 3) := by decide +kernel
theorem dX1_join_38 : decode cX1_join 38 = .ok (.iload_n 2, 1) := by decide +kernel
theorem dX1_join_39 : decode cX1_join 39 = .ok (.iaload, 1) := by decide +kernel
theorem dX1_join_40 : decode cX1_join 40 = .ok (.aload_n 0, 1) := by decide +kernel
theorem dX1_join_41 : decode cX1_join 41 = .ok (.getfield 15, 3) := by decide +kernel
theorem dX1_join_44 : decode cX1_join 44 = .ok (.iload_n 1, 1) := by decide +kernel
theorem dX1_join_45 : decode cX1_join 45 = .ok (.iaload, 1) := by decide +kernel
theorem dX1_join_46 : decode cX1_join 46 = .ok (.invokestatic 35, 3) := by decide +kernel
theorem dX1_join_49 : decode cX1_join 49 = .ok (.iastore, 1) := by decide +kernel
theorem dX1_join_50 : decode cX1_join 50 = .ok (.aload_n 0, 1) := by decide +kernel
theorem dX1_join_51 : decode cX1_join 51 = .ok (.getfield 18, 3) := by decide +kernel
theorem dX1_join_54 : decode cX1_join 54 = .ok (.iload_n 1, 1) := by decide +kernel
theorem dX1_join_55 : decode cX1_join 55 = .ok (.iaload, 1) := by decide +kernel
theorem dX1_join_56 : decode cX1_join 56 = .ok (.istore 4, 2) := by decide +kernel
theorem dX1_join_58 : decode cX1_join 58 = .ok (.aload_n 0, 1) := by decide +kernel
theorem dX1_join_59 : decode cX1_join 59 = .ok (.getfield 18, 3) := by decide +kernel
theorem dX1_join_62 : decode cX1_join 62 = .ok (.iload_n 1, 1) := by decide +kernel
theorem dX1_join_63 : decode cX1_join 63 = .ok (.aload_n 0, 1) := by decide +kernel
theorem dX1_join_64 : decode cX1_join 64 = .ok (.getfield 18, 3) := by decide +kernel
theorem dX1_join_67 : decode cX1_join 67 = .ok (.iload_n 2, 1) := by decide +kernel
theorem dX1_join_68 : decode cX1_join 68 = .ok (.iaload, 1) := by decide +kernel
theorem dX1_join_69 : decode cX1_join 69 = .ok (.iastore, 1) := by decide +kernel
theorem dX1_join_70 : decode cX1_join 70 = .ok (.aload_n 0, 1) := by decide +kernel
theorem dX1_join_71 : decode cX1_join 71 = .ok (.getfield 18, 3) := by decide +kernel
theorem dX1_join_74 : decode cX1_join 74 = .ok (.iload_n 2, 1) := by decide +kernel
theorem dX1_join_75 : decode cX1_join 75 = .ok (.iload 4, 2) := by decide +kernel
theorem dX1_join_77 : decode cX1_join 77 = .ok (.iastore, 1) := by decide +kernel
theorem dX1_join_78 : decode cX1_join 78 = .ok (.aload_n 0, 1) := by decide +kernel
theorem dX1_join_79 : decode cX1_join 79 = .ok (.dup, 1) := by decide +kernel
theorem dX1_join_80 : decode cX1_join 80 = .ok (.getfield 28, 3) := by decide +kernel
theorem dX1_join_83 : decode cX1_join 83 = .ok (.iconst 1, 1) := by decide +kernel
theorem dX1_join_84 : decode cX1_join 84 = .ok (.isub, 1) := by decide +kernel
theorem dX1_join_85 : decode cX1_join 85 = .ok (.putfield 28, 3) := by decide +kernel
theorem dX1_join_88 : decode cX1_join 88 = .ok (.aload_n 0, 1) := by decide +kernel
theorem dX1_join_89 : decode cX1_join 89 = .ok (.iload_n 3, 1) := by decide +kernel
theorem dX1_join_90 : decode cX1_join 90 = .ok (.putfield 32, 3) := by decide +kernel
theorem dX1_join_93 : decode cX1_join 93 = .ok (.return_, 1) := by decide +kernel
theorem dX2_init_0 : decode cX2_init 0 = .ok (.aload_n 0, 1) := by decide +kernel
theorem dX2_init_1 : decode cX2_init 1 = .ok (.invokespecial 3, 3) := by decide +kernel
theorem dX2_init_4 : decode cX2_init 4 = .ok (.iload_n 1, 1) := by decide +kernel
theorem dX2_init_5 : decode cX2_init 5 = .ok (.iconst 0, 1) := by decide +kernel
theorem dX2_init_6 : decode cX2_init 6 = .ok (.invokestatic 9, 3) := by decide +kernel
theorem dX2_init_9 : decode cX2_init 9 = .ok (.istore_n 2, 1) := by decide +kernel
theorem dX2_init_10 : decode cX2_init 10 = .ok (.aload_n 0, 1) := by decide +kernel
theorem dX2_init_11 : decode cX2_init 11 = .ok (.iload_n 2, 1) := by decide +kernel
theorem dX2_init_12 : decode cX2_init 12 = .ok (.newarray .int, 2) := by decide +kernel
theorem dX2_init_14 : decode cX2_init 14 = .ok (.putfield 15, 3) := by decide +kernel
theorem dX2_init_17 : decode cX2_init 17 = .ok (.aload_n 0, 1) := by decide +kernel
theorem dX2_init_18 : decode cX2_init 18 = .ok (.iload_n 2, 1) := by decide +kernel
theorem dX2_init_19 : decode cX2_init 19 = .ok (.newarray .int, 2) := by decide +kernel
theorem dX2_init_21 : decode cX2_init 21 = .ok (.putfield 21, 3) := by decide +kernel
theorem dX2_init_24 : decode cX2_init 24 = .ok (.return_, 1) := by decide +kernel
theorem dX2_has_0 : decode cX2_has 0 = .ok (.iload_n 1, 1) := by decide +kernel
theorem dX2_has_1 : decode cX2_has 1 = .ok (.ifCond .lt 15, 3) := by decide +kernel
theorem dX2_has_4 : decode cX2_has 4 = .ok (.iload_n 1, 1) := by decide +kernel
theorem dX2_has_5 : decode cX2_has 5 = .ok (.aload_n 0, 1) := by decide +kernel
theorem dX2_has_6 : decode cX2_has 6 = .ok (.getfield 24, 3) := by decide +kernel
theorem dX2_has_9 : decode cX2_has 9 = .ok (.if_icmp .ge 7, 3) := by decide +kernel
theorem dX2_has_12 : decode cX2_has 12 = .ok (.iconst 1, 1) := by decide +kernel
theorem dX2_has_13 : decode cX2_has 13 = .ok (.goto 4, 3) := by decide +kernel
theorem dX2_has_16 : decode cX2_has 16 = .ok (.iconst 0, 1) := by decide +kernel
theorem dX2_has_17 : decode cX2_has 17 = .ok (.ireturn, 1) := by decide +kernel
theorem dX2_add_0 : decode cX2_add 0 = .ok (.aload_n 0, 1) := by decide +kernel
theorem dX2_add_1 : decode cX2_add 1 = .ok (.getfield 24, 3) := by decide +kernel
theorem dX2_add_4 : decode cX2_add 4 = .ok (.aload_n 0, 1) := by decide +kernel
theorem dX2_add_5 : decode cX2_add 5 = .ok (.getfield 15, 3) := by decide +kernel
theorem dX2_add_8 : decode cX2_add 8 = .ok (.arraylength, 1) := by decide +kernel
theorem dX2_add_9 : decode cX2_add 9 = .ok (.if_icmp .lt 6, 3) := by decide +kernel
theorem dX2_add_12 : decode cX2_add 12 = .ok (.bipush (-3), 2) := by decide +kernel
theorem dX2_add_14 : decode cX2_add 14 = .ok (.ireturn, 1) := by decide +kernel
theorem dX2_add_15 : decode cX2_add 15 = .ok (.aload_n 0, 1) := by decide +kernel
theorem dX2_add_16 : decode cX2_add 16 = .ok (.getfield 15, 3) := by decide +kernel
theorem dX2_add_19 : decode cX2_add 19 = .ok (.aload_n 0, 1) := by decide +kernel
theorem dX2_add_20 : decode cX2_add 20 = .ok (.getfield 24, 3) := by decide +kernel
theorem dX2_add_23 : decode cX2_add 23 = .ok (.iload_n 1, 1) := by decide +kernel
theorem dX2_add_24 : decode cX2_add 24 = .ok (.iastore, 1) := by decide +kernel
theorem dX2_add_25 : decode cX2_add 25 = .ok (.aload_n 0, 1) := by decide +kernel
theorem dX2_add_26 : decode cX2_add 26 = .ok (.getfield 21, 3) := by decide +kernel
theorem dX2_add_29 : decode cX2_add 29 = .ok (.aload_n 0, 1) := by decide +kernel
theorem dX2_add_30 : decode cX2_add 30 = .ok (.getfield 24, 3) := by decide +kernel
theorem dX2_add_33 : decode cX2_add 33 = .ok (.iload_n 2, 1) := by decide +kernel
theorem dX2_add_34 : decode cX2_add 34 = .ok (.iastore, 1) := by decide +kernel
theorem dX2_add_35 : decode cX2_add 35 = .ok (.aload_n 0, 1) := by decide +kernel
theorem dX2_add_36 : decode cX2_add 36 = .ok (.dup, 1) := by decide +kernel
theorem dX2_add_37 : decode cX2_add 37 = .ok (.getfield 24, 3) := by decide +kernel
theorem dX2_add_40 : decode cX2_add 40 = .ok (.iconst 1, 1) := by decide +kernel
theorem dX2_add_41 : decode cX2_add 41 = .ok (.iadd, 1) := by decide +kernel
theorem dX2_add_42 : decode cX2_add 42 = .ok (.putfield 24, 3) := by decide +kernel
theorem dX2_add_45 : decode cX2_add 45 = .ok (.aload_n 0, 1) := by decide +kernel
theorem dX2_add_46 : decode cX2_add 46 = .ok (.getfield 24, 3) := by decide +kernel
theorem dX2_add_49 : decode cX2_add 49 = .ok (.iconst 1, 1) := by decide +kernel
theorem dX2_add_50 : decode cX2_add 50 = .ok (.isub, 1) := by decide +kernel
theorem dX2_add_51 : decode cX2_add 51 = .ok (.ireturn, 1) := by decide +kernel
theorem dX3_init_0 : decode cX3_init 0 = .ok (.aload_n 0, 1) := by decide +kernel
theorem dX3_init_1 : decode cX3_init 1 = .ok (.invokespecial 3, 3) := by decide +kernel
theorem dX3_init_4 : decode cX3_init 4 = .ok (.aload_n 0, 1) := by decide +kernel
theorem dX3_init_5 : decode cX3_init 5 = .ok (.sipush 250, 3) := by decide +kernel
theorem dX3_init_8 : decode cX3_init 8 = .ok (.newarray .int, 2) := by decide +kernel
theorem dX3_init_10 : decode cX3_init 10 = .ok (.putfield 9, 3) := by decide +kernel
theorem dX3_init_13 : decode cX3_init 13 = .ok (.aload_n 0, 1) := by decide +kernel
theorem dX3_init_14 : decode cX3_init 14 = .ok (.sipush 250, 3) := by decide +kernel
theorem dX3_init_17 : decode cX3_init 17 = .ok (.newarray .int, 2) := by decide +kernel
theorem dX3_init_19 : decode cX3_init 19 = .ok (.putfield 15, 3) := by decide +kernel
theorem dX3_init_22 : decode cX3_init 22 = .ok (.aload_n 0, 1) := by decide +kernel
theorem dX3_init_23 : decode cX3_init 23 = .ok (.sipush 250, 3) := by decide +kernel
theorem dX3_init_26 : decode cX3_init 26 = .ok (.newarray .int, 2) := by decide +kernel
theorem dX3_init_28 : decode cX3_init 28 = .ok (.putfield 18, 3) := by decide +kernel
theorem dX3_init_31 : decode cX3_init 31 = .ok (.aload_n 0, 1) := by decide +kernel
theorem dX3_init_32 : decode cX3_init 32 = .ok (.sipush 500, 3) := by decide +kernel
theorem dX3_init_35 : decode cX3_init 35 = .ok (.newarray .int, 2) := by decide +kernel
theorem dX3_init_37 : decode cX3_init 37 = .ok (.putfield 21, 3) := by decide +kernel
theorem dX3_init_40 : decode cX3_init 40 = .ok (.return_, 1) := by decide +kernel
theorem dX3_has_0 : decode cX3_has 0 = .ok (.iload_n 1, 1) := by decide +kernel
theorem dX3_has_1 : decode cX3_has 1 = .ok (.ifCond .lt 15, 3) := by decide +kernel
theorem dX3_has_4 : decode cX3_has 4 = .ok (.iload_n 1, 1) := by decide +kernel
theorem dX3_has_5 : decode cX3_has 5 = .ok (.aload_n 0, 1) := by decide +kernel
theorem dX3_has_6 : decode cX3_has 6 = .ok (.getfield 24, 3) := by decide +kernel
theorem dX3_has_9 : decode cX3_has 9 = .ok (.if_icmp .ge 7, 3) := by decide +kernel
theorem dX3_has_12 : decode cX3_has 12 = .ok (.iconst 1, 1) := by decide +kernel
theorem dX3_has_13 : decode cX3_has 13 = .ok (.goto 4, 3) := by decide +kernel
theorem dX3_has_16 : decode cX3_has 16 = .ok (.iconst 0, 1) := by decide +kernel
theorem dX3_has_17 : decode cX3_has 17 = .ok (.ireturn, 1) := by decide +kernel
theorem dX3_find_0 : decode cX3_find 0 = .ok (.iconst 0, 1) := by decide +kernel
theorem dX3_find_1 : decode cX3_find 1 = .ok (.istore_n 3, 1) := by decide +kernel
theorem dX3_find_2 : decode cX3_find 2 = .ok (.iload_n 3, 1) := by decide +kernel
theorem dX3_find_3 : decode cX3_find 3 = .ok (.aload_n 0, 1) := by decide +kernel
theorem dX3_find_4 : decode cX3_find 4 = .ok (.getfield 24, 3) := by decide +kernel
theorem dX3_find_7 : decode cX3_find 7 = .ok (.if_icmp .ge 31, 3) := by decide +kernel
theorem dX3_find_10 : decode cX3_find 10 = .ok (.aload_n 0, 1) := by decide +kernel
theorem dX3_find_11 : decode cX3_find 11 = .ok (.getfield 9, 3) := by decide +kernel
theorem dX3_find_14 : decode cX3_find 14 = .ok (.iload_n 3, 1) := by decide +kernel
theorem dX3_find_15 : decode cX3_find 15 = .ok (.iaload, 1) := by decide +kernel
theorem dX3_find_16 : decode cX3_find 16 = .ok (.iload_n 1, 1) := by decide +kernel
theorem dX3_find_17 : decode cX3_find 17 = .ok (.if_icmp .ne 15, 3) := by decide +kernel
theorem dX3_find_20 : decode cX3_find 20 = .ok (.aload_n 0, 1) := by decide +kernel
theorem dX3_find_21 : decode cX3_find 21 = .ok (.getfield 15, 3) := by decide +kernel
theorem dX3_find_24 : decode cX3_find 24 = .ok (.iload_n 3, 1) := by decide +kernel
theorem dX3_find_25 : decode cX3_find 25 = .ok (.iaload, 1) := by decide +kernel
theorem dX3_find_26 : decode cX3_find 26 = .ok (.iload_n 2, 1) := by decide +kernel
theorem dX3_find_27 : decode cX3_find 27 = .ok (.if_icmp .ne 5, 3) := by decide +kernel
theorem dX3_find_30 : decode cX3_find 30 = .ok (.iload_n 3, 1) := by decide +kernel
theorem dX3_find_31 : decode cX3_find 31 = .ok (.ireturn, 1) := by decide +kernel
theorem dX3_find_32 : decode cX3_find 32 = .ok (.iinc 3 1, 3) := by decide +kernel
theorem dX3_find_35 : decode cX3_find 35 = .ok (.goto (-33), 3) := by decide +kernel
theorem dX3_find_38 : decode cX3_find 38 = .ok (.iconst (-1), 1) := by decide +kernel
theorem dX3_find_39 : decode cX3_find 39 = .ok (.ireturn, 1) := by decide +kernel
set_option maxRecDepth 20000 in
theorem ggX3_add_X3_use : GoodIn wsX3_add wsX3_use := goodIn_r _ [9, 10, 4, 11, 12, 13, 14, 15] (by decide +kernel) (by decide +kernel)
set_option maxRecDepth 20000 in
theorem gX3_add_X3_use : GoodIn wsX3_add (wsV RX3 28 RX3 yX3_use wsX3_use) := goodIn_app (goodIn_of _ (by decide +kernel)) ggX3_add_X3_use
theorem dX3_add_0 : decode cX3_add 0 = .ok (.aload_n 0, 1) := by decide +kernel
theorem dX3_add_1 : decode cX3_add 1 = .ok (.getfield 24, 3) := by decide +kernel
theorem dX3_add_4 : decode cX3_add 4 = .ok (.sipush 250, 3) := by decide +kernel
theorem dX3_add_7 : decode cX3_add 7 = .ok (.if_icmp .lt 6, 3) := by decide +kernel
theorem dX3_add_10 : decode cX3_add 10 = .ok (.bipush (-3), 2) := by decide +kernel
theorem dX3_add_12 : decode cX3_add 12 = .ok (.ireturn, 1) := by decide +kernel
theorem dX3_add_13 : decode cX3_add 13 = .ok (.aload_n 0, 1) := by decide +kernel
theorem dX3_add_14 : decode cX3_add 14 = .ok (.getfield 24, 3) := by decide +kernel
theorem dX3_add_17 : decode cX3_add 17 = .ok (.istore_n 3, 1) := by decide +kernel
theorem dX3_add_18 : decode cX3_add 18 = .ok (.aload_n 0, 1) := by decide +kernel
theorem dX3_add_19 : decode cX3_add 19 = .ok (.dup, 1) := by decide +kernel
theorem dX3_add_20 : decode cX3_add 20 = .ok (.getfield 24, 3) := by decide +kernel
theorem dX3_add_23 : decode cX3_add 23 = .ok (.iconst 1, 1) := by decide +kernel
theorem dX3_add_24 : decode cX3_add 24 = .ok (.iadd, 1) := by decide +kernel
theorem dX3_add_25 : decode cX3_add 25 = .ok (.putfield 24, 3) := by decide +kernel
theorem dX3_add_28 : decode cX3_add 28 = .ok (.aload_n 0, 1) := by decide +kernel
theorem dX3_add_29 : decode cX3_add 29 = .ok (.getfield 9, 3) := by decide +kernel
theorem dX3_add_32 : decode cX3_add 32 = .ok (.iload_n 3, 1) := by decide +kernel
theorem dX3_add_33 : decode cX3_add 33 = .ok (.iload_n 1, 1) := by decide +kernel
theorem dX3_add_34 : decode cX3_add 34 = .ok (.iastore, 1) := by decide +kernel
theorem dX3_add_35 : decode cX3_add 35 = .ok (.aload_n 0, 1) := by decide +kernel
theorem dX3_add_36 : decode cX3_add 36 = .ok (.getfield 15, 3) := by decide +kernel
theorem dX3_add_39 : decode cX3_add 39 = .ok (.iload_n 3, 1) := by decide +kernel
theorem dX3_add_40 : decode cX3_add 40 = .ok (.iload_n 2, 1) := by decide +kernel
theorem dX3_add_41 : decode cX3_add 41 = .ok (.iastore, 1) := by decide +kernel
theorem dX3_add_42 : decode cX3_add 42 = .ok (.aload_n 0, 1) := by decide +kernel
theorem dX3_add_43 : decode cX3_add 43 = .ok (.getfield 18, 3) := by decide +kernel
theorem dX3_add_46 : decode cX3_add 46 = .ok (.iload_n 3, 1) := by decide +kernel
theorem dX3_add_47 : decode cX3_add 47 = .ok (.iconst (-1), 1) := by decide +kernel
theorem dX3_add_48 : decode cX3_add 48 = .ok (.iastore, 1) := by decide +kernel
theorem dX3_add_49 : decode cX3_add 49 = .ok (.iload_n 1, 1) := by decide +kernel
theorem dX3_add_50 : decode cX3_add 50 = .ok (.iconst (-1), 1) := by decide +kernel
theorem dX3_add_51 : decode cX3_add 51 = .ok (.if_icmp .eq 26, 3) := by decide +kernel
theorem dX3_add_54 : decode cX3_add 54 = .ok (.iload_n 2, 1) := by decide +kernel
theorem dX3_add_55 : decode cX3_add 55 = .ok (.iconst (-1), 1) := by decide +kernel
theorem dX3_add_56 : decode cX3_add 56 = .ok (.if_icmp .eq 21, 3) := by decide +kernel
theorem dX3_add_59 : decode cX3_add 59 = .ok (.aload_n 0, 1) := by decide +kernel
theorem dX3_add_60 : decode cX3_add 60 = .ok (.iload_n 1, 1) := by decide +kernel
theorem dX3_add_61 : decode cX3_add 61 = .ok (.iconst 2, 1) := by decide +kernel
theorem dX3_add_62 : decode cX3_add 62 = .ok (.iload_n 3, 1) := by decide +kernel
theorem dX3_add_63 : decode cX3_add 63 = .ok (.imul, 1) := by decide +kernel
theorem dX3_add_64 : decode cX3_add 64 = .ok (.invokevirtual 28, 3) := by decide +kernel
theorem dX3_add_67 : decode cX3_add 67 = .ok (.aload_n 0, 1) := by decide +kernel
theorem dX3_add_68 : decode cX3_add 68 = .ok (.iload_n 2, 1) := by decide +kernel
theorem dX3_add_69 : decode cX3_add 69 = .ok (.iconst 2, 1) := by decide +kernel
theorem dX3_add_70 : decode cX3_add 70 = .ok (.iload_n 3, 1) := by decide +kernel
theorem dX3_add_71 : decode cX3_add 71 = .ok (.imul, 1) := by decide +kernel
theorem dX3_add_72 : decode cX3_add 72 = .ok (.iconst 1, 1) := by decide +kernel
theorem dX3_add_73 : decode cX3_add 73 = .ok (.iadd, 1) := by decide +kernel
theorem dX3_add_74 : decode cX3_add 74 = .ok (.invokevirtual 28, 3) := by decide +kernel
theorem dX3_add_77 : decode cX3_add 77 = .ok (.iload_n 3, 1) := by decide +kernel
theorem dX3_add_78 : decode cX3_add 78 = .ok (.ireturn, 1) := by decide +kernel
theorem dX3_use_0 : decode cX3_use 0 = .ok (.aload_n 0, 1) := by decide +kernel
theorem dX3_use_1 : decode cX3_use 1 = .ok (.getfield 21, 3) := by decide +kernel
theorem dX3_use_4 : decode cX3_use 4 = .ok (.iload_n 2, 1) := by decide +kernel
theorem dX3_use_5 : decode cX3_use 5 = .ok (.aload_n 0, 1) := by decide +kernel
theorem dX3_use_6 : decode cX3_use 6 = .ok (.getfield 18, 3) := by decide +kernel
theorem dX3_use_9 : decode cX3_use 9 = .ok (.iload_n 1, 1) := by decide +kernel
theorem dX3_use_10 : decode cX3_use 10 = .ok (.iaload, 1) := by decide +kernel
theorem dX3_use_11 : decode cX3_use 11 = .ok (.iastore, 1) := by decide +kernel
theorem dX3_use_12 : decode cX3_use 12 = .ok (.aload_n 0, 1) := by decide +kernel
theorem dX3_use_13 : decode cX3_use 13 = .ok (.getfield 18, 3) := by decide +kernel
theorem dX3_use_16 : decode cX3_use 16 = .ok (.iload_n 1, 1) := by decide +kernel
theorem dX3_use_17 : decode cX3_use 17 = .ok (.iload_n 2, 1) := by decide +kernel
theorem dX3_use_18 : decode cX3_use 18 = .ok (.iastore, 1) := by decide +kernel
theorem dX3_use_19 : decode cX3_use 19 = .ok (.return_, 1) := by decide +kernel
