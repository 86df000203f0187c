set_option maxRecDepth 20000 in
theorem ggX4_init_X3_init : GoodIn wsX4_init wsX3_init := goodIn_r _ [24, 25, 2, 3, 26, 27, 28, 29, 30, 60, 61, 62, 63, 64] (by decide +kernel) (by decide +kernel)
set_option maxRecDepth 20000 in
theorem gX4_init_X3_init_n9 : GoodIn wsX4_init (wsX3_init) := ggX4_init_X3_init
set_option maxRecDepth 20000 in
theorem ggX4_init_X2_init : GoodIn wsX4_init wsX2_init := goodIn_r _ [33, 34, 2, 3, 35, 36, 37, 38, 26, 39, 40, 78, 79, 80] (by decide +kernel) (by decide +kernel)
set_option maxRecDepth 20000 in
theorem gX4_init_X2_init : GoodIn wsX4_init (wsX2_init) := ggX4_init_X2_init
set_option maxRecDepth 20000 in
theorem ggX4_init_X0_init : GoodIn wsX4_init wsX0_init := goodIn_r _ [42, 43, 2, 3, 26, 44, 45, 46, 47, 48, 49, 50, 51, 81, 82, 83, 84, 85, 86, 87, 88, 89] (by decide +kernel) (by decide +kernel)
set_option maxRecDepth 20000 in
theorem gX4_init_X0_init_n30 : GoodIn wsX4_init (wsX0_init) := ggX4_init_X0_init
set_option maxRecDepth 20000 in
theorem ggX4_init_X1_init : GoodIn wsX4_init wsX1_init := goodIn_r _ [53, 54, 2, 3, 26, 55, 56, 57, 58, 59, 90, 91, 92, 93, 94, 95, 96] (by decide +kernel) (by decide +kernel)
set_option maxRecDepth 20000 in
theorem gX4_init_X1_init_n37 : GoodIn wsX4_init (wsX1_init) := ggX4_init_X1_init
theorem dX4_init_0 : decode cX4_init 0 = .ok (.aload_n 0, 1) := by decide +kernel
theorem dX4_init_1 : decode cX4_init 1 = .ok (.invokespecial 1, 3) := by decide +kernel
theorem dX4_init_4 : decode cX4_init 4 = .ok (.aload_n 0, 1) := by decide +kernel
theorem dX4_init_5 : decode cX4_init 5 = .ok (.new 7, 3) := by decide +kernel
theorem dX4_init_8 : decode cX4_init 8 = .ok (.dup, 1) := by decide +kernel
theorem dX4_init_9 : decode cX4_init 9 = .ok (.invokespecial 9, 3) := by decide +kernel
theorem dX4_init_12 : decode cX4_init 12 = .ok (.putfield 10, 3) := by decide +kernel
theorem dX4_init_15 : decode cX4_init 15 = .ok (.aload_n 0, 1) := by decide +kernel
theorem dX4_init_16 : decode cX4_init 16 = .ok (.new 16, 3) := by decide +kernel
theorem dX4_init_19 : decode cX4_init 19 = .ok (.dup, 1) := by decide +kernel
theorem dX4_init_20 : decode cX4_init 20 = .ok (.bipush 60, 2) := by decide +kernel
theorem dX4_init_22 : decode cX4_init 22 = .ok (.invokespecial 18, 3) := by decide +kernel
theorem dX4_init_25 : decode cX4_init 25 = .ok (.putfield 21, 3) := by decide +kernel
theorem dX4_init_28 : decode cX4_init 28 = .ok (.aload_n 0, 1) := by decide +kernel
theorem dX4_init_29 : decode cX4_init 29 = .ok (.new 16, 3) := by decide +kernel
theorem dX4_init_32 : decode cX4_init 32 = .ok (.dup, 1) := by decide +kernel
theorem dX4_init_33 : decode cX4_init 33 = .ok (.bipush 30, 2) := by decide +kernel
theorem dX4_init_35 : decode cX4_init 35 = .ok (.invokespecial 18, 3) := by decide +kernel
theorem dX4_init_38 : decode cX4_init 38 = .ok (.putfield 25, 3) := by decide +kernel
theorem dX4_init_41 : decode cX4_init 41 = .ok (.aload_n 0, 1) := by decide +kernel
theorem dX4_init_42 : decode cX4_init 42 = .ok (.new 28, 3) := by decide +kernel
theorem dX4_init_45 : decode cX4_init 45 = .ok (.dup, 1) := by decide +kernel
theorem dX4_init_46 : decode cX4_init 46 = .ok (.invokespecial 30, 3) := by decide +kernel
theorem dX4_init_49 : decode cX4_init 49 = .ok (.putfield 31, 3) := by decide +kernel
theorem dX4_init_52 : decode cX4_init 52 = .ok (.aload_n 0, 1) := by decide +kernel
theorem dX4_init_53 : decode cX4_init 53 = .ok (.new 35, 3) := by decide +kernel
theorem dX4_init_56 : decode cX4_init 56 = .ok (.dup, 1) := by decide +kernel
theorem dX4_init_57 : decode cX4_init 57 = .ok (.invokespecial 37, 3) := by decide +kernel
theorem dX4_init_60 : decode cX4_init 60 = .ok (.putfield 38, 3) := by decide +kernel
theorem dX4_init_63 : decode cX4_init 63 = .ok (.aload_n 0, 1) := by decide +kernel
theorem dX4_init_64 : decode cX4_init 64 = .ok (.new 35, 3) := by decide +kernel
theorem dX4_init_67 : decode cX4_init 67 = .ok (.dup, 1) := by decide +kernel
theorem dX4_init_68 : decode cX4_init 68 = .ok (.invokespecial 37, 3) := by decide +kernel
theorem dX4_init_71 : decode cX4_init 71 = .ok (.putfield 42, 3) := by decide +kernel
theorem dX4_init_74 : decode cX4_init 74 = .ok (.aload_n 0, 1) := by decide +kernel
theorem dX4_init_75 : decode cX4_init 75 = .ok (.new 35, 3) := by decide +kernel
theorem dX4_init_78 : decode cX4_init 78 = .ok (.dup, 1) := by decide +kernel
theorem dX4_init_79 : decode cX4_init 79 = .ok (.invokespecial 37, 3) := by decide +kernel
theorem dX4_init_82 : decode cX4_init 82 = .ok (.putfield 45, 3) := by decide +kernel
theorem dX4_init_85 : decode cX4_init 85 = .ok (.return_, 1) := by decide +kernel
set_option maxRecDepth 20000 in
theorem ggX4_clear_X4_forget : GoodIn wsX4_clear wsX4_forget := goodIn_r _ [10, 11, 12, 13, 14, 15, 16, 17, 18, 19, 20, 21, 22, 23, 24, 25, 26] (by decide +kernel) (by decide +kernel)
set_option maxRecDepth 20000 in
theorem gX4_clear_X4_forget : GoodIn wsX4_clear (wsV RX4 53 RX4 yX4_forget wsX4_forget) := goodIn_app (goodIn_of _ (by decide +kernel)) ggX4_clear_X4_forget
theorem dX4_clear_0 : decode cX4_clear 0 = .ok (.aload_n 0, 1) := by decide +kernel
theorem dX4_clear_1 : decode cX4_clear 1 = .ok (.getfield 10, 3) := by decide +kernel
theorem dX4_clear_4 : decode cX4_clear 4 = .ok (.getfield 48, 3) := by decide +kernel
theorem dX4_clear_7 : decode cX4_clear 7 = .ok (.istore_n 1, 1) := by decide +kernel
theorem dX4_clear_8 : decode cX4_clear 8 = .ok (.aload_n 0, 1) := by decide +kernel
theorem dX4_clear_9 : decode cX4_clear 9 = .ok (.getfield 10, 3) := by decide +kernel
theorem dX4_clear_12 : decode cX4_clear 12 = .ok (.iconst 0, 1) := by decide +kernel
theorem dX4_clear_13 : decode cX4_clear 13 = .ok (.putfield 48, 3) := by decide +kernel
theorem dX4_clear_16 : decode cX4_clear 16 = .ok (.aload_n 0, 1) := by decide +kernel
theorem dX4_clear_17 : decode cX4_clear 17 = .ok (.getfield 21, 3) := by decide +kernel
theorem dX4_clear_20 : decode cX4_clear 20 = .ok (.iconst 0, 1) := by decide +kernel
theorem dX4_clear_21 : decode cX4_clear 21 = .ok (.putfield 52, 3) := by decide +kernel
theorem dX4_clear_24 : decode cX4_clear 24 = .ok (.aload_n 0, 1) := by decide +kernel
theorem dX4_clear_25 : decode cX4_clear 25 = .ok (.getfield 25, 3) := by decide +kernel
theorem dX4_clear_28 : decode cX4_clear 28 = .ok (.iconst 0, 1) := by decide +kernel
theorem dX4_clear_29 : decode cX4_clear 29 = .ok (.putfield 52, 3) := by decide +kernel
theorem dX4_clear_32 : decode cX4_clear 32 = .ok (.aload_n 0, 1) := by decide +kernel
theorem dX4_clear_33 : decode cX4_clear 33 = .ok (.invokevirtual 53, 3) := by decide +kernel
theorem dX4_clear_36 : decode cX4_clear 36 = .ok (.iload_n 1, 1) := by decide +kernel
theorem dX4_clear_37 : decode cX4_clear 37 = .ok (.ireturn, 1) := by decide +kernel
set_option maxRecDepth 20000 in
theorem ggX4_constant_X4_forget : GoodIn wsX4_constant wsX4_forget := goodIn_r _ [6, 7, 8, 9, 24, 25, 26, 27, 28, 29, 30, 31, 32, 33, 34, 35, 36] (by decide +kernel) (by decide +kernel)
set_option maxRecDepth 20000 in
theorem gX4_constant_X4_forget : GoodIn wsX4_constant (wsV RX4 53 RX4 yX4_forget wsX4_forget) := goodIn_app (goodIn_of _ (by decide +kernel)) ggX4_constant_X4_forget
set_option maxRecDepth 20000 in
theorem ggX4_constant_X3_add : GoodIn wsX4_constant wsX3_add := goodIn_r _ [14, 15, 16, 17, 18, 19, 20, 21, 13, 22, 23, 37, 38, 39, 40, 41] (by decide +kernel) (by decide +kernel)
set_option maxRecDepth 20000 in
theorem gX4_constant_X3_add : GoodIn wsX4_constant (wsV RX4 56 RX3 yX3_add wsX3_add) := goodIn_app (goodIn_of _ (by decide +kernel)) ggX4_constant_X3_add
theorem dX4_constant_0 : decode cX4_constant 0 = .ok (.aload_n 0, 1) := by decide +kernel
theorem dX4_constant_1 : decode cX4_constant 1 = .ok (.invokevirtual 53, 3) := by decide +kernel
theorem dX4_constant_4 : decode cX4_constant 4 = .ok (.aload_n 0, 1) := by decide +kernel
theorem dX4_constant_5 : decode cX4_constant 5 = .ok (.getfield 10, 3) := by decide +kernel
theorem dX4_constant_8 : decode cX4_constant 8 = .ok (.iconst (-1), 1) := by decide +kernel
theorem dX4_constant_9 : decode cX4_constant 9 = .ok (.iconst (-1), 1) := by decide +kernel
theorem dX4_constant_10 : decode cX4_constant 10 = .ok (.invokevirtual 56, 3) := by decide +kernel
theorem dX4_constant_13 : decode cX4_constant 13 = .ok (.ireturn, 1) := by decide +kernel
set_option maxRecDepth 20000 in
theorem ggX4_apply_X4_areTerms : GoodIn wsX4_apply wsX4_areTerms := goodIn_r _ [6, 1, 7, 8, 9, 10, 11, 12, 36, 37, 38, 39, 40, 41, 42, 43, 44, 45, 46, 47, 48, 49, 50, 51, 52, 53] (by decide +kernel) (by decide +kernel)
set_option maxRecDepth 20000 in
theorem gX4_apply_X4_areTerms : GoodIn wsX4_apply (wsV RX4 60 RX4 yX4_areTerms wsX4_areTerms) := goodIn_app (goodIn_of _ (by decide +kernel)) ggX4_apply_X4_areTerms
set_option maxRecDepth 20000 in
theorem ggX4_apply_X3_find : GoodIn wsX4_apply wsX3_find := goodIn_r _ [16, 12, 17, 18, 49, 50, 51, 52, 53] (by decide +kernel) (by decide +kernel)
set_option maxRecDepth 20000 in
theorem gX4_apply_X3_find : GoodIn wsX4_apply (wsV RX4 64 RX3 yX3_find wsX3_find) := goodIn_app (goodIn_of _ (by decide +kernel)) ggX4_apply_X3_find
set_option maxRecDepth 20000 in
theorem ggX4_apply_X4_forget : GoodIn wsX4_apply wsX4_forget := goodIn_r _ [22, 23, 24, 25, 36, 37, 38, 39, 40, 41, 42, 43, 44, 45, 46, 47, 48] (by decide +kernel) (by decide +kernel)
set_option maxRecDepth 20000 in
theorem gX4_apply_X4_forget : GoodIn wsX4_apply (wsV RX4 53 RX4 yX4_forget wsX4_forget) := goodIn_app (goodIn_of _ (by decide +kernel)) ggX4_apply_X4_forget
set_option maxRecDepth 20000 in
theorem ggX4_apply_X3_add : GoodIn wsX4_apply wsX3_add := goodIn_r _ [29, 12, 17, 18, 30, 31, 32, 33, 10, 34, 35, 49, 50, 51, 52, 53] (by decide +kernel) (by decide +kernel)
set_option maxRecDepth 20000 in
theorem gX4_apply_X3_add : GoodIn wsX4_apply (wsV RX4 56 RX3 yX3_add wsX3_add) := goodIn_app (goodIn_of _ (by decide +kernel)) ggX4_apply_X3_add
theorem dX4_apply_0 : decode cX4_apply 0 = .ok (.aload_n 0, 1) := by decide +kernel
theorem dX4_apply_1 : decode cX4_apply 1 = .ok (.iload_n 1, 1) := by decide +kernel
theorem dX4_apply_2 : decode cX4_apply 2 = .ok (.iload_n 2, 1) := by decide +kernel
theorem dX4_apply_3 : decode cX4_apply 3 = .ok (.invokevirtual 60, 3) := by decide +kernel
theorem dX4_apply_6 : decode cX4_apply 6 = .ok (.ifCond .ne 6, 3) := by decide +kernel
theorem dX4_apply_9 : decode cX4_apply 9 = .ok (.bipush (-2), 2) := by decide +kernel
theorem dX4_apply_11 : decode cX4_apply 11 = .ok (.ireturn, 1) := by decide +kernel
theorem dX4_apply_12 : decode cX4_apply 12 = .ok (.aload_n 0, 1) := by decide +kernel
theorem dX4_apply_13 : decode cX4_apply 13 = .ok (.getfield 10, 3) := by decide +kernel
theorem dX4_apply_16 : decode cX4_apply 16 = .ok (.iload_n 1, 1) := by decide +kernel
theorem dX4_apply_17 : decode cX4_apply 17 = .ok (.iload_n 2, 1) := by decide +kernel
theorem dX4_apply_18 : decode cX4_apply 18 = .ok (.invokevirtual 64, 3) := by decide +kernel
theorem dX4_apply_21 : decode cX4_apply 21 = .ok (.istore_n 3, 1) := by decide +kernel
theorem dX4_apply_22 : decode cX4_apply 22 = .ok (.iload_n 3, 1) := by decide +kernel
theorem dX4_apply_23 : decode cX4_apply 23 = .ok (.iconst (-1), 1) := by decide +kernel
theorem dX4_apply_24 : decode cX4_apply 24 = .ok (.if_icmp .eq 5, 3) := by decide +kernel
theorem dX4_apply_27 : decode cX4_apply 27 = .ok (.iload_n 3, 1) := by decide +kernel
theorem dX4_apply_28 : decode cX4_apply 28 = .ok (.ireturn, 1) := by decide +kernel
theorem dX4_apply_29 : decode cX4_apply 29 = .ok (.aload_n 0, 1) := by decide +kernel
theorem dX4_apply_30 : decode cX4_apply 30 = .ok (.invokevirtual 53, 3) := by decide +kernel
theorem dX4_apply_33 : decode cX4_apply 33 = .ok (.aload_n 0, 1) := by decide +kernel
theorem dX4_apply_34 : decode cX4_apply 34 = .ok (.getfield 10, 3) := by decide +kernel
theorem dX4_apply_37 : decode cX4_apply 37 = .ok (.iload_n 1, 1) := by decide +kernel
theorem dX4_apply_38 : decode cX4_apply 38 = .ok (.iload_n 2, 1) := by decide +kernel
theorem dX4_apply_39 : decode cX4_apply 39 = .ok (.invokevirtual 56, 3) := by decide +kernel
theorem dX4_apply_42 : decode cX4_apply 42 = .ok (.ireturn, 1) := by decide +kernel
set_option maxRecDepth 20000 in
theorem ggX4_equate_X4_areTerms : GoodIn wsX4_equate wsX4_areTerms := goodIn_r _ [6, 7, 8, 9, 10, 11, 12, 13, 29, 30, 31, 32, 33, 34, 35, 36, 37, 38, 39, 40, 41, 42, 43, 44, 45, 46] (by decide +kernel) (by decide +kernel)
set_option maxRecDepth 20000 in
theorem gX4_equate_X4_areTerms : GoodIn wsX4_equate (wsV RX4 60 RX4 yX4_areTerms wsX4_areTerms) := goodIn_app (goodIn_of _ (by decide +kernel)) ggX4_equate_X4_areTerms
set_option maxRecDepth 20000 in
theorem ggX4_equate_X4_forget : GoodIn wsX4_equate wsX4_forget := goodIn_r _ [17, 18, 19, 20, 29, 30, 31, 32, 33, 34, 35, 36, 37, 38, 39, 40, 41] (by decide +kernel) (by decide +kernel)
set_option maxRecDepth 20000 in
theorem gX4_equate_X4_forget : GoodIn wsX4_equate (wsV RX4 53 RX4 yX4_forget wsX4_forget) := goodIn_app (goodIn_of _ (by decide +kernel)) ggX4_equate_X4_forget
set_option maxRecDepth 20000 in
theorem ggX4_equate_X2_add : GoodIn wsX4_equate wsX2_add := goodIn_r _ [25, 26, 27, 28, 47, 48, 49] (by decide +kernel) (by decide +kernel)
set_option maxRecDepth 20000 in
theorem gX4_equate_X2_add : GoodIn wsX4_equate (wsV RX4 67 RX2 yX2_add wsX2_add) := goodIn_app (goodIn_of _ (by decide +kernel)) ggX4_equate_X2_add
theorem dX4_equate_0 : decode cX4_equate 0 = .ok (.aload_n 0, 1) := by decide +kernel
theorem dX4_equate_1 : decode cX4_equate 1 = .ok (.iload_n 1, 1) := by decide +kernel
theorem dX4_equate_2 : decode cX4_equate 2 = .ok (.iload_n 2, 1) := by decide +kernel
theorem dX4_equate_3 : decode cX4_equate 3 = .ok (.invokevirtual 60, 3) := by decide +kernel
theorem dX4_equate_6 : decode cX4_equate 6 = .ok (.ifCond .ne 6, 3) := by decide +kernel
theorem dX4_equate_9 : decode cX4_equate 9 = .ok (.bipush (-2), 2) := by decide +kernel
theorem dX4_equate_11 : decode cX4_equate 11 = .ok (.ireturn, 1) := by decide +kernel
theorem dX4_equate_12 : decode cX4_equate 12 = .ok (.aload_n 0, 1) := by decide +kernel
theorem dX4_equate_13 : decode cX4_equate 13 = .ok (.invokevirtual 53, 3) := by decide +kernel
theorem dX4_equate_16 : decode cX4_equate 16 = .ok (.aload_n 0, 1) := by decide +kernel
theorem dX4_equate_17 : decode cX4_equate 17 = .ok (.getfield 21, 3) := by decide +kernel
theorem dX4_equate_20 : decode cX4_equate 20 = .ok (.iload_n 1, 1) := by decide +kernel
theorem dX4_equate_21 : decode cX4_equate 21 = .ok (.iload_n 2, 1) := by decide +kernel
theorem dX4_equate_22 : decode cX4_equate 22 = .ok (.invokevirtual 67, 3) := by decide +kernel
theorem dX4_equate_25 : decode cX4_equate 25 = .ok (.ireturn, 1) := by decide +kernel
set_option maxRecDepth 20000 in
theorem ggX4_back_X4_forget : GoodIn wsX4_back wsX4_forget := goodIn_r _ [7, 8, 9, 10, 11, 12, 13, 14, 15, 16, 17, 18, 19, 20, 21, 22, 23] (by decide +kernel) (by decide +kernel)
set_option maxRecDepth 20000 in
theorem gX4_back_X4_forget : GoodIn wsX4_back (wsV RX4 53 RX4 yX4_forget wsX4_forget) := goodIn_app (goodIn_of _ (by decide +kernel)) ggX4_back_X4_forget
theorem dX4_back_0 : decode cX4_back 0 = .ok (.iload_n 1, 1) := by decide +kernel
theorem dX4_back_1 : decode cX4_back 1 = .ok (.ifCond .lt 14, 3) := by decide +kernel
theorem dX4_back_4 : decode cX4_back 4 = .ok (.iload_n 1, 1) := by decide +kernel
theorem dX4_back_5 : decode cX4_back 5 = .ok (.aload_n 0, 1) := by decide +kernel
theorem dX4_back_6 : decode cX4_back 6 = .ok (.getfield 21, 3) := by decide +kernel
theorem dX4_back_9 : decode cX4_back 9 = .ok (.getfield 52, 3) := by decide +kernel
theorem dX4_back_12 : decode cX4_back 12 = .ok (.if_icmp .le 6, 3) := by decide +kernel
theorem dX4_back_15 : decode cX4_back 15 = .ok (.bipush (-2), 2) := by decide +kernel
theorem dX4_back_17 : decode cX4_back 17 = .ok (.ireturn, 1) := by decide +kernel
theorem dX4_back_18 : decode cX4_back 18 = .ok (.aload_n 0, 1) := by decide +kernel
theorem dX4_back_19 : decode cX4_back 19 = .ok (.invokevirtual 53, 3) := by decide +kernel
theorem dX4_back_22 : decode cX4_back 22 = .ok (.aload_n 0, 1) := by decide +kernel
theorem dX4_back_23 : decode cX4_back 23 = .ok (.getfield 21, 3) := by decide +kernel
theorem dX4_back_26 : decode cX4_back 26 = .ok (.dup, 1) := by decide +kernel
theorem dX4_back_27 : decode cX4_back 27 = .ok (.getfield 52, 3) := by decide +kernel
theorem dX4_back_30 : decode cX4_back 30 = .ok (.iload_n 1, 1) := by decide +kernel
theorem dX4_back_31 : decode cX4_back 31 = .ok (.isub, 1) := by decide +kernel
theorem dX4_back_32 : decode cX4_back 32 = .ok (.putfield 52, 3) := by decide +kernel
theorem dX4_back_35 : decode cX4_back 35 = .ok (.aload_n 0, 1) := by decide +kernel
theorem dX4_back_36 : decode cX4_back 36 = .ok (.getfield 21, 3) := by decide +kernel
theorem dX4_back_39 : decode cX4_back 39 = .ok (.getfield 52, 3) := by decide +kernel
theorem dX4_back_42 : decode cX4_back 42 = .ok (.ireturn, 1) := by decide +kernel
set_option maxRecDepth 20000 in
theorem ggX4_differ_X4_areTerms : GoodIn wsX4_differ wsX4_areTerms := goodIn_r _ [6, 7, 8, 9, 10, 11, 12, 13, 22, 23, 24, 25, 26, 27, 28, 29, 30, 31, 32, 33, 34, 35, 36, 37, 38, 39] (by decide +kernel) (by decide +kernel)
set_option maxRecDepth 20000 in
theorem gX4_differ_X4_areTerms : GoodIn wsX4_differ (wsV RX4 60 RX4 yX4_areTerms wsX4_areTerms) := goodIn_app (goodIn_of _ (by decide +kernel)) ggX4_differ_X4_areTerms
set_option maxRecDepth 20000 in
theorem ggX4_differ_X2_add : GoodIn wsX4_differ wsX2_add := goodIn_r _ [18, 19, 20, 21, 40, 41, 42] (by decide +kernel) (by decide +kernel)
set_option maxRecDepth 20000 in
theorem gX4_differ_X2_add : GoodIn wsX4_differ (wsV RX4 67 RX2 yX2_add wsX2_add) := goodIn_app (goodIn_of _ (by decide +kernel)) ggX4_differ_X2_add
theorem dX4_differ_0 : decode cX4_differ 0 = .ok (.aload_n 0, 1) := by decide +kernel
theorem dX4_differ_1 : decode cX4_differ 1 = .ok (.iload_n 1, 1) := by decide +kernel
theorem dX4_differ_2 : decode cX4_differ 2 = .ok (.iload_n 2, 1) := by decide +kernel
theorem dX4_differ_3 : decode cX4_differ 3 = .ok (.invokevirtual 60, 3) := by decide +kernel
theorem dX4_differ_6 : decode cX4_differ 6 = .ok (.ifCond .eq 15, 3) := by decide +kernel
theorem dX4_differ_9 : decode cX4_differ 9 = .ok (.aload_n 0, 1) := by decide +kernel
theorem dX4_differ_10 : decode cX4_differ 10 = .ok (.getfield 25, 3) := by decide +kernel
theorem dX4_differ_13 : decode cX4_differ 13 = .ok (.iload_n 1, 1) := by decide +kernel
theorem dX4_differ_14 : decode cX4_differ 14 = .ok (.iload_n 2, 1) := by decide +kernel
theorem dX4_differ_15 : decode cX4_differ 15 = .ok (.invokevirtual 67, 3) := by decide +kernel
theorem dX4_differ_18 : decode cX4_differ 18 = .ok (.goto 5, 3) := by decide +kernel
theorem dX4_differ_21 : decode cX4_differ 21 = .ok (.bipush (-2), 2) := by decide +kernel
theorem dX4_differ_23 : decode cX4_differ 23 = .ok (.ireturn, 1) := by decide +kernel
set_option maxRecDepth 20000 in
theorem ggX4_clash_X4_classes : GoodIn wsX4_clash wsX4_classes := goodIn_r _ [9, 10, 11, 12, 13, 14, 2, 3, 4, 15, 16, 17, 18, 19, 20, 21, 22, 23, 24, 25, 26, 27, 28, 29, 30, 31, 32, 33, 34, 35, 36, 37, 38, 39, 40, 41, 42, 43, 44, 45, 46, 47, 48, 49, 50, 51, 52, 53, 54, 55, 56, 57, 58, 59, 60, 61, 62, 63, 64, 65, 66, 67, 68, 69, 70, 71, 72, 73, 74, 75, 76, 77, 78, 79, 80, 81, 82, 83, 84, 85, 86, 87, 88, 89, 90, 91, 92, 93, 98, 99, 100, 101, 102, 103, 104, 105, 106, 107, 108, 109, 110, 111, 112, 113, 114, 115, 116, 117, 118, 119, 120, 121, 122, 123, 124, 125, 126, 127, 128, 129, 130, 131, 132, 133, 134] (by decide +kernel) (by decide +kernel)
set_option maxRecDepth 20000 in
theorem gX4_clash_X4_classes : GoodIn wsX4_clash (wsV RX4 68 RX4 yX4_classes wsX4_classes) := goodIn_app (goodIn_of _ (by decide +kernel)) ggX4_clash_X4_classes
set_option maxRecDepth 20000 in
theorem ggX4_clash_X1_meeting : GoodIn wsX4_clash wsX1_meeting := goodIn_r _ [97, 34, 35, 33, 128, 129, 130, 131, 132, 133, 134] (by decide +kernel) (by decide +kernel)
set_option maxRecDepth 20000 in
theorem gX4_clash_X1_meeting : GoodIn wsX4_clash (wsV RX4 79 RX1 yX1_meeting wsX1_meeting) := goodIn_app (goodIn_of _ (by decide +kernel)) ggX4_clash_X1_meeting
theorem dX4_clash_0 : decode cX4_clash 0 = .ok (.aload_n 0, 1) := by decide +kernel
theorem dX4_clash_1 : decode cX4_clash 1 = .ok (.invokevirtual 68, 3) := by decide +kernel
theorem dX4_clash_4 : decode cX4_clash 4 = .ok (.astore_n 1, 1) := by decide +kernel
theorem dX4_clash_5 : decode cX4_clash 5 = .ok (.iconst 0, 1) := by decide +kernel
theorem dX4_clash_6 : decode cX4_clash 6 = .ok (.istore_n 2, 1) := by decide +kernel
theorem dX4_clash_7 : decode cX4_clash 7 = .ok (.iload_n 2, 1) := by decide +kernel
theorem dX4_clash_8 : decode cX4_clash 8 = .ok (.aload_n 0, 1) := by decide +kernel
theorem dX4_clash_9 : decode cX4_clash 9 = .ok (.getfield 25, 3) := by decide +kernel
theorem dX4_clash_12 : decode cX4_clash 12 = .ok (.getfield 52, 3) := by decide +kernel
theorem dX4_clash_15 : decode cX4_clash 15 = .ok (.if_icmp .ge 37, 3) := by decide +kernel
theorem dX4_clash_18 : decode cX4_clash 18 = .ok (.aload_n 1, 1) := by decide +kernel
theorem dX4_clash_19 : decode cX4_clash 19 = .ok (.aload_n 0, 1) := by decide +kernel
theorem dX4_clash_20 : decode cX4_clash 20 = .ok (.getfield 25, 3) := by decide +kernel
theorem dX4_clash_23 : decode cX4_clash 23 = .ok (.getfield 72, 3) := by decide +kernel
theorem dX4_clash_26 : decode cX4_clash 26 = .ok (.iload_n 2, 1) := by decide +kernel
theorem dX4_clash_27 : decode cX4_clash 27 = .ok (.iaload, 1) := by decide +kernel
theorem dX4_clash_28 : decode cX4_clash 28 = .ok (.aload_n 0, 1) := by decide +kernel
theorem dX4_clash_29 : decode cX4_clash 29 = .ok (.getfield 25, 3) := by decide +kernel
theorem dX4_clash_32 : decode cX4_clash 32 = .ok (.getfield 76, 3) := by decide +kernel
theorem dX4_clash_35 : decode cX4_clash 35 = .ok (.iload_n 2, 1) := by decide +kernel
theorem dX4_clash_36 : decode cX4_clash 36 = .ok (.iaload, 1) := by decide +kernel
theorem dX4_clash_37 : decode cX4_clash 37 = .ok (.invokevirtual 79, 3) := by decide +kernel
theorem dX4_clash_40 : decode cX4_clash 40 = .ok (.iconst (-1), 1) := by decide +kernel
theorem dX4_clash_41 : decode cX4_clash 41 = .ok (.if_icmp .eq 5, 3) := by decide +kernel
theorem dX4_clash_44 : decode cX4_clash 44 = .ok (.iload_n 2, 1) := by decide +kernel
theorem dX4_clash_45 : decode cX4_clash 45 = .ok (.ireturn, 1) := by decide +kernel
theorem dX4_clash_46 : decode cX4_clash 46 = .ok (.iinc 2 1, 3) := by decide +kernel
theorem dX4_clash_49 : decode cX4_clash 49 = .ok (.goto (-42), 3) := by decide +kernel
theorem dX4_clash_52 : decode cX4_clash 52 = .ok (.iconst (-1), 1) := by decide +kernel
theorem dX4_clash_53 : decode cX4_clash 53 = .ok (.ireturn, 1) := by decide +kernel
set_option maxRecDepth 20000 in
theorem ggX4_same_X4_areTerms : GoodIn wsX4_same wsX4_areTerms := goodIn_r _ [5, 6, 7, 8, 9, 10, 11, 12, 107, 108, 109, 110, 111, 112, 113, 114, 115, 116, 117, 118, 119, 120, 121, 122, 123, 124] (by decide +kernel) (by decide +kernel)
set_option maxRecDepth 20000 in
theorem gX4_same_X4_areTerms : GoodIn wsX4_same (wsV RX4 60 RX4 yX4_areTerms wsX4_areTerms) := goodIn_app (goodIn_of _ (by decide +kernel)) ggX4_same_X4_areTerms
set_option maxRecDepth 20000 in
theorem ggX4_same_X4_classes : GoodIn wsX4_same wsX4_classes := goodIn_r _ [16, 17, 18, 6, 19, 20, 21, 22, 23, 24, 25, 26, 27, 28, 29, 30, 31, 32, 33, 34, 35, 36, 37, 38, 39, 40, 41, 42, 43, 44, 45, 46, 47, 48, 49, 50, 51, 52, 53, 54, 55, 56, 57, 58, 59, 60, 61, 62, 63, 64, 65, 66, 67, 68, 69, 70, 71, 72, 73, 74, 75, 76, 77, 78, 79, 80, 81, 82, 83, 84, 85, 86, 87, 88, 89, 90, 91, 92, 93, 94, 95, 96, 97, 98, 99, 100, 101, 102, 107, 108, 109, 110, 111, 112, 113, 114, 115, 116, 117, 118, 119, 125, 126, 127, 120, 121, 122, 123, 124, 128, 129, 130, 131, 132, 133, 134, 135, 136, 137, 138, 139, 140, 141, 142, 143] (by decide +kernel) (by decide +kernel)
set_option maxRecDepth 20000 in
theorem gX4_same_X4_classes : GoodIn wsX4_same (wsV RX4 68 RX4 yX4_classes wsX4_classes) := goodIn_app (goodIn_of _ (by decide +kernel)) ggX4_same_X4_classes
set_option maxRecDepth 20000 in
theorem ggX4_same_X1_meeting : GoodIn wsX4_same wsX1_meeting := goodIn_r _ [106, 43, 44, 42, 137, 138, 139, 140, 141, 142, 143] (by decide +kernel) (by decide +kernel)
set_option maxRecDepth 20000 in
theorem gX4_same_X1_meeting : GoodIn wsX4_same (wsV RX4 79 RX1 yX1_meeting wsX1_meeting) := goodIn_app (goodIn_of _ (by decide +kernel)) ggX4_same_X1_meeting
theorem dX4_same_0 : decode cX4_same 0 = .ok (.aload_n 0, 1) := by decide +kernel
theorem dX4_same_1 : decode cX4_same 1 = .ok (.iload_n 1, 1) := by decide +kernel
theorem dX4_same_2 : decode cX4_same 2 = .ok (.iload_n 2, 1) := by decide +kernel
theorem dX4_same_3 : decode cX4_same 3 = .ok (.invokevirtual 60, 3) := by decide +kernel
theorem dX4_same_6 : decode cX4_same 6 = .ok (.ifCond .ne 6, 3) := by decide +kernel
theorem dX4_same_9 : decode cX4_same 9 = .ok (.bipush (-2), 2) := by decide +kernel
theorem dX4_same_11 : decode cX4_same 11 = .ok (.ireturn, 1) := by decide +kernel
theorem dX4_same_12 : decode cX4_same 12 = .ok (.aload_n 0, 1) := by decide +kernel
theorem dX4_same_13 : decode cX4_same 13 = .ok (.invokevirtual 68, 3) := by decide +kernel
theorem dX4_same_16 : decode cX4_same 16 = .ok (.iload_n 1, 1) := by decide +kernel
theorem dX4_same_17 : decode cX4_same 17 = .ok (.iload_n 2, 1) := by decide +kernel
theorem dX4_same_18 : decode cX4_same 18 = .ok (.invokevirtual 79, 3) := by decide +kernel
theorem dX4_same_21 : decode cX4_same 21 = .ok (.iconst (-1), 1) := by decide +kernel
theorem dX4_same_22 : decode cX4_same 22 = .ok (.if_icmp .ne 7, 3) := by decide +kernel
theorem dX4_same_25 : decode cX4_same 25 = .ok (.iconst 0, 1) := by decide +kernel
theorem dX4_same_26 : decode cX4_same 26 = .ok (.goto 4, 3) := by decide +kernel
theorem dX4_same_29 : decode cX4_same 29 = .ok (.iconst 1, 1) := by decide +kernel
theorem dX4_same_30 : decode cX4_same 30 = .ok (.ireturn, 1) := by decide +kernel
set_option maxRecDepth 20000 in
theorem ggX4_least_X3_has : GoodIn wsX4_least wsX3_has := goodIn_r _ [7, 8, 121, 122, 123, 124, 125] (by decide +kernel) (by decide +kernel)
set_option maxRecDepth 20000 in
theorem gX4_least_X3_has : GoodIn wsX4_least (wsV RX4 82 RX3 yX3_has wsX3_has) := goodIn_app (goodIn_of _ (by decide +kernel)) ggX4_least_X3_has
set_option maxRecDepth 20000 in
theorem ggX4_least_X4_classes : GoodIn wsX4_least wsX4_classes := goodIn_r _ [13, 14, 15, 1, 16, 17, 18, 19, 20, 21, 22, 23, 24, 25, 26, 27, 28, 29, 30, 31, 32, 33, 34, 35, 36, 37, 38, 39, 40, 41, 42, 43, 44, 45, 46, 47, 48, 49, 50, 51, 52, 53, 54, 55, 56, 57, 58, 59, 60, 61, 62, 63, 64, 65, 66, 67, 68, 69, 70, 71, 72, 73, 74, 75, 76, 77, 78, 79, 80, 81, 82, 83, 84, 85, 86, 87, 88, 89, 90, 91, 92, 93, 94, 95, 96, 97, 98, 99, 101, 102, 103, 104, 105, 106, 107, 108, 109, 110, 111, 112, 113, 126, 127, 128, 121, 122, 123, 124, 125, 129, 130, 131, 132, 133, 134, 135, 136, 137, 114, 115, 116, 117, 118, 119, 120] (by decide +kernel) (by decide +kernel)
set_option maxRecDepth 20000 in
theorem gX4_least_X4_classes : GoodIn wsX4_least (wsV RX4 68 RX4 yX4_classes wsX4_classes) := goodIn_app (goodIn_of _ (by decide +kernel)) ggX4_least_X4_classes
set_option maxRecDepth 20000 in
theorem ggX4_least_X1_top : GoodIn wsX4_least wsX1_top := goodIn_r _ [59, 39, 114, 115, 116, 117, 118, 119, 120] (by decide +kernel) (by decide +kernel)
set_option maxRecDepth 20000 in
theorem gX4_least_X1_top : GoodIn wsX4_least (wsV RX4 89 RX1 yX1_top wsX1_top) := goodIn_app (goodIn_of _ (by decide +kernel)) ggX4_least_X1_top
theorem dX4_least_0 : decode cX4_least 0 = .ok (.aload_n 0, 1) := by decide +kernel
theorem dX4_least_1 : decode cX4_least 1 = .ok (.getfield 10, 3) := by decide +kernel
theorem dX4_least_4 : decode cX4_least 4 = .ok (.iload_n 1, 1) := by decide +kernel
theorem dX4_least_5 : decode cX4_least 5 = .ok (.invokevirtual 82, 3) := by decide +kernel
theorem dX4_least_8 : decode cX4_least 8 = .ok (.ifCond .ne 6, 3) := by decide +kernel
theorem dX4_least_11 : decode cX4_least 11 = .ok (.bipush (-2), 2) := by decide +kernel
theorem dX4_least_13 : decode cX4_least 13 = .ok (.ireturn, 1) := by decide +kernel
theorem dX4_least_14 : decode cX4_least 14 = .ok (.aload_n 0, 1) := by decide +kernel
theorem dX4_least_15 : decode cX4_least 15 = .ok (.invokevirtual 68, 3) := by decide +kernel
theorem dX4_least_18 : decode cX4_least 18 = .ok (.astore_n 2, 1) := by decide +kernel
theorem dX4_least_19 : decode cX4_least 19 = .ok (.aload_n 2, 1) := by decide +kernel
theorem dX4_least_20 : decode cX4_least 20 = .ok (.getfield 86, 3) := by decide +kernel
theorem dX4_least_23 : decode cX4_least 23 = .ok (.aload_n 2, 1) := by decide +kernel
theorem dX4_least_24 : decode cX4_least 24 = .ok (.iload_n 1, 1) := by decide +kernel
theorem dX4_least_25 : decode cX4_least 25 = .ok (.invokevirtual 89, 3) := by decide +kernel
theorem dX4_least_28 : decode cX4_least 28 = .ok (.iaload, 1) := by decide +kernel
theorem dX4_least_29 : decode cX4_least 29 = .ok (.ireturn, 1) := by decide +kernel
set_option maxRecDepth 20000 in
theorem ggX4_size_X3_has : GoodIn wsX4_size wsX3_has := goodIn_r _ [7, 8, 121, 122, 123, 124, 125] (by decide +kernel) (by decide +kernel)
set_option maxRecDepth 20000 in
theorem gX4_size_X3_has : GoodIn wsX4_size (wsV RX4 82 RX3 yX3_has wsX3_has) := goodIn_app (goodIn_of _ (by decide +kernel)) ggX4_size_X3_has
set_option maxRecDepth 20000 in
theorem ggX4_size_X4_classes : GoodIn wsX4_size wsX4_classes := goodIn_r _ [13, 14, 15, 1, 16, 17, 18, 19, 20, 21, 22, 23, 24, 25, 26, 27, 28, 29, 30, 31, 32, 33, 34, 35, 36, 37, 38, 39, 40, 41, 42, 43, 44, 45, 46, 47, 48, 49, 50, 51, 52, 53, 54, 55, 56, 57, 58, 59, 60, 61, 62, 63, 64, 65, 66, 67, 68, 69, 70, 71, 72, 73, 74, 75, 76, 77, 78, 79, 80, 81, 82, 83, 84, 85, 86, 87, 88, 89, 90, 91, 92, 93, 94, 95, 96, 97, 98, 99, 101, 102, 103, 104, 105, 106, 107, 108, 109, 110, 111, 112, 113, 126, 127, 128, 121, 122, 123, 124, 125, 129, 130, 131, 132, 133, 134, 135, 136, 137, 114, 115, 116, 117, 118, 119, 120] (by decide +kernel) (by decide +kernel)
set_option maxRecDepth 20000 in
theorem gX4_size_X4_classes : GoodIn wsX4_size (wsV RX4 68 RX4 yX4_classes wsX4_classes) := goodIn_app (goodIn_of _ (by decide +kernel)) ggX4_size_X4_classes
set_option maxRecDepth 20000 in
theorem ggX4_size_X1_top : GoodIn wsX4_size wsX1_top := goodIn_r _ [59, 39, 114, 115, 116, 117, 118, 119, 120] (by decide +kernel) (by decide +kernel)
set_option maxRecDepth 20000 in
theorem gX4_size_X1_top : GoodIn wsX4_size (wsV RX4 89 RX1 yX1_top wsX1_top) := goodIn_app (goodIn_of _ (by decide +kernel)) ggX4_size_X1_top
theorem dX4_size_0 : decode cX4_size 0 = .ok (.aload_n 0, 1) := by decide +kernel
theorem dX4_size_1 : decode cX4_size 1 = .ok (.getfield 10, 3) := by decide +kernel
theorem dX4_size_4 : decode cX4_size 4 = .ok (.iload_n 1, 1) := by decide +kernel
theorem dX4_size_5 : decode cX4_size 5 = .ok (.invokevirtual 82, 3) := by decide +kernel
theorem dX4_size_8 : decode cX4_size 8 = .ok (.ifCond .ne 6, 3) := by decide +kernel
theorem dX4_size_11 : decode cX4_size 11 = .ok (.bipush (-2), 2) := by decide +kernel
theorem dX4_size_13 : decode cX4_size 13 = .ok (.ireturn, 1) := by decide +kernel
theorem dX4_size_14 : decode cX4_size 14 = .ok (.aload_n 0, 1) := by decide +kernel
theorem dX4_size_15 : decode cX4_size 15 = .ok (.invokevirtual 68, 3) := by decide +kernel
theorem dX4_size_18 : decode cX4_size 18 = .ok (.astore_n 2, 1) := by decide +kernel
theorem dX4_size_19 : decode cX4_size 19 = .ok (.aload_n 2, 1) := by decide +kernel
theorem dX4_size_20 : decode cX4_size 20 = .ok (.getfield 93, 3) := by decide +kernel
theorem dX4_size_23 : decode cX4_size 23 = .ok (.aload_n 2, 1) := by decide +kernel
theorem dX4_size_24 : decode cX4_size 24 = .ok (.iload_n 1, 1) := by decide +kernel
theorem dX4_size_25 : decode cX4_size 25 = .ok (.invokevirtual 89, 3) := by decide +kernel
theorem dX4_size_28 : decode cX4_size 28 = .ok (.iaload, 1) := by decide +kernel
theorem dX4_size_29 : decode cX4_size 29 = .ok (.ireturn, 1) := by decide +kernel
set_option maxRecDepth 20000 in
theorem ggX4_since_X4_areTerms : GoodIn wsX4_since wsX4_areTerms := goodIn_r _ [5, 6, 7, 8, 9, 10, 11, 12, 107, 108, 109, 110, 111, 112, 113, 114, 115, 116, 117, 118, 119, 120, 121, 122, 123, 124] (by decide +kernel) (by decide +kernel)
set_option maxRecDepth 20000 in
theorem gX4_since_X4_areTerms : GoodIn wsX4_since (wsV RX4 60 RX4 yX4_areTerms wsX4_areTerms) := goodIn_app (goodIn_of _ (by decide +kernel)) ggX4_since_X4_areTerms
set_option maxRecDepth 20000 in
theorem ggX4_since_X4_classes : GoodIn wsX4_since wsX4_classes := goodIn_r _ [16, 17, 18, 6, 19, 20, 21, 22, 23, 24, 25, 26, 27, 28, 29, 30, 31, 32, 33, 34, 35, 36, 37, 38, 39, 40, 41, 42, 43, 44, 45, 46, 47, 48, 49, 50, 51, 52, 53, 54, 55, 56, 57, 58, 59, 60, 61, 62, 63, 64, 65, 66, 67, 68, 69, 70, 71, 72, 73, 74, 75, 76, 77, 78, 79, 80, 81, 82, 83, 84, 85, 86, 87, 88, 89, 90, 91, 92, 93, 94, 95, 96, 97, 98, 99, 100, 101, 102, 107, 108, 109, 110, 111, 112, 113, 114, 115, 116, 117, 118, 119, 125, 126, 127, 120, 121, 122, 123, 124, 128, 129, 130, 131, 132, 133, 134, 135, 136, 137, 138, 139, 140, 141, 142, 143] (by decide +kernel) (by decide +kernel)
set_option maxRecDepth 20000 in
theorem gX4_since_X4_classes : GoodIn wsX4_since (wsV RX4 68 RX4 yX4_classes wsX4_classes) := goodIn_app (goodIn_of _ (by decide +kernel)) ggX4_since_X4_classes
set_option maxRecDepth 20000 in
theorem ggX4_since_X1_meeting : GoodIn wsX4_since wsX1_meeting := goodIn_r _ [106, 43, 44, 42, 137, 138, 139, 140, 141, 142, 143] (by decide +kernel) (by decide +kernel)
set_option maxRecDepth 20000 in
theorem gX4_since_X1_meeting : GoodIn wsX4_since (wsV RX4 79 RX1 yX1_meeting wsX1_meeting) := goodIn_app (goodIn_of _ (by decide +kernel)) ggX4_since_X1_meeting
theorem dX4_since_0 : decode cX4_since 0 = .ok (.aload_n 0, 1) := by decide +kernel
theorem dX4_since_1 : decode cX4_since 1 = .ok (.iload_n 1, 1) := by decide +kernel
theorem dX4_since_2 : decode cX4_since 2 = .ok (.iload_n 2, 1) := by decide +kernel
theorem dX4_since_3 : decode cX4_since 3 = .ok (.invokevirtual 60, 3) := by decide +kernel
theorem dX4_since_6 : decode cX4_since 6 = .ok (.ifCond .eq 15, 3) := by decide +kernel
theorem dX4_since_9 : decode cX4_since 9 = .ok (.aload_n 0, 1) := by decide +kernel
theorem dX4_since_10 : decode cX4_since 10 = .ok (.invokevirtual 68, 3) := by decide +kernel
theorem dX4_since_13 : decode cX4_since 13 = .ok (.iload_n 1, 1) := by decide +kernel
theorem dX4_since_14 : decode cX4_since 14 = .ok (.iload_n 2, 1) := by decide +kernel
theorem dX4_since_15 : decode cX4_since 15 = .ok (.invokevirtual 79, 3) := by decide +kernel
theorem dX4_since_18 : decode cX4_since 18 = .ok (.goto 5, 3) := by decide +kernel
theorem dX4_since_21 : decode cX4_since 21 = .ok (.bipush (-2), 2) := by decide +kernel
theorem dX4_since_23 : decode cX4_since 23 = .ok (.ireturn, 1) := by decide +kernel
set_option maxRecDepth 20000 in
theorem ggX4_round_X4_areTerms : GoodIn wsX4_round wsX4_areTerms := goodIn_r _ [5, 6, 7, 8, 9, 10, 11, 12, 104, 105, 106, 107, 108, 109, 110, 111, 112, 113, 114, 115, 116, 117, 118, 119, 120, 121] (by decide +kernel) (by decide +kernel)
set_option maxRecDepth 20000 in
theorem gX4_round_X4_areTerms : GoodIn wsX4_round (wsV RX4 60 RX4 yX4_areTerms wsX4_areTerms) := goodIn_app (goodIn_of _ (by decide +kernel)) ggX4_round_X4_areTerms
set_option maxRecDepth 20000 in
theorem ggX4_round_X4_rounds : GoodIn wsX4_round wsX4_rounds := goodIn_r _ [16, 17, 18, 6, 19, 20, 21, 22, 23, 24, 25, 26, 27, 28, 29, 30, 31, 32, 33, 34, 35, 36, 37, 38, 39, 40, 41, 42, 43, 44, 45, 46, 47, 48, 49, 50, 51, 52, 53, 54, 55, 56, 57, 58, 59, 60, 61, 62, 63, 64, 65, 66, 67, 68, 69, 70, 71, 72, 73, 74, 75, 76, 77, 78, 79, 80, 81, 82, 83, 84, 85, 86, 87, 88, 89, 90, 91, 92, 93, 94, 95, 96, 97, 98, 99, 104, 105, 106, 107, 108, 109, 110, 111, 112, 113, 114, 115, 116, 122, 123, 124, 125, 126, 127, 128, 129, 130, 131, 132, 133, 117, 118, 119, 120, 121, 134, 135, 136, 137, 138, 139, 140] (by decide +kernel) (by decide +kernel)
set_option maxRecDepth 20000 in
theorem gX4_round_X4_rounds : GoodIn wsX4_round (wsV RX4 96 RX4 yX4_rounds wsX4_rounds) := goodIn_app (goodIn_of _ (by decide +kernel)) ggX4_round_X4_rounds
set_option maxRecDepth 20000 in
theorem ggX4_round_X1_meeting : GoodIn wsX4_round wsX1_meeting := goodIn_r _ [103, 44, 45, 43, 134, 135, 136, 137, 138, 139, 140] (by decide +kernel) (by decide +kernel)
set_option maxRecDepth 20000 in
theorem gX4_round_X1_meeting : GoodIn wsX4_round (wsV RX4 79 RX1 yX1_meeting wsX1_meeting) := goodIn_app (goodIn_of _ (by decide +kernel)) ggX4_round_X1_meeting
theorem dX4_round_0 : decode cX4_round 0 = .ok (.aload_n 0, 1) := by decide +kernel
theorem dX4_round_1 : decode cX4_round 1 = .ok (.iload_n 1, 1) := by decide +kernel
theorem dX4_round_2 : decode cX4_round 2 = .ok (.iload_n 2, 1) := by decide +kernel
theorem dX4_round_3 : decode cX4_round 3 = .ok (.invokevirtual 60, 3) := by decide +kernel
theorem dX4_round_6 : decode cX4_round 6 = .ok (.ifCond .eq 15, 3) := by decide +kernel
theorem dX4_round_9 : decode cX4_round 9 = .ok (.aload_n 0, 1) := by decide +kernel
theorem dX4_round_10 : decode cX4_round 10 = .ok (.invokevirtual 96, 3) := by decide +kernel
theorem dX4_round_13 : decode cX4_round 13 = .ok (.iload_n 1, 1) := by decide +kernel
theorem dX4_round_14 : decode cX4_round 14 = .ok (.iload_n 2, 1) := by decide +kernel
theorem dX4_round_15 : decode cX4_round 15 = .ok (.invokevirtual 79, 3) := by decide +kernel
theorem dX4_round_18 : decode cX4_round 18 = .ok (.goto 5, 3) := by decide +kernel
theorem dX4_round_21 : decode cX4_round 21 = .ok (.bipush (-2), 2) := by decide +kernel
theorem dX4_round_23 : decode cX4_round 23 = .ok (.ireturn, 1) := by decide +kernel
set_option maxRecDepth 20000 in
theorem ggX4_why_X4_areTerms : GoodIn wsX4_why wsX4_areTerms := goodIn_r _ [5, 6, 7, 8, 9, 10, 11, 12, 134, 135, 136, 137, 138, 139, 140, 141, 142, 143, 144, 145, 146, 147, 148, 149, 150, 151] (by decide +kernel) (by decide +kernel)
set_option maxRecDepth 20000 in
theorem gX4_why_X4_areTerms : GoodIn wsX4_why (wsV RX4 60 RX4 yX4_areTerms wsX4_areTerms) := goodIn_app (goodIn_of _ (by decide +kernel)) ggX4_why_X4_areTerms
set_option maxRecDepth 20000 in
theorem ggX4_why_X4_classes : GoodIn wsX4_why wsX4_classes := goodIn_r _ [16, 17, 18, 6, 19, 20, 21, 22, 23, 24, 25, 26, 27, 28, 29, 30, 31, 32, 33, 34, 35, 36, 37, 38, 39, 40, 41, 42, 43, 44, 45, 46, 47, 48, 49, 50, 51, 52, 53, 54, 55, 56, 57, 58, 59, 60, 61, 62, 63, 64, 65, 66, 67, 68, 69, 70, 71, 72, 73, 74, 75, 76, 77, 78, 79, 80, 81, 82, 83, 84, 85, 86, 87, 88, 89, 90, 91, 92, 93, 94, 95, 96, 97, 98, 99, 100, 101, 102, 134, 135, 136, 137, 138, 139, 140, 141, 142, 143, 144, 145, 146, 152, 153, 154, 147, 148, 149, 150, 151, 155, 156, 157, 158, 159, 160, 161, 162, 163, 164, 165, 166, 167, 168, 169, 170] (by decide +kernel) (by decide +kernel)
set_option maxRecDepth 20000 in
theorem gX4_why_X4_classes : GoodIn wsX4_why (wsV RX4 68 RX4 yX4_classes wsX4_classes) := goodIn_app (goodIn_of _ (by decide +kernel)) ggX4_why_X4_classes
set_option maxRecDepth 20000 in
theorem ggX4_why_X1_meeting : GoodIn wsX4_why wsX1_meeting := goodIn_r _ [106, 43, 44, 42, 164, 165, 166, 167, 168, 169, 170] (by decide +kernel) (by decide +kernel)
set_option maxRecDepth 20000 in
theorem gX4_why_X1_meeting : GoodIn wsX4_why (wsV RX4 79 RX1 yX1_meeting wsX1_meeting) := goodIn_app (goodIn_of _ (by decide +kernel)) ggX4_why_X1_meeting
set_option maxRecDepth 20000 in
theorem ggX4_why_X4_reasonsOf : GoodIn wsX4_why wsX4_reasonsOf := goodIn_r _ [110, 111, 112, 113, 114, 13, 14, 15, 4, 16, 17, 18, 6, 19, 20, 21, 22, 23, 24, 25, 26, 27, 28, 29, 30, 31, 32, 33, 34, 35, 36, 37, 38, 39, 40, 41, 42, 43, 44, 45, 46, 47, 48, 49, 50, 51, 52, 53, 54, 55, 56, 57, 58, 59, 60, 61, 62, 63, 64, 65, 66, 67, 68, 69, 70, 71, 72, 73, 74, 75, 76, 77, 78, 79, 80, 81, 82, 83, 84, 85, 86, 87, 88, 89, 90, 91, 92, 93, 94, 95, 96, 97, 98, 99, 100, 101, 102, 103, 104, 105, 106, 115, 116, 117, 118, 119, 120, 121, 122, 123, 134, 135, 136, 137, 138, 139, 140, 141, 142, 143, 144, 145, 146, 152, 153, 154, 147, 148, 149, 150, 151, 155, 156, 157, 158, 159, 160, 161, 162, 163, 164, 165, 166, 167, 168, 169, 170] (by decide +kernel) (by decide +kernel)
set_option maxRecDepth 20000 in
theorem gX4_why_X4_reasonsOf : GoodIn wsX4_why (wsV RX4 99 RX4 yX4_reasonsOf wsX4_reasonsOf) := goodIn_app (goodIn_of _ (by decide +kernel)) ggX4_why_X4_reasonsOf
set_option maxRecDepth 20000 in
theorem ggX4_why_J13_bitCount_95d88 : GoodIn wsX4_why wsJ13_bitCount_95d88 := goodIn_r _ [127, 128, 129, 130] (by decide +kernel) (by decide +kernel)
set_option maxRecDepth 20000 in
theorem gX4_why_J13_bitCount_95d88 : GoodIn wsX4_why (va_wsS RX4 103 yJ13_bitCount_95d88 wsJ13_bitCount_95d88) := goodIn_app (goodIn_of _ (by decide +kernel)) ggX4_why_J13_bitCount_95d88
set_option maxRecDepth 20000 in
theorem ggX4_why_X4_equationAt : GoodIn wsX4_why wsX4_equationAt := goodIn_r _ [133] (by decide +kernel) (by decide +kernel)
set_option maxRecDepth 20000 in
theorem gX4_why_X4_equationAt : GoodIn wsX4_why (va_wsS RX4 109 yX4_equationAt wsX4_equationAt) := goodIn_app (goodIn_of _ (by decide +kernel)) ggX4_why_X4_equationAt
theorem dX4_why_0 : decode cX4_why 0 = .ok (.aload_n 0, 1) := by decide +kernel
theorem dX4_why_1 : decode cX4_why 1 = .ok (.iload_n 1, 1) := by decide +kernel
theorem dX4_why_2 : decode cX4_why 2 = .ok (.iload_n 2, 1) := by decide +kernel
theorem dX4_why_3 : decode cX4_why 3 = .ok (.invokevirtual 60, 3) := by decide +kernel
theorem dX4_why_6 : decode cX4_why 6 = .ok (.ifCond .eq 8, 3) := by decide +kernel
theorem dX4_why_9 : decode cX4_why 9 = .ok (.iload_n 3, 1) := by decide +kernel
theorem dX4_why_10 : decode cX4_why 10 = .ok (.iconst (-1), 1) := by decide +kernel
theorem dX4_why_11 : decode cX4_why 11 = .ok (.if_icmp .ge 6, 3) := by decide +kernel
theorem dX4_why_14 : decode cX4_why 14 = .ok (.bipush (-2), 2) := by decide +kernel
theorem dX4_why_16 : decode cX4_why 16 = .ok (.ireturn, 1) := by decide +kernel
theorem dX4_why_17 : decode cX4_why 17 = .ok (.aload_n 0, 1) := by decide +kernel
theorem dX4_why_18 : decode cX4_why 18 = .ok (.invokevirtual 68, 3) := by decide +kernel
theorem dX4_why_21 : decode cX4_why 21 = .ok (.iload_n 1, 1) := by decide +kernel
theorem dX4_why_22 : decode cX4_why 22 = .ok (.iload_n 2, 1) := by decide +kernel
theorem dX4_why_23 : decode cX4_why 23 = .ok (.invokevirtual 79, 3) := by decide +kernel
theorem dX4_why_26 : decode cX4_why 26 = .ok (.iconst (-1), 1) := by decide +kernel
theorem dX4_why_27 : decode cX4_why 27 = .ok (.if_icmp .ne 5, 3) := by decide +kernel
theorem dX4_why_30 : decode cX4_why 30 = .ok (.iconst (-1), 1) := by decide +kernel
theorem dX4_why_31 : decode cX4_why 31 = .ok (.ireturn, 1) := by decide +kernel
theorem dX4_why_32 : decode cX4_why 32 = .ok (.aload_n 0, 1) := by decide +kernel
theorem dX4_why_33 : decode cX4_why 33 = .ok (.iload_n 1, 1) := by decide +kernel
theorem dX4_why_34 : decode cX4_why 34 = .ok (.iload_n 2, 1) := by decide +kernel
theorem dX4_why_35 : decode cX4_why 35 = .ok (.invokevirtual 99, 3) := by decide +kernel
theorem dX4_why_38 : decode cX4_why 38 = .ok (.lstore 4, 2) := by decide +kernel
theorem dX4_why_40 : decode cX4_why 40 = .ok (.iload_n 3, 1) := by decide +kernel
theorem dX4_why_41 : decode cX4_why 41 = .ok (.iconst (-1), 1) := by decide +kernel
theorem dX4_why_42 : decode cX4_why 42 = .ok (.if_icmp .ne 11, 3) := by decide +kernel
theorem dX4_why_45 : decode cX4_why 45 = .ok (.lload 4, 2) := by decide +kernel
theorem dX4_why_47 : decode cX4_why 47 = .ok (.invokestatic 103, 3) := by decide +kernel
theorem dX4_why_50 : decode cX4_why 50 = .ok (.goto 9, 3) := by decide +kernel
theorem dX4_why_53 : decode cX4_why 53 = .ok (.lload 4, 2) := by decide +kernel
theorem dX4_why_55 : decode cX4_why 55 = .ok (.iload_n 3, 1) := by decide +kernel
theorem dX4_why_56 : decode cX4_why 56 = .ok (.invokestatic 109, 3) := by decide +kernel
theorem dX4_why_59 : decode cX4_why 59 = .ok (.ireturn, 1) := by decide +kernel
set_option maxRecDepth 20000 in
theorem ggX4_gives_X4_areTerms : GoodIn wsX4_gives wsX4_areTerms := goodIn_r _ [8, 9, 10, 11, 12, 13, 14, 15, 106, 107, 108, 109, 110, 111, 112, 113, 114, 115, 116, 117, 118, 122, 123, 124, 125, 126] (by decide +kernel) (by decide +kernel)
set_option maxRecDepth 20000 in
theorem gX4_gives_X4_areTerms : GoodIn wsX4_gives (wsV RX4 60 RX4 yX4_areTerms wsX4_areTerms) := goodIn_app (goodIn_of _ (by decide +kernel)) ggX4_gives_X4_areTerms
set_option maxRecDepth 20000 in
theorem ggX4_gives_X4_closeOver : GoodIn wsX4_gives wsX4_closeOver := goodIn_r _ [19, 20, 9, 3, 1, 2, 21, 22, 23, 24, 25, 26, 27, 28, 29, 30, 31, 32, 33, 34, 35, 36, 37, 38, 39, 40, 41, 42, 43, 44, 45, 46, 47, 48, 49, 50, 51, 52, 53, 54, 55, 56, 57, 58, 59, 60, 61, 62, 63, 64, 65, 66, 67, 68, 69, 70, 71, 72, 73, 74, 75, 76, 77, 78, 79, 80, 81, 82, 83, 84, 85, 86, 87, 88, 89, 90, 91, 92, 93, 94, 95, 96, 97, 98, 99, 100, 101, 106, 107, 108, 109, 110, 111, 112, 113, 114, 115, 116, 117, 118, 119, 120, 121, 122, 123, 124, 125, 126, 127, 128, 129, 130, 131, 132, 133, 134, 135, 136, 137, 138, 139, 140, 141, 142] (by decide +kernel) (by decide +kernel)
set_option maxRecDepth 20000 in
theorem gX4_gives_X4_closeOver : GoodIn wsX4_gives (wsV RX4 113 RX4 yX4_closeOver wsX4_closeOver) := goodIn_app (goodIn_of _ (by decide +kernel)) ggX4_gives_X4_closeOver
set_option maxRecDepth 20000 in
theorem ggX4_gives_X1_meeting : GoodIn wsX4_gives wsX1_meeting := goodIn_r _ [105, 42, 43, 41, 136, 137, 138, 139, 140, 141, 142] (by decide +kernel) (by decide +kernel)
set_option maxRecDepth 20000 in
theorem gX4_gives_X1_meeting : GoodIn wsX4_gives (wsV RX4 79 RX1 yX1_meeting wsX1_meeting) := goodIn_app (goodIn_of _ (by decide +kernel)) ggX4_gives_X1_meeting
theorem dX4_gives_0 : decode cX4_gives 0 = .ok (.aload_n 0, 1) := by decide +kernel
theorem dX4_gives_1 : decode cX4_gives 1 = .ok (.iload_n 3, 1) := by decide +kernel
theorem dX4_gives_2 : decode cX4_gives 2 = .ok (.iload 4, 2) := by decide +kernel
theorem dX4_gives_4 : decode cX4_gives 4 = .ok (.invokevirtual 60, 3) := by decide +kernel
theorem dX4_gives_7 : decode cX4_gives 7 = .ok (.ifCond .eq 17, 3) := by decide +kernel
theorem dX4_gives_10 : decode cX4_gives 10 = .ok (.lload_n 1, 1) := by decide +kernel
theorem dX4_gives_11 : decode cX4_gives 11 = .ok (.aload_n 0, 1) := by decide +kernel
theorem dX4_gives_12 : decode cX4_gives 12 = .ok (.getfield 21, 3) := by decide +kernel
theorem dX4_gives_15 : decode cX4_gives 15 = .ok (.getfield 52, 3) := by decide +kernel
theorem dX4_gives_18 : decode cX4_gives 18 = .ok (.lushr, 1) := by decide +kernel
theorem dX4_gives_19 : decode cX4_gives 19 = .ok (.lconst 0, 1) := by decide +kernel
theorem dX4_gives_20 : decode cX4_gives 20 = .ok (.lcmp, 1) := by decide +kernel
theorem dX4_gives_21 : decode cX4_gives 21 = .ok (.ifCond .eq 6, 3) := by decide +kernel
theorem dX4_gives_24 : decode cX4_gives 24 = .ok (.bipush (-2), 2) := by decide +kernel
theorem dX4_gives_26 : decode cX4_gives 26 = .ok (.ireturn, 1) := by decide +kernel
theorem dX4_gives_27 : decode cX4_gives 27 = .ok (.aload_n 0, 1) := by decide +kernel
theorem dX4_gives_28 : decode cX4_gives 28 = .ok (.lload_n 1, 1) := by decide +kernel
theorem dX4_gives_29 : decode cX4_gives 29 = .ok (.invokevirtual 113, 3) := by decide +kernel
theorem dX4_gives_32 : decode cX4_gives 32 = .ok (.aload_n 0, 1) := by decide +kernel
theorem dX4_gives_33 : decode cX4_gives 33 = .ok (.getfield 45, 3) := by decide +kernel
theorem dX4_gives_36 : decode cX4_gives 36 = .ok (.iload_n 3, 1) := by decide +kernel
theorem dX4_gives_37 : decode cX4_gives 37 = .ok (.iload 4, 2) := by decide +kernel
theorem dX4_gives_39 : decode cX4_gives 39 = .ok (.invokevirtual 79, 3) := by decide +kernel
theorem dX4_gives_42 : decode cX4_gives 42 = .ok (.iconst (-1), 1) := by decide +kernel
theorem dX4_gives_43 : decode cX4_gives 43 = .ok (.if_icmp .ne 7, 3) := by decide +kernel
theorem dX4_gives_46 : decode cX4_gives 46 = .ok (.iconst 0, 1) := by decide +kernel
theorem dX4_gives_47 : decode cX4_gives 47 = .ok (.goto 4, 3) := by decide +kernel
theorem dX4_gives_50 : decode cX4_gives 50 = .ok (.iconst 1, 1) := by decide +kernel
theorem dX4_gives_51 : decode cX4_gives 51 = .ok (.ireturn, 1) := by decide +kernel
set_option maxRecDepth 20000 in
theorem ggX4_told_X3_has : GoodIn wsX4_told wsX3_has := goodIn_r _ [12, 13, 33, 34, 35, 36, 37] (by decide +kernel) (by decide +kernel)
set_option maxRecDepth 20000 in
theorem gX4_told_X3_has : GoodIn wsX4_told (wsV RX4 82 RX3 yX3_has wsX3_has) := goodIn_app (goodIn_of _ (by decide +kernel)) ggX4_told_X3_has
set_option maxRecDepth 20000 in
theorem ggX4_told_X2_has : GoodIn wsX4_told wsX2_has := goodIn_r _ [18, 19, 38, 39, 40] (by decide +kernel) (by decide +kernel)
set_option maxRecDepth 20000 in
theorem gX4_told_X2_has : GoodIn wsX4_told (wsV RX4 123 RX2 yX2_has wsX2_has) := goodIn_app (goodIn_of _ (by decide +kernel)) ggX4_told_X2_has
theorem dX4_told_0 : decode cX4_told 0 = .ok (.iload_n 2, 1) := by decide +kernel
theorem dX4_told_1 : decode cX4_told 1 = .ok (.tableswitch 189 0 5 #[39, 64, 89, 114, 139, 164], 39) := by decide +kernel
theorem dX4_told_40 : decode cX4_told 40 = .ok (.aload_n 0, 1) := by decide +kernel
theorem dX4_told_41 : decode cX4_told 41 = .ok (.getfield 10, 3) := by decide +kernel
theorem dX4_told_44 : decode cX4_told 44 = .ok (.iload_n 1, 1) := by decide +kernel
theorem dX4_told_45 : decode cX4_told 45 = .ok (.invokevirtual 82, 3) := by decide +kernel
theorem dX4_told_48 : decode cX4_told 48 = .ok (.ifCond .eq 15, 3) := by decide +kernel
theorem dX4_told_51 : decode cX4_told 51 = .ok (.aload_n 0, 1) := by decide +kernel
theorem dX4_told_52 : decode cX4_told 52 = .ok (.getfield 10, 3) := by decide +kernel
theorem dX4_told_55 : decode cX4_told 55 = .ok (.getfield 117, 3) := by decide +kernel
theorem dX4_told_58 : decode cX4_told 58 = .ok (.iload_n 1, 1) := by decide +kernel
theorem dX4_told_59 : decode cX4_told 59 = .ok (.iaload, 1) := by decide +kernel
theorem dX4_told_60 : decode cX4_told 60 = .ok (.goto 4, 3) := by decide +kernel
theorem dX4_told_63 : decode cX4_told 63 = .ok (.iconst (-1), 1) := by decide +kernel
theorem dX4_told_64 : decode cX4_told 64 = .ok (.ireturn, 1) := by decide +kernel
theorem dX4_told_65 : decode cX4_told 65 = .ok (.aload_n 0, 1) := by decide +kernel
theorem dX4_told_66 : decode cX4_told 66 = .ok (.getfield 10, 3) := by decide +kernel
theorem dX4_told_69 : decode cX4_told 69 = .ok (.iload_n 1, 1) := by decide +kernel
theorem dX4_told_70 : decode cX4_told 70 = .ok (.invokevirtual 82, 3) := by decide +kernel
theorem dX4_told_73 : decode cX4_told 73 = .ok (.ifCond .eq 15, 3) := by decide +kernel
theorem dX4_told_76 : decode cX4_told 76 = .ok (.aload_n 0, 1) := by decide +kernel
theorem dX4_told_77 : decode cX4_told 77 = .ok (.getfield 10, 3) := by decide +kernel
theorem dX4_told_80 : decode cX4_told 80 = .ok (.getfield 120, 3) := by decide +kernel
theorem dX4_told_83 : decode cX4_told 83 = .ok (.iload_n 1, 1) := by decide +kernel
theorem dX4_told_84 : decode cX4_told 84 = .ok (.iaload, 1) := by decide +kernel
theorem dX4_told_85 : decode cX4_told 85 = .ok (.goto 4, 3) := by decide +kernel
theorem dX4_told_88 : decode cX4_told 88 = .ok (.iconst (-1), 1) := by decide +kernel
theorem dX4_told_89 : decode cX4_told 89 = .ok (.ireturn, 1) := by decide +kernel
theorem dX4_told_90 : decode cX4_told 90 = .ok (.aload_n 0, 1) := by decide +kernel
theorem dX4_told_91 : decode cX4_told 91 = .ok (.getfield 21, 3) := by decide +kernel
theorem dX4_told_94 : decode cX4_told 94 = .ok (.iload_n 1, 1) := by decide +kernel
theorem dX4_told_95 : decode cX4_told 95 = .ok (.invokevirtual 123, 3) := by decide +kernel
theorem dX4_told_98 : decode cX4_told 98 = .ok (.ifCond .eq 15, 3) := by decide +kernel
theorem dX4_told_101 : decode cX4_told 101 = .ok (.aload_n 0, 1) := by decide +kernel
theorem dX4_told_102 : decode cX4_told 102 = .ok (.getfield 21, 3) := by decide +kernel
theorem dX4_told_105 : decode cX4_told 105 = .ok (.getfield 72, 3) := by decide +kernel
theorem dX4_told_108 : decode cX4_told 108 = .ok (.iload_n 1, 1) := by decide +kernel
theorem dX4_told_109 : decode cX4_told 109 = .ok (.iaload, 1) := by decide +kernel
theorem dX4_told_110 : decode cX4_told 110 = .ok (.goto 4, 3) := by decide +kernel
theorem dX4_told_113 : decode cX4_told 113 = .ok (.iconst (-1), 1) := by decide +kernel
theorem dX4_told_114 : decode cX4_told 114 = .ok (.ireturn, 1) := by decide +kernel
theorem dX4_told_115 : decode cX4_told 115 = .ok (.aload_n 0, 1) := by decide +kernel
theorem dX4_told_116 : decode cX4_told 116 = .ok (.getfield 21, 3) := by decide +kernel
theorem dX4_told_119 : decode cX4_told 119 = .ok (.iload_n 1, 1) := by decide +kernel
theorem dX4_told_120 : decode cX4_told 120 = .ok (.invokevirtual 123, 3) := by decide +kernel
theorem dX4_told_123 : decode cX4_told 123 = .ok (.ifCond .eq 15, 3) := by decide +kernel
theorem dX4_told_126 : decode cX4_told 126 = .ok (.aload_n 0, 1) := by decide +kernel
theorem dX4_told_127 : decode cX4_told 127 = .ok (.getfield 21, 3) := by decide +kernel
theorem dX4_told_130 : decode cX4_told 130 = .ok (.getfield 76, 3) := by decide +kernel
theorem dX4_told_133 : decode cX4_told 133 = .ok (.iload_n 1, 1) := by decide +kernel
theorem dX4_told_134 : decode cX4_told 134 = .ok (.iaload, 1) := by decide +kernel
theorem dX4_told_135 : decode cX4_told 135 = .ok (.goto 4, 3) := by decide +kernel
theorem dX4_told_138 : decode cX4_told 138 = .ok (.iconst (-1), 1) := by decide +kernel
theorem dX4_told_139 : decode cX4_told 139 = .ok (.ireturn, 1) := by decide +kernel
theorem dX4_told_140 : decode cX4_told 140 = .ok (.aload_n 0, 1) := by decide +kernel
theorem dX4_told_141 : decode cX4_told 141 = .ok (.getfield 25, 3) := by decide +kernel
theorem dX4_told_144 : decode cX4_told 144 = .ok (.iload_n 1, 1) := by decide +kernel
theorem dX4_told_145 : decode cX4_told 145 = .ok (.invokevirtual 123, 3) := by decide +kernel
theorem dX4_told_148 : decode cX4_told 148 = .ok (.ifCond .eq 15, 3) := by decide +kernel
theorem dX4_told_151 : decode cX4_told 151 = .ok (.aload_n 0, 1) := by decide +kernel
theorem dX4_told_152 : decode cX4_told 152 = .ok (.getfield 25, 3) := by decide +kernel
theorem dX4_told_155 : decode cX4_told 155 = .ok (.getfield 72, 3) := by decide +kernel
theorem dX4_told_158 : decode cX4_told 158 = .ok (.iload_n 1, 1) := by decide +kernel
theorem dX4_told_159 : decode cX4_told 159 = .ok (.iaload, 1) := by decide +kernel
theorem dX4_told_160 : decode cX4_told 160 = .ok (.goto 4, 3) := by decide +kernel
theorem dX4_told_163 : decode cX4_told 163 = .ok (.iconst (-1), 1) := by decide +kernel
theorem dX4_told_164 : decode cX4_told 164 = .ok (.ireturn, 1) := by decide +kernel
theorem dX4_told_165 : decode cX4_told 165 = .ok (.aload_n 0, 1) := by decide +kernel
theorem dX4_told_166 : decode cX4_told 166 = .ok (.getfield 25, 3) := by decide +kernel
theorem dX4_told_169 : decode cX4_told 169 = .ok (.iload_n 1, 1) := by decide +kernel
theorem dX4_told_170 : decode cX4_told 170 = .ok (.invokevirtual 123, 3) := by decide +kernel
theorem dX4_told_173 : decode cX4_told 173 = .ok (.ifCond .eq 15, 3) := by decide +kernel
theorem dX4_told_176 : decode cX4_told 176 = .ok (.aload_n 0, 1) := by decide +kernel
theorem dX4_told_177 : decode cX4_told 177 = .ok (.getfield 25, 3) := by decide +kernel
theorem dX4_told_180 : decode cX4_told 180 = .ok (.getfield 76, 3) := by decide +kernel
theorem dX4_told_183 : decode cX4_told 183 = .ok (.iload_n 1, 1) := by decide +kernel
theorem dX4_told_184 : decode cX4_told 184 = .ok (.iaload, 1) := by decide +kernel
theorem dX4_told_185 : decode cX4_told 185 = .ok (.goto 4, 3) := by decide +kernel
theorem dX4_told_188 : decode cX4_told 188 = .ok (.iconst (-1), 1) := by decide +kernel
theorem dX4_told_189 : decode cX4_told 189 = .ok (.ireturn, 1) := by decide +kernel
theorem dX4_told_190 : decode cX4_told 190 = .ok (.bipush (-2), 2) := by decide +kernel
theorem dX4_told_192 : decode cX4_told 192 = .ok (.ireturn, 1) := by decide +kernel
set_option maxRecDepth 20000 in
theorem ggX4_count_X4_classes : GoodIn wsX4_count wsX4_classes := goodIn_r _ [12, 13, 14, 1, 15, 3, 4, 16, 17, 18, 19, 20, 21, 22, 23, 24, 25, 26, 27, 28, 29, 30, 31, 32, 33, 34, 35, 36, 37, 38, 39, 40, 41, 42, 43, 44, 45, 46, 47, 48, 49, 50, 51, 52, 53, 54, 55, 56, 57, 58, 59, 60, 61, 62, 63, 64, 65, 66, 67, 68, 69, 70, 71, 72, 73, 74, 75, 76, 77, 78, 79, 80, 81, 82, 83, 84, 85, 86, 87, 88, 89, 90, 91, 92, 93, 94, 95, 96, 105, 106, 107, 108, 109, 110, 111, 112, 113, 114, 115, 116, 117, 123, 124, 125, 118, 119, 120, 121, 122, 133, 134, 135, 136, 137, 138, 139, 140, 141, 126, 127, 128, 129, 130, 131, 132] (by decide +kernel) (by decide +kernel)
set_option maxRecDepth 20000 in
theorem gX4_count_X4_classes : GoodIn wsX4_count (wsV RX4 68 RX4 yX4_classes wsX4_classes) := goodIn_app (goodIn_of _ (by decide +kernel)) ggX4_count_X4_classes
set_option maxRecDepth 20000 in
theorem ggX4_count_X4_rounds : GoodIn wsX4_count wsX4_rounds := goodIn_r _ [100, 101, 14, 1, 102, 3, 4, 16, 17, 103, 18, 19, 20, 21, 22, 23, 24, 25, 26, 27, 28, 29, 30, 31, 32, 33, 34, 35, 36, 37, 38, 39, 40, 41, 42, 43, 44, 45, 46, 47, 48, 49, 50, 51, 52, 53, 54, 55, 56, 57, 58, 59, 60, 61, 62, 63, 104, 69, 70, 71, 72, 73, 74, 75, 76, 77, 78, 79, 80, 81, 82, 83, 84, 85, 86, 87, 88, 89, 90, 91, 92, 93, 94, 95, 96, 105, 106, 107, 108, 109, 110, 111, 112, 113, 114, 115, 116, 117, 123, 124, 125, 133, 134, 135, 136, 137, 138, 139, 140, 141, 118, 119, 120, 121, 122, 126, 127, 128, 129, 130, 131, 132] (by decide +kernel) (by decide +kernel)
set_option maxRecDepth 20000 in
theorem gX4_count_X4_rounds : GoodIn wsX4_count (wsV RX4 96 RX4 yX4_rounds wsX4_rounds) := goodIn_app (goodIn_of _ (by decide +kernel)) ggX4_count_X4_rounds
theorem dX4_count_0 : decode cX4_count 0 = .ok (.iload_n 1, 1) := by decide +kernel
theorem dX4_count_1 : decode cX4_count 1 = .ok (.tableswitch 75 0 4 #[35, 43, 51, 59, 67], 35) := by decide +kernel
theorem dX4_count_36 : decode cX4_count 36 = .ok (.aload_n 0, 1) := by decide +kernel
theorem dX4_count_37 : decode cX4_count 37 = .ok (.getfield 10, 3) := by decide +kernel
theorem dX4_count_40 : decode cX4_count 40 = .ok (.getfield 48, 3) := by decide +kernel
theorem dX4_count_43 : decode cX4_count 43 = .ok (.ireturn, 1) := by decide +kernel
theorem dX4_count_44 : decode cX4_count 44 = .ok (.aload_n 0, 1) := by decide +kernel
theorem dX4_count_45 : decode cX4_count 45 = .ok (.getfield 21, 3) := by decide +kernel
theorem dX4_count_48 : decode cX4_count 48 = .ok (.getfield 52, 3) := by decide +kernel
theorem dX4_count_51 : decode cX4_count 51 = .ok (.ireturn, 1) := by decide +kernel
theorem dX4_count_52 : decode cX4_count 52 = .ok (.aload_n 0, 1) := by decide +kernel
theorem dX4_count_53 : decode cX4_count 53 = .ok (.getfield 25, 3) := by decide +kernel
theorem dX4_count_56 : decode cX4_count 56 = .ok (.getfield 52, 3) := by decide +kernel
theorem dX4_count_59 : decode cX4_count 59 = .ok (.ireturn, 1) := by decide +kernel
theorem dX4_count_60 : decode cX4_count 60 = .ok (.aload_n 0, 1) := by decide +kernel
theorem dX4_count_61 : decode cX4_count 61 = .ok (.invokevirtual 68, 3) := by decide +kernel
theorem dX4_count_64 : decode cX4_count 64 = .ok (.getfield 124, 3) := by decide +kernel
theorem dX4_count_67 : decode cX4_count 67 = .ok (.ireturn, 1) := by decide +kernel
theorem dX4_count_68 : decode cX4_count 68 = .ok (.aload_n 0, 1) := by decide +kernel
theorem dX4_count_69 : decode cX4_count 69 = .ok (.invokevirtual 96, 3) := by decide +kernel
theorem dX4_count_72 : decode cX4_count 72 = .ok (.getfield 127, 3) := by decide +kernel
theorem dX4_count_75 : decode cX4_count 75 = .ok (.ireturn, 1) := by decide +kernel
theorem dX4_count_76 : decode cX4_count 76 = .ok (.bipush (-2), 2) := by decide +kernel
theorem dX4_count_78 : decode cX4_count 78 = .ok (.ireturn, 1) := by decide +kernel
set_option maxRecDepth 20000 in
theorem ggX4_areTerms_X3_has : GoodIn wsX4_areTerms wsX3_has := goodIn_r _ [6, 7, 21, 22, 23, 24, 25] (by decide +kernel) (by decide +kernel)
set_option maxRecDepth 20000 in
theorem gX4_areTerms_X3_has : GoodIn wsX4_areTerms (wsV RX4 82 RX3 yX3_has wsX3_has) := goodIn_app (goodIn_of _ (by decide +kernel)) ggX4_areTerms_X3_has
theorem dX4_areTerms_0 : decode cX4_areTerms 0 = .ok (.aload_n 0, 1) := by decide +kernel
theorem dX4_areTerms_1 : decode cX4_areTerms 1 = .ok (.getfield 10, 3) := by decide +kernel
theorem dX4_areTerms_4 : decode cX4_areTerms 4 = .ok (.iload_n 1, 1) := by decide +kernel
theorem dX4_areTerms_5 : decode cX4_areTerms 5 = .ok (.invokevirtual 82, 3) := by decide +kernel
theorem dX4_areTerms_8 : decode cX4_areTerms 8 = .ok (.ifCond .eq 18, 3) := by decide +kernel
theorem dX4_areTerms_11 : decode cX4_areTerms 11 = .ok (.aload_n 0, 1) := by decide +kernel
theorem dX4_areTerms_12 : decode cX4_areTerms 12 = .ok (.getfield 10, 3) := by decide +kernel
theorem dX4_areTerms_15 : decode cX4_areTerms 15 = .ok (.iload_n 2, 1) := by decide +kernel
theorem dX4_areTerms_16 : decode cX4_areTerms 16 = .ok (.invokevirtual 82, 3) := by decide +kernel
theorem dX4_areTerms_19 : decode cX4_areTerms 19 = .ok (.ifCond .eq 7, 3) := by decide +kernel
theorem dX4_areTerms_22 : decode cX4_areTerms 22 = .ok (.iconst 1, 1) := by decide +kernel
theorem dX4_areTerms_23 : decode cX4_areTerms 23 = .ok (.goto 4, 3) := by decide +kernel
theorem dX4_areTerms_26 : decode cX4_areTerms 26 = .ok (.iconst 0, 1) := by decide +kernel
theorem dX4_areTerms_27 : decode cX4_areTerms 27 = .ok (.ireturn, 1) := by decide +kernel
theorem dX4_forget_0 : decode cX4_forget 0 = .ok (.aload_n 0, 1) := by decide +kernel
theorem dX4_forget_1 : decode cX4_forget 1 = .ok (.iconst 0, 1) := by decide +kernel
theorem dX4_forget_2 : decode cX4_forget 2 = .ok (.putfield 130, 3) := by decide +kernel
theorem dX4_forget_5 : decode cX4_forget 5 = .ok (.aload_n 0, 1) := by decide +kernel
theorem dX4_forget_6 : decode cX4_forget 6 = .ok (.iconst 0, 1) := by decide +kernel
theorem dX4_forget_7 : decode cX4_forget 7 = .ok (.putfield 134, 3) := by decide +kernel
theorem dX4_forget_10 : decode cX4_forget 10 = .ok (.aload_n 0, 1) := by decide +kernel
theorem dX4_forget_11 : decode cX4_forget 11 = .ok (.iconst 0, 1) := by decide +kernel
theorem dX4_forget_12 : decode cX4_forget 12 = .ok (.putfield 137, 3) := by decide +kernel
theorem dX4_forget_15 : decode cX4_forget 15 = .ok (.return_, 1) := by decide +kernel
set_option maxRecDepth 20000 in
theorem ggX4_classes_X0_begin : GoodIn wsX4_classes wsX0_begin := goodIn_r _ [13, 14, 15, 16, 17, 18, 19, 20, 21, 22, 23, 24, 25, 26, 27, 28, 29, 30, 31, 32, 33, 34, 35, 36, 37, 38, 12, 39, 40, 41, 42, 43, 44, 45, 46, 47, 48, 49, 50, 51, 52, 53, 104, 105, 106, 107, 108, 109, 110, 111, 112, 113, 114, 115, 116, 117, 118, 119, 120, 121, 122, 123, 124] (by decide +kernel) (by decide +kernel)
set_option maxRecDepth 20000 in
theorem gX4_classes_X0_begin : GoodIn wsX4_classes (wsV RX4 140 RX0 yX0_begin wsX0_begin) := goodIn_app (goodIn_of _ (by decide +kernel)) ggX4_classes_X0_begin
set_option maxRecDepth 20000 in
theorem ggX4_classes_X0_expect : GoodIn wsX4_classes wsX0_expect := goodIn_r _ [51, 16, 52, 53, 109, 110, 111, 112, 113, 114, 115, 116, 117] (by decide +kernel) (by decide +kernel)
set_option maxRecDepth 20000 in
theorem gX4_classes_X0_expect : GoodIn wsX4_classes (wsV RX4 144 RX0 yX0_expect wsX0_expect) := goodIn_app (goodIn_of _ (by decide +kernel)) ggX4_classes_X0_expect
set_option maxRecDepth 20000 in
theorem ggX4_classes_X0_settle : GoodIn wsX4_classes wsX0_settle := goodIn_r _ [58, 16, 59, 60, 61, 12, 62, 17, 63, 64, 65, 66, 67, 52, 53, 68, 44, 45, 46, 22, 47, 27, 69, 70, 71, 72, 73, 43, 74, 75, 76, 77, 78, 79, 28, 24, 25, 80, 81, 82, 83, 26, 30, 31, 84, 85, 86, 87, 41, 15, 42, 36, 37, 38, 39, 18, 40, 48, 49, 50, 51, 109, 110, 111, 112, 113, 114, 115, 116, 117, 118, 119, 120, 121, 122, 123, 124, 104, 105, 106, 107, 108] (by decide +kernel) (by decide +kernel)
set_option maxRecDepth 20000 in
theorem gX4_classes_X0_settle : GoodIn wsX4_classes (wsV RX4 148 RX0 yX0_settle wsX0_settle) := goodIn_app (goodIn_of _ (by decide +kernel)) ggX4_classes_X0_settle
theorem dX4_classes_0 : decode cX4_classes 0 = .ok (.aload_n 0, 1) := by decide +kernel
theorem dX4_classes_1 : decode cX4_classes 1 = .ok (.getfield 130, 3) := by decide +kernel
theorem dX4_classes_4 : decode cX4_classes 4 = .ok (.ifCond .ne 85, 3) := by decide +kernel
theorem dX4_classes_7 : decode cX4_classes 7 = .ok (.aload_n 0, 1) := by decide +kernel
theorem dX4_classes_8 : decode cX4_classes 8 = .ok (.getfield 31, 3) := by decide +kernel
theorem dX4_classes_11 : decode cX4_classes 11 = .ok (.aload_n 0, 1) := by decide +kernel
theorem dX4_classes_12 : decode cX4_classes 12 = .ok (.getfield 10, 3) := by decide +kernel
theorem dX4_classes_15 : decode cX4_classes 15 = .ok (.aload_n 0, 1) := by decide +kernel
theorem dX4_classes_16 : decode cX4_classes 16 = .ok (.getfield 38, 3) := by decide +kernel
theorem dX4_classes_19 : decode cX4_classes 19 = .ok (.invokevirtual 140, 3) := by decide +kernel
theorem dX4_classes_22 : decode cX4_classes 22 = .ok (.iconst 0, 1) := by decide +kernel
theorem dX4_classes_23 : decode cX4_classes 23 = .ok (.istore_n 1, 1) := by decide +kernel
theorem dX4_classes_24 : decode cX4_classes 24 = .ok (.iload_n 1, 1) := by decide +kernel
theorem dX4_classes_25 : decode cX4_classes 25 = .ok (.aload_n 0, 1) := by decide +kernel
theorem dX4_classes_26 : decode cX4_classes 26 = .ok (.getfield 21, 3) := by decide +kernel
theorem dX4_classes_29 : decode cX4_classes 29 = .ok (.getfield 52, 3) := by decide +kernel
theorem dX4_classes_32 : decode cX4_classes 32 = .ok (.if_icmp .ge 52, 3) := by decide +kernel
theorem dX4_classes_35 : decode cX4_classes 35 = .ok (.aload_n 0, 1) := by decide +kernel
theorem dX4_classes_36 : decode cX4_classes 36 = .ok (.getfield 31, 3) := by decide +kernel
theorem dX4_classes_39 : decode cX4_classes 39 = .ok (.aload_n 0, 1) := by decide +kernel
theorem dX4_classes_40 : decode cX4_classes 40 = .ok (.getfield 21, 3) := by decide +kernel
theorem dX4_classes_43 : decode cX4_classes 43 = .ok (.getfield 72, 3) := by decide +kernel
theorem dX4_classes_46 : decode cX4_classes 46 = .ok (.iload_n 1, 1) := by decide +kernel
theorem dX4_classes_47 : decode cX4_classes 47 = .ok (.iaload, 1) := by decide +kernel
theorem dX4_classes_48 : decode cX4_classes 48 = .ok (.aload_n 0, 1) := by decide +kernel
theorem dX4_classes_49 : decode cX4_classes 49 = .ok (.getfield 21, 3) := by decide +kernel
theorem dX4_classes_52 : decode cX4_classes 52 = .ok (.getfield 76, 3) := by decide +kernel
theorem dX4_classes_55 : decode cX4_classes 55 = .ok (.iload_n 1, 1) := by decide +kernel
theorem dX4_classes_56 : decode cX4_classes 56 = .ok (.iaload, 1) := by decide +kernel
theorem dX4_classes_57 : decode cX4_classes 57 = .ok (.invokevirtual 144, 3) := by decide +kernel
theorem dX4_classes_60 : decode cX4_classes 60 = .ok (.aload_n 0, 1) := by decide +kernel
theorem dX4_classes_61 : decode cX4_classes 61 = .ok (.getfield 31, 3) := by decide +kernel
theorem dX4_classes_64 : decode cX4_classes 64 = .ok (.aload_n 0, 1) := by decide +kernel
theorem dX4_classes_65 : decode cX4_classes 65 = .ok (.getfield 10, 3) := by decide +kernel
theorem dX4_classes_68 : decode cX4_classes 68 = .ok (.aload_n 0, 1) := by decide +kernel
theorem dX4_classes_69 : decode cX4_classes 69 = .ok (.getfield 38, 3) := by decide +kernel
theorem dX4_classes_72 : decode cX4_classes 72 = .ok (.iload_n 1, 1) := by decide +kernel
theorem dX4_classes_73 : decode cX4_classes 73 = .ok (.iconst 1, 1) := by decide +kernel
theorem dX4_classes_74 : decode cX4_classes 74 = .ok (.iadd, 1) := by decide +kernel
theorem dX4_classes_75 : decode cX4_classes 75 = .ok (.invokevirtual 148, 3) := by decide +kernel
theorem dX4_classes_78 : decode cX4_classes 78 = .ok (.iinc 1 1, 3) := by decide +kernel
theorem dX4_classes_81 : decode cX4_classes 81 = .ok (.goto (-57), 3) := by decide +kernel
theorem dX4_classes_84 : decode cX4_classes 84 = .ok (.aload_n 0, 1) := by decide +kernel
theorem dX4_classes_85 : decode cX4_classes 85 = .ok (.iconst 1, 1) := by decide +kernel
theorem dX4_classes_86 : decode cX4_classes 86 = .ok (.putfield 130, 3) := by decide +kernel
theorem dX4_classes_89 : decode cX4_classes 89 = .ok (.aload_n 0, 1) := by decide +kernel
theorem dX4_classes_90 : decode cX4_classes 90 = .ok (.getfield 38, 3) := by decide +kernel
theorem dX4_classes_93 : decode cX4_classes 93 = .ok (.areturn, 1) := by decide +kernel
set_option maxRecDepth 20000 in
theorem ggX4_rounds_X0_begin : GoodIn wsX4_rounds wsX0_begin := goodIn_r _ [14, 15, 16, 17, 18, 19, 20, 21, 22, 23, 24, 25, 26, 27, 28, 29, 30, 31, 32, 33, 34, 35, 36, 37, 38, 39, 13, 40, 41, 42, 43, 44, 45, 46, 47, 48, 49, 50, 51, 52, 53, 54, 110, 111, 112, 113, 114, 101, 102, 103, 104, 105, 106, 107, 108, 109, 115, 116, 117, 118, 119, 120, 121] (by decide +kernel) (by decide +kernel)
set_option maxRecDepth 20000 in
theorem gX4_rounds_X0_begin : GoodIn wsX4_rounds (wsV RX4 140 RX0 yX0_begin wsX0_begin) := goodIn_app (goodIn_of _ (by decide +kernel)) ggX4_rounds_X0_begin
set_option maxRecDepth 20000 in
theorem ggX4_rounds_X0_expect : GoodIn wsX4_rounds wsX0_expect := goodIn_r _ [52, 17, 53, 54, 101, 102, 103, 104, 105, 106, 107, 108, 109] (by decide +kernel) (by decide +kernel)
set_option maxRecDepth 20000 in
theorem gX4_rounds_X0_expect : GoodIn wsX4_rounds (wsV RX4 144 RX0 yX0_expect wsX0_expect) := goodIn_app (goodIn_of _ (by decide +kernel)) ggX4_rounds_X0_expect
set_option maxRecDepth 20000 in
theorem ggX4_rounds_X0_step : GoodIn wsX4_rounds wsX0_step := goodIn_r _ [59, 17, 18, 60, 61, 62, 63, 13, 64, 53, 54, 65, 45, 46, 47, 23, 48, 28, 66, 67, 68, 69, 70, 44, 71, 72, 73, 74, 75, 76, 29, 25, 26, 77, 78, 79, 80, 27, 31, 32, 81, 82, 83, 84, 42, 16, 43, 37, 38, 39, 40, 19, 41, 49, 50, 51, 52, 101, 102, 103, 104, 105, 106, 107, 108, 109, 115, 116, 117, 118, 119, 120, 121, 110, 111, 112, 113, 114] (by decide +kernel) (by decide +kernel)
set_option maxRecDepth 20000 in
theorem gX4_rounds_X0_step : GoodIn wsX4_rounds (wsV RX4 155 RX0 yX0_step wsX0_step) := goodIn_app (goodIn_of _ (by decide +kernel)) ggX4_rounds_X0_step
theorem dX4_rounds_0 : decode cX4_rounds 0 = .ok (.aload_n 0, 1) := by decide +kernel
theorem dX4_rounds_1 : decode cX4_rounds 1 = .ok (.getfield 134, 3) := by decide +kernel
theorem dX4_rounds_4 : decode cX4_rounds 4 = .ok (.ifCond .ne 108, 3) := by decide +kernel
theorem dX4_rounds_7 : decode cX4_rounds 7 = .ok (.aload_n 0, 1) := by decide +kernel
theorem dX4_rounds_8 : decode cX4_rounds 8 = .ok (.getfield 31, 3) := by decide +kernel
theorem dX4_rounds_11 : decode cX4_rounds 11 = .ok (.aload_n 0, 1) := by decide +kernel
theorem dX4_rounds_12 : decode cX4_rounds 12 = .ok (.getfield 10, 3) := by decide +kernel
theorem dX4_rounds_15 : decode cX4_rounds 15 = .ok (.aload_n 0, 1) := by decide +kernel
theorem dX4_rounds_16 : decode cX4_rounds 16 = .ok (.getfield 42, 3) := by decide +kernel
theorem dX4_rounds_19 : decode cX4_rounds 19 = .ok (.invokevirtual 140, 3) := by decide +kernel
theorem dX4_rounds_22 : decode cX4_rounds 22 = .ok (.iconst 0, 1) := by decide +kernel
theorem dX4_rounds_23 : decode cX4_rounds 23 = .ok (.istore_n 1, 1) := by decide +kernel
theorem dX4_rounds_24 : decode cX4_rounds 24 = .ok (.iload_n 1, 1) := by decide +kernel
theorem dX4_rounds_25 : decode cX4_rounds 25 = .ok (.aload_n 0, 1) := by decide +kernel
theorem dX4_rounds_26 : decode cX4_rounds 26 = .ok (.getfield 21, 3) := by decide +kernel
theorem dX4_rounds_29 : decode cX4_rounds 29 = .ok (.getfield 52, 3) := by decide +kernel
theorem dX4_rounds_32 : decode cX4_rounds 32 = .ok (.if_icmp .ge 34, 3) := by decide +kernel
theorem dX4_rounds_35 : decode cX4_rounds 35 = .ok (.aload_n 0, 1) := by decide +kernel
theorem dX4_rounds_36 : decode cX4_rounds 36 = .ok (.getfield 31, 3) := by decide +kernel
theorem dX4_rounds_39 : decode cX4_rounds 39 = .ok (.aload_n 0, 1) := by decide +kernel
theorem dX4_rounds_40 : decode cX4_rounds 40 = .ok (.getfield 21, 3) := by decide +kernel
theorem dX4_rounds_43 : decode cX4_rounds 43 = .ok (.getfield 72, 3) := by decide +kernel
theorem dX4_rounds_46 : decode cX4_rounds 46 = .ok (.iload_n 1, 1) := by decide +kernel
theorem dX4_rounds_47 : decode cX4_rounds 47 = .ok (.iaload, 1) := by decide +kernel
theorem dX4_rounds_48 : decode cX4_rounds 48 = .ok (.aload_n 0, 1) := by decide +kernel
theorem dX4_rounds_49 : decode cX4_rounds 49 = .ok (.getfield 21, 3) := by decide +kernel
theorem dX4_rounds_52 : decode cX4_rounds 52 = .ok (.getfield 76, 3) := by decide +kernel
theorem dX4_rounds_55 : decode cX4_rounds 55 = .ok (.iload_n 1, 1) := by decide +kernel
theorem dX4_rounds_56 : decode cX4_rounds 56 = .ok (.iaload, 1) := by decide +kernel
theorem dX4_rounds_57 : decode cX4_rounds 57 = .ok (.invokevirtual 144, 3) := by decide +kernel
theorem dX4_rounds_60 : decode cX4_rounds 60 = .ok (.iinc 1 1, 3) := by decide +kernel
theorem dX4_rounds_63 : decode cX4_rounds 63 = .ok (.goto (-39), 3) := by decide +kernel
theorem dX4_rounds_66 : decode cX4_rounds 66 = .ok (.iconst 0, 1) := by decide +kernel
theorem dX4_rounds_67 : decode cX4_rounds 67 = .ok (.istore_n 1, 1) := by decide +kernel
theorem dX4_rounds_68 : decode cX4_rounds 68 = .ok (.iload_n 1, 1) := by decide +kernel
theorem dX4_rounds_69 : decode cX4_rounds 69 = .ok (.sipush 500, 3) := by decide +kernel
theorem dX4_rounds_72 : decode cX4_rounds 72 = .ok (.if_icmp .ge 35, 3) := by decide +kernel
theorem dX4_rounds_75 : decode cX4_rounds 75 = .ok (.aload_n 0, 1) := by decide +kernel
theorem dX4_rounds_76 : decode cX4_rounds 76 = .ok (.getfield 31, 3) := by decide +kernel
theorem dX4_rounds_79 : decode cX4_rounds 79 = .ok (.getfield 152, 3) := by decide +kernel
theorem dX4_rounds_82 : decode cX4_rounds 82 = .ok (.ifCond .le 25, 3) := by decide +kernel
theorem dX4_rounds_85 : decode cX4_rounds 85 = .ok (.aload_n 0, 1) := by decide +kernel
theorem dX4_rounds_86 : decode cX4_rounds 86 = .ok (.getfield 31, 3) := by decide +kernel
theorem dX4_rounds_89 : decode cX4_rounds 89 = .ok (.aload_n 0, 1) := by decide +kernel
theorem dX4_rounds_90 : decode cX4_rounds 90 = .ok (.getfield 10, 3) := by decide +kernel
theorem dX4_rounds_93 : decode cX4_rounds 93 = .ok (.aload_n 0, 1) := by decide +kernel
theorem dX4_rounds_94 : decode cX4_rounds 94 = .ok (.getfield 42, 3) := by decide +kernel
theorem dX4_rounds_97 : decode cX4_rounds 97 = .ok (.iload_n 1, 1) := by decide +kernel
theorem dX4_rounds_98 : decode cX4_rounds 98 = .ok (.invokevirtual 155, 3) := by decide +kernel
theorem dX4_rounds_101 : decode cX4_rounds 101 = .ok (.iinc 1 1, 3) := by decide +kernel
theorem dX4_rounds_104 : decode cX4_rounds 104 = .ok (.goto (-36), 3) := by decide +kernel
theorem dX4_rounds_107 : decode cX4_rounds 107 = .ok (.aload_n 0, 1) := by decide +kernel
theorem dX4_rounds_108 : decode cX4_rounds 108 = .ok (.iconst 1, 1) := by decide +kernel
theorem dX4_rounds_109 : decode cX4_rounds 109 = .ok (.putfield 134, 3) := by decide +kernel
theorem dX4_rounds_112 : decode cX4_rounds 112 = .ok (.aload_n 0, 1) := by decide +kernel
theorem dX4_rounds_113 : decode cX4_rounds 113 = .ok (.getfield 42, 3) := by decide +kernel
theorem dX4_rounds_116 : decode cX4_rounds 116 = .ok (.areturn, 1) := by decide +kernel
set_option maxRecDepth 20000 in
theorem ggX4_closeOver_X0_begin : GoodIn wsX4_closeOver wsX0_begin := goodIn_r _ [12, 13, 14, 15, 16, 17, 18, 19, 20, 21, 22, 23, 24, 25, 26, 27, 28, 29, 30, 31, 32, 33, 34, 35, 36, 37, 11, 38, 39, 40, 41, 42, 43, 44, 45, 46, 47, 48, 49, 50, 51, 52, 103, 104, 105, 106, 107, 108, 109, 110, 111, 112, 113, 114, 115, 116, 117, 118, 119, 120, 121, 122, 123] (by decide +kernel) (by decide +kernel)
set_option maxRecDepth 20000 in
theorem gX4_closeOver_X0_begin : GoodIn wsX4_closeOver (wsV RX4 140 RX0 yX0_begin wsX0_begin) := goodIn_app (goodIn_of _ (by decide +kernel)) ggX4_closeOver_X0_begin
set_option maxRecDepth 20000 in
theorem ggX4_closeOver_X0_expect : GoodIn wsX4_closeOver wsX0_expect := goodIn_r _ [50, 15, 51, 52, 108, 109, 110, 111, 112, 113, 114, 115, 116] (by decide +kernel) (by decide +kernel)
set_option maxRecDepth 20000 in
theorem gX4_closeOver_X0_expect : GoodIn wsX4_closeOver (wsV RX4 144 RX0 yX0_expect wsX0_expect) := goodIn_app (goodIn_of _ (by decide +kernel)) ggX4_closeOver_X0_expect
set_option maxRecDepth 20000 in
theorem ggX4_closeOver_X0_settle : GoodIn wsX4_closeOver wsX0_settle := goodIn_r _ [57, 15, 58, 59, 60, 11, 61, 16, 62, 63, 64, 65, 66, 51, 52, 67, 43, 44, 45, 21, 46, 26, 68, 69, 70, 71, 72, 42, 73, 74, 75, 76, 77, 78, 27, 23, 24, 79, 80, 81, 82, 25, 29, 30, 83, 84, 85, 86, 40, 14, 41, 35, 36, 37, 38, 17, 39, 47, 48, 49, 50, 108, 109, 110, 111, 112, 113, 114, 115, 116, 117, 118, 119, 120, 121, 122, 123, 103, 104, 105, 106, 107] (by decide +kernel) (by decide +kernel)
set_option maxRecDepth 20000 in
theorem gX4_closeOver_X0_settle : GoodIn wsX4_closeOver (wsV RX4 148 RX0 yX0_settle wsX0_settle) := goodIn_app (goodIn_of _ (by decide +kernel)) ggX4_closeOver_X0_settle
theorem dX4_closeOver_0 : decode cX4_closeOver 0 = .ok (.aload_n 0, 1) := by decide +kernel
theorem dX4_closeOver_1 : decode cX4_closeOver 1 = .ok (.getfield 31, 3) := by decide +kernel
theorem dX4_closeOver_4 : decode cX4_closeOver 4 = .ok (.aload_n 0, 1) := by decide +kernel
theorem dX4_closeOver_5 : decode cX4_closeOver 5 = .ok (.getfield 10, 3) := by decide +kernel
theorem dX4_closeOver_8 : decode cX4_closeOver 8 = .ok (.aload_n 0, 1) := by decide +kernel
theorem dX4_closeOver_9 : decode cX4_closeOver 9 = .ok (.getfield 45, 3) := by decide +kernel
theorem dX4_closeOver_12 : decode cX4_closeOver 12 = .ok (.invokevirtual 140, 3) := by decide +kernel
theorem dX4_closeOver_15 : decode cX4_closeOver 15 = .ok (.iconst 0, 1) := by decide +kernel
theorem dX4_closeOver_16 : decode cX4_closeOver 16 = .ok (.istore_n 3, 1) := by decide +kernel
theorem dX4_closeOver_17 : decode cX4_closeOver 17 = .ok (.iload_n 3, 1) := by decide +kernel
theorem dX4_closeOver_18 : decode cX4_closeOver 18 = .ok (.aload_n 0, 1) := by decide +kernel
theorem dX4_closeOver_19 : decode cX4_closeOver 19 = .ok (.getfield 21, 3) := by decide +kernel
theorem dX4_closeOver_22 : decode cX4_closeOver 22 = .ok (.getfield 52, 3) := by decide +kernel
theorem dX4_closeOver_25 : decode cX4_closeOver 25 = .ok (.if_icmp .ge 44, 3) := by decide +kernel
theorem dX4_closeOver_28 : decode cX4_closeOver 28 = .ok (.lload_n 1, 1) := by decide +kernel
theorem dX4_closeOver_29 : decode cX4_closeOver 29 = .ok (.iload_n 3, 1) := by decide +kernel
theorem dX4_closeOver_30 : decode cX4_closeOver 30 = .ok (.lushr, 1) := by decide +kernel
theorem dX4_closeOver_31 : decode cX4_closeOver 31 = .ok (.lconst 1, 1) := by decide +kernel
theorem dX4_closeOver_32 : decode cX4_closeOver 32 = .ok (.land, 1) := by decide +kernel
theorem dX4_closeOver_33 : decode cX4_closeOver 33 = .ok (.lconst 0, 1) := by decide +kernel
theorem dX4_closeOver_34 : decode cX4_closeOver 34 = .ok (.lcmp, 1) := by decide +kernel
theorem dX4_closeOver_35 : decode cX4_closeOver 35 = .ok (.ifCond .eq 28, 3) := by decide +kernel
theorem dX4_closeOver_38 : decode cX4_closeOver 38 = .ok (.aload_n 0, 1) := by decide +kernel
theorem dX4_closeOver_39 : decode cX4_closeOver 39 = .ok (.getfield 31, 3) := by decide +kernel
theorem dX4_closeOver_42 : decode cX4_closeOver 42 = .ok (.aload_n 0, 1) := by decide +kernel
theorem dX4_closeOver_43 : decode cX4_closeOver 43 = .ok (.getfield 21, 3) := by decide +kernel
theorem dX4_closeOver_46 : decode cX4_closeOver 46 = .ok (.getfield 72, 3) := by decide +kernel
theorem dX4_closeOver_49 : decode cX4_closeOver 49 = .ok (.iload_n 3, 1) := by decide +kernel
theorem dX4_closeOver_50 : decode cX4_closeOver 50 = .ok (.iaload, 1) := by decide +kernel
theorem dX4_closeOver_51 : decode cX4_closeOver 51 = .ok (.aload_n 0, 1) := by decide +kernel
theorem dX4_closeOver_52 : decode cX4_closeOver 52 = .ok (.getfield 21, 3) := by decide +kernel
theorem dX4_closeOver_55 : decode cX4_closeOver 55 = .ok (.getfield 76, 3) := by decide +kernel
theorem dX4_closeOver_58 : decode cX4_closeOver 58 = .ok (.iload_n 3, 1) := by decide +kernel
theorem dX4_closeOver_59 : decode cX4_closeOver 59 = .ok (.iaload, 1) := by decide +kernel
theorem dX4_closeOver_60 : decode cX4_closeOver 60 = .ok (.invokevirtual 144, 3) := by decide +kernel
theorem dX4_closeOver_63 : decode cX4_closeOver 63 = .ok (.iinc 3 1, 3) := by decide +kernel
theorem dX4_closeOver_66 : decode cX4_closeOver 66 = .ok (.goto (-49), 3) := by decide +kernel
theorem dX4_closeOver_69 : decode cX4_closeOver 69 = .ok (.aload_n 0, 1) := by decide +kernel
theorem dX4_closeOver_70 : decode cX4_closeOver 70 = .ok (.getfield 31, 3) := by decide +kernel
theorem dX4_closeOver_73 : decode cX4_closeOver 73 = .ok (.aload_n 0, 1) := by decide +kernel
theorem dX4_closeOver_74 : decode cX4_closeOver 74 = .ok (.getfield 10, 3) := by decide +kernel
theorem dX4_closeOver_77 : decode cX4_closeOver 77 = .ok (.aload_n 0, 1) := by decide +kernel
theorem dX4_closeOver_78 : decode cX4_closeOver 78 = .ok (.getfield 45, 3) := by decide +kernel
theorem dX4_closeOver_81 : decode cX4_closeOver 81 = .ok (.iconst 0, 1) := by decide +kernel
theorem dX4_closeOver_82 : decode cX4_closeOver 82 = .ok (.invokevirtual 148, 3) := by decide +kernel
theorem dX4_closeOver_85 : decode cX4_closeOver 85 = .ok (.return_, 1) := by decide +kernel
set_option maxRecDepth 20000 in
theorem ggX4_enoughBesideTrial_X1_meeting : GoodIn wsX4_enoughBesideTrial wsX1_meeting := goodIn_r _ [12, 13, 14, 15, 94, 95, 96, 97, 98, 99, 100] (by decide +kernel) (by decide +kernel)
set_option maxRecDepth 20000 in
theorem gX4_enoughBesideTrial_X1_meeting : GoodIn wsX4_enoughBesideTrial (wsV RX4 79 RX1 yX1_meeting wsX1_meeting) := goodIn_app (goodIn_of _ (by decide +kernel)) ggX4_enoughBesideTrial_X1_meeting
set_option maxRecDepth 20000 in
theorem ggX4_enoughBesideTrial_X0_expect : GoodIn wsX4_enoughBesideTrial wsX0_expect := goodIn_r _ [20, 21, 22, 23, 101, 102, 103, 104, 105, 106, 107, 108, 109] (by decide +kernel) (by decide +kernel)
set_option maxRecDepth 20000 in
theorem gX4_enoughBesideTrial_X0_expect : GoodIn wsX4_enoughBesideTrial (wsV RX4 144 RX0 yX0_expect wsX0_expect) := goodIn_app (goodIn_of _ (by decide +kernel)) ggX4_enoughBesideTrial_X0_expect
set_option maxRecDepth 20000 in
theorem ggX4_enoughBesideTrial_X0_settle : GoodIn wsX4_enoughBesideTrial wsX0_settle := goodIn_r _ [27, 21, 28, 29, 30, 19, 31, 32, 33, 34, 35, 36, 37, 22, 23, 38, 39, 40, 41, 11, 42, 15, 43, 44, 45, 46, 47, 48, 49, 50, 51, 52, 53, 54, 13, 55, 56, 57, 58, 59, 60, 61, 62, 63, 64, 65, 66, 67, 68, 69, 70, 71, 72, 73, 74, 75, 76, 77, 17, 18, 20, 101, 102, 103, 104, 105, 106, 107, 108, 109, 94, 95, 96, 97, 98, 99, 100, 110, 111, 112, 113, 114] (by decide +kernel) (by decide +kernel)
set_option maxRecDepth 20000 in
theorem gX4_enoughBesideTrial_X0_settle : GoodIn wsX4_enoughBesideTrial (wsV RX4 148 RX0 yX0_settle wsX0_settle) := goodIn_app (goodIn_of _ (by decide +kernel)) ggX4_enoughBesideTrial_X0_settle
theorem dX4_enoughBesideTrial_0 : decode cX4_enoughBesideTrial 0 = .ok (.iconst 0, 1) := by decide +kernel
theorem dX4_enoughBesideTrial_1 : decode cX4_enoughBesideTrial 1 = .ok (.istore_n 3, 1) := by decide +kernel
theorem dX4_enoughBesideTrial_2 : decode cX4_enoughBesideTrial 2 = .ok (.iload_n 3, 1) := by decide +kernel
theorem dX4_enoughBesideTrial_3 : decode cX4_enoughBesideTrial 3 = .ok (.aload_n 0, 1) := by decide +kernel
theorem dX4_enoughBesideTrial_4 : decode cX4_enoughBesideTrial 4 = .ok (.getfield 21, 3) := by decide +kernel
theorem dX4_enoughBesideTrial_7 : decode cX4_enoughBesideTrial 7 = .ok (.getfield 52, 3) := by decide +kernel
theorem dX4_enoughBesideTrial_10 : decode cX4_enoughBesideTrial 10 = .ok (.if_icmp .ge 65, 3) := by decide +kernel
theorem dX4_enoughBesideTrial_13 : decode cX4_enoughBesideTrial 13 = .ok (.aload_n 0, 1) := by decide +kernel
theorem dX4_enoughBesideTrial_14 : decode cX4_enoughBesideTrial 14 = .ok (.getfield 45, 3) := by decide +kernel
theorem dX4_enoughBesideTrial_17 : decode cX4_enoughBesideTrial 17 = .ok (.iload_n 1, 1) := by decide +kernel
theorem dX4_enoughBesideTrial_18 : decode cX4_enoughBesideTrial 18 = .ok (.iload_n 2, 1) := by decide +kernel
theorem dX4_enoughBesideTrial_19 : decode cX4_enoughBesideTrial 19 = .ok (.invokevirtual 79, 3) := by decide +kernel
theorem dX4_enoughBesideTrial_22 : decode cX4_enoughBesideTrial 22 = .ok (.iconst (-1), 1) := by decide +kernel
theorem dX4_enoughBesideTrial_23 : decode cX4_enoughBesideTrial 23 = .ok (.if_icmp .ne 52, 3) := by decide +kernel
theorem dX4_enoughBesideTrial_26 : decode cX4_enoughBesideTrial 26 = .ok (.aload_n 0, 1) := by decide +kernel
theorem dX4_enoughBesideTrial_27 : decode cX4_enoughBesideTrial 27 = .ok (.getfield 31, 3) := by decide +kernel
theorem dX4_enoughBesideTrial_30 : decode cX4_enoughBesideTrial 30 = .ok (.aload_n 0, 1) := by decide +kernel
theorem dX4_enoughBesideTrial_31 : decode cX4_enoughBesideTrial 31 = .ok (.getfield 21, 3) := by decide +kernel
theorem dX4_enoughBesideTrial_34 : decode cX4_enoughBesideTrial 34 = .ok (.getfield 72, 3) := by decide +kernel
theorem dX4_enoughBesideTrial_37 : decode cX4_enoughBesideTrial 37 = .ok (.iload_n 3, 1) := by decide +kernel
theorem dX4_enoughBesideTrial_38 : decode cX4_enoughBesideTrial 38 = .ok (.iaload, 1) := by decide +kernel
theorem dX4_enoughBesideTrial_39 : decode cX4_enoughBesideTrial 39 = .ok (.aload_n 0, 1) := by decide +kernel
theorem dX4_enoughBesideTrial_40 : decode cX4_enoughBesideTrial 40 = .ok (.getfield 21, 3) := by decide +kernel
theorem dX4_enoughBesideTrial_43 : decode cX4_enoughBesideTrial 43 = .ok (.getfield 76, 3) := by decide +kernel
theorem dX4_enoughBesideTrial_46 : decode cX4_enoughBesideTrial 46 = .ok (.iload_n 3, 1) := by decide +kernel
theorem dX4_enoughBesideTrial_47 : decode cX4_enoughBesideTrial 47 = .ok (.iaload, 1) := by decide +kernel
theorem dX4_enoughBesideTrial_48 : decode cX4_enoughBesideTrial 48 = .ok (.invokevirtual 144, 3) := by decide +kernel
theorem dX4_enoughBesideTrial_51 : decode cX4_enoughBesideTrial 51 = .ok (.aload_n 0, 1) := by decide +kernel
theorem dX4_enoughBesideTrial_52 : decode cX4_enoughBesideTrial 52 = .ok (.getfield 31, 3) := by decide +kernel
theorem dX4_enoughBesideTrial_55 : decode cX4_enoughBesideTrial 55 = .ok (.aload_n 0, 1) := by decide +kernel
theorem dX4_enoughBesideTrial_56 : decode cX4_enoughBesideTrial 56 = .ok (.getfield 10, 3) := by decide +kernel
theorem dX4_enoughBesideTrial_59 : decode cX4_enoughBesideTrial 59 = .ok (.aload_n 0, 1) := by decide +kernel
theorem dX4_enoughBesideTrial_60 : decode cX4_enoughBesideTrial 60 = .ok (.getfield 45, 3) := by decide +kernel
theorem dX4_enoughBesideTrial_63 : decode cX4_enoughBesideTrial 63 = .ok (.iload_n 3, 1) := by decide +kernel
theorem dX4_enoughBesideTrial_64 : decode cX4_enoughBesideTrial 64 = .ok (.iconst 1, 1) := by decide +kernel
theorem dX4_enoughBesideTrial_65 : decode cX4_enoughBesideTrial 65 = .ok (.iadd, 1) := by decide +kernel
theorem dX4_enoughBesideTrial_66 : decode cX4_enoughBesideTrial 66 = .ok (.invokevirtual 148, 3) := by decide +kernel
theorem dX4_enoughBesideTrial_69 : decode cX4_enoughBesideTrial 69 = .ok (.iinc 3 1, 3) := by decide +kernel
theorem dX4_enoughBesideTrial_72 : decode cX4_enoughBesideTrial 72 = .ok (.goto (-70), 3) := by decide +kernel
theorem dX4_enoughBesideTrial_75 : decode cX4_enoughBesideTrial 75 = .ok (.aload_n 0, 1) := by decide +kernel
theorem dX4_enoughBesideTrial_76 : decode cX4_enoughBesideTrial 76 = .ok (.getfield 45, 3) := by decide +kernel
theorem dX4_enoughBesideTrial_79 : decode cX4_enoughBesideTrial 79 = .ok (.iload_n 1, 1) := by decide +kernel
theorem dX4_enoughBesideTrial_80 : decode cX4_enoughBesideTrial 80 = .ok (.iload_n 2, 1) := by decide +kernel
theorem dX4_enoughBesideTrial_81 : decode cX4_enoughBesideTrial 81 = .ok (.invokevirtual 79, 3) := by decide +kernel
theorem dX4_enoughBesideTrial_84 : decode cX4_enoughBesideTrial 84 = .ok (.ireturn, 1) := by decide +kernel
set_option maxRecDepth 20000 in
theorem ggX4_reasonsOf_X4_classes : GoodIn wsX4_reasonsOf wsX4_classes := goodIn_r _ [9, 10, 11, 12, 13, 14, 15, 16, 17, 18, 19, 20, 21, 22, 23, 24, 25, 26, 27, 28, 29, 30, 31, 32, 33, 34, 35, 36, 37, 38, 39, 40, 41, 42, 43, 44, 45, 46, 47, 48, 49, 50, 51, 52, 53, 54, 55, 56, 57, 58, 59, 60, 61, 62, 63, 64, 65, 66, 67, 68, 69, 70, 71, 72, 73, 74, 75, 76, 77, 78, 79, 80, 81, 82, 83, 84, 85, 86, 87, 88, 89, 90, 91, 92, 93, 94, 95, 96, 110, 111, 112, 113, 114, 115, 116, 117, 118, 119, 120, 121, 122, 123, 124, 125, 126, 127, 128, 129, 130, 131, 132, 133, 134, 135, 136, 137, 138, 139, 140, 141, 142, 143, 144, 145, 146] (by decide +kernel) (by decide +kernel)
set_option maxRecDepth 20000 in
theorem gX4_reasonsOf_X4_classes : GoodIn wsX4_reasonsOf (wsV RX4 68 RX4 yX4_classes wsX4_classes) := goodIn_app (goodIn_of _ (by decide +kernel)) ggX4_reasonsOf_X4_classes
set_option maxRecDepth 20000 in
theorem ggX4_reasonsOf_X1_meeting : GoodIn wsX4_reasonsOf wsX1_meeting := goodIn_r _ [100, 37, 38, 36, 140, 141, 142, 143, 144, 145, 146] (by decide +kernel) (by decide +kernel)
set_option maxRecDepth 20000 in
theorem gX4_reasonsOf_X1_meeting : GoodIn wsX4_reasonsOf (wsV RX4 79 RX1 yX1_meeting wsX1_meeting) := goodIn_app (goodIn_of _ (by decide +kernel)) ggX4_reasonsOf_X1_meeting
set_option maxRecDepth 20000 in
theorem ggX4_reasonsOf_X4_closeOver : GoodIn wsX4_reasonsOf wsX4_closeOver := goodIn_r _ [104, 11, 12, 105, 14, 15, 16, 17, 18, 19, 20, 21, 22, 23, 24, 25, 26, 27, 28, 29, 30, 31, 32, 33, 34, 35, 36, 37, 38, 39, 40, 41, 42, 43, 44, 45, 46, 47, 48, 49, 50, 51, 52, 53, 54, 55, 56, 57, 58, 59, 60, 61, 62, 63, 64, 65, 66, 67, 68, 69, 70, 71, 72, 73, 74, 75, 76, 77, 78, 79, 80, 81, 82, 83, 84, 85, 86, 87, 88, 89, 90, 91, 92, 93, 94, 95, 96, 110, 111, 112, 113, 114, 115, 116, 117, 118, 119, 120, 121, 122, 123, 124, 125, 126, 127, 128, 129, 130, 131, 132, 133, 134, 135, 136, 137, 138, 139, 140, 141, 142, 143, 144, 145, 146] (by decide +kernel) (by decide +kernel)
set_option maxRecDepth 20000 in
theorem gX4_reasonsOf_X4_closeOver : GoodIn wsX4_reasonsOf (wsV RX4 113 RX4 yX4_closeOver wsX4_closeOver) := goodIn_app (goodIn_of _ (by decide +kernel)) ggX4_reasonsOf_X4_closeOver
set_option maxRecDepth 20000 in
theorem ggX4_reasonsOf_X4_enoughBesideTrial : GoodIn wsX4_reasonsOf wsX4_enoughBesideTrial := goodIn_r _ [109, 14, 15, 105, 11, 16, 17, 12, 97, 98, 99, 31, 100, 37, 38, 36, 63, 58, 59, 21, 60, 25, 61, 62, 64, 65, 66, 67, 68, 69, 70, 71, 26, 72, 73, 74, 75, 76, 77, 53, 54, 55, 56, 78, 79, 80, 81, 82, 52, 83, 84, 85, 86, 87, 88, 33, 34, 89, 90, 91, 92, 35, 39, 40, 93, 94, 95, 96, 50, 24, 51, 45, 46, 47, 48, 27, 49, 57, 110, 111, 112, 113, 114, 115, 116, 117, 118, 119, 120, 121, 122, 123, 124, 125, 140, 141, 142, 143, 144, 145, 146, 131, 132, 133, 134, 135, 136, 137, 138, 139, 126, 127, 128, 129, 130] (by decide +kernel) (by decide +kernel)
set_option maxRecDepth 20000 in
theorem gX4_reasonsOf_X4_enoughBesideTrial : GoodIn wsX4_reasonsOf (wsV RX4 168 RX4 yX4_enoughBesideTrial wsX4_enoughBesideTrial) := goodIn_app (goodIn_of _ (by decide +kernel)) ggX4_reasonsOf_X4_enoughBesideTrial
theorem dX4_reasonsOf_0 : decode cX4_reasonsOf 0 = .ok (.aload_n 0, 1) := by decide +kernel
theorem dX4_reasonsOf_1 : decode cX4_reasonsOf 1 = .ok (.getfield 137, 3) := by decide +kernel
theorem dX4_reasonsOf_4 : decode cX4_reasonsOf 4 = .ok (.ifCond .eq 24, 3) := by decide +kernel
theorem dX4_reasonsOf_7 : decode cX4_reasonsOf 7 = .ok (.aload_n 0, 1) := by decide +kernel
theorem dX4_reasonsOf_8 : decode cX4_reasonsOf 8 = .ok (.getfield 158, 3) := by decide +kernel
theorem dX4_reasonsOf_11 : decode cX4_reasonsOf 11 = .ok (.iload_n 1, 1) := by decide +kernel
theorem dX4_reasonsOf_12 : decode cX4_reasonsOf 12 = .ok (.if_icmp .ne 16, 3) := by decide +kernel
theorem dX4_reasonsOf_15 : decode cX4_reasonsOf 15 = .ok (.aload_n 0, 1) := by decide +kernel
theorem dX4_reasonsOf_16 : decode cX4_reasonsOf 16 = .ok (.getfield 161, 3) := by decide +kernel
theorem dX4_reasonsOf_19 : decode cX4_reasonsOf 19 = .ok (.iload_n 2, 1) := by decide +kernel
theorem dX4_reasonsOf_20 : decode cX4_reasonsOf 20 = .ok (.if_icmp .ne 8, 3) := by decide +kernel
theorem dX4_reasonsOf_23 : decode cX4_reasonsOf 23 = .ok (.aload_n 0, 1) := by decide +kernel
theorem dX4_reasonsOf_24 : decode cX4_reasonsOf 24 = .ok (.getfield 164, 3) := by decide +kernel
theorem dX4_reasonsOf_27 : decode cX4_reasonsOf 27 = .ok (.lreturn, 1) := by decide +kernel
theorem dX4_reasonsOf_28 : decode cX4_reasonsOf 28 = .ok (.lconst 0, 1) := by decide +kernel
theorem dX4_reasonsOf_29 : decode cX4_reasonsOf 29 = .ok (.lstore_n 3, 1) := by decide +kernel
theorem dX4_reasonsOf_30 : decode cX4_reasonsOf 30 = .ok (.aload_n 0, 1) := by decide +kernel
theorem dX4_reasonsOf_31 : decode cX4_reasonsOf 31 = .ok (.invokevirtual 68, 3) := by decide +kernel
theorem dX4_reasonsOf_34 : decode cX4_reasonsOf 34 = .ok (.iload_n 1, 1) := by decide +kernel
theorem dX4_reasonsOf_35 : decode cX4_reasonsOf 35 = .ok (.iload_n 2, 1) := by decide +kernel
theorem dX4_reasonsOf_36 : decode cX4_reasonsOf 36 = .ok (.invokevirtual 79, 3) := by decide +kernel
theorem dX4_reasonsOf_39 : decode cX4_reasonsOf 39 = .ok (.istore 5, 2) := by decide +kernel
theorem dX4_reasonsOf_41 : decode cX4_reasonsOf 41 = .ok (.iconst 0, 1) := by decide +kernel
theorem dX4_reasonsOf_42 : decode cX4_reasonsOf 42 = .ok (.istore 6, 2) := by decide +kernel
theorem dX4_reasonsOf_44 : decode cX4_reasonsOf 44 = .ok (.iload 6, 2) := by decide +kernel
theorem dX4_reasonsOf_46 : decode cX4_reasonsOf 46 = .ok (.bipush 60, 2) := by decide +kernel
theorem dX4_reasonsOf_48 : decode cX4_reasonsOf 48 = .ok (.if_icmp .ge 36, 3) := by decide +kernel
theorem dX4_reasonsOf_51 : decode cX4_reasonsOf 51 = .ok (.iload 5, 2) := by decide +kernel
theorem dX4_reasonsOf_53 : decode cX4_reasonsOf 53 = .ok (.ifCond .le 31, 3) := by decide +kernel
theorem dX4_reasonsOf_56 : decode cX4_reasonsOf 56 = .ok (.lload_n 3, 1) := by decide +kernel
theorem dX4_reasonsOf_57 : decode cX4_reasonsOf 57 = .ok (.lconst 1, 1) := by decide +kernel
theorem dX4_reasonsOf_58 : decode cX4_reasonsOf 58 = .ok (.iload 5, 2) := by decide +kernel
theorem dX4_reasonsOf_60 : decode cX4_reasonsOf 60 = .ok (.iconst 1, 1) := by decide +kernel
theorem dX4_reasonsOf_61 : decode cX4_reasonsOf 61 = .ok (.isub, 1) := by decide +kernel
theorem dX4_reasonsOf_62 : decode cX4_reasonsOf 62 = .ok (.lshl, 1) := by decide +kernel
theorem dX4_reasonsOf_63 : decode cX4_reasonsOf 63 = .ok (.lor, 1) := by decide +kernel
theorem dX4_reasonsOf_64 : decode cX4_reasonsOf 64 = .ok (.lstore_n 3, 1) := by decide +kernel
theorem dX4_reasonsOf_65 : decode cX4_reasonsOf 65 = .ok (.aload_n 0, 1) := by decide +kernel
theorem dX4_reasonsOf_66 : decode cX4_reasonsOf 66 = .ok (.lload_n 3, 1) := by decide +kernel
theorem dX4_reasonsOf_67 : decode cX4_reasonsOf 67 = .ok (.invokevirtual 113, 3) := by decide +kernel
theorem dX4_reasonsOf_70 : decode cX4_reasonsOf 70 = .ok (.aload_n 0, 1) := by decide +kernel
theorem dX4_reasonsOf_71 : decode cX4_reasonsOf 71 = .ok (.iload_n 1, 1) := by decide +kernel
theorem dX4_reasonsOf_72 : decode cX4_reasonsOf 72 = .ok (.iload_n 2, 1) := by decide +kernel
theorem dX4_reasonsOf_73 : decode cX4_reasonsOf 73 = .ok (.invokevirtual 168, 3) := by decide +kernel
theorem dX4_reasonsOf_76 : decode cX4_reasonsOf 76 = .ok (.istore 5, 2) := by decide +kernel
theorem dX4_reasonsOf_78 : decode cX4_reasonsOf 78 = .ok (.iinc 6 1, 3) := by decide +kernel
theorem dX4_reasonsOf_81 : decode cX4_reasonsOf 81 = .ok (.goto (-37), 3) := by decide +kernel
theorem dX4_reasonsOf_84 : decode cX4_reasonsOf 84 = .ok (.aload_n 0, 1) := by decide +kernel
theorem dX4_reasonsOf_85 : decode cX4_reasonsOf 85 = .ok (.iconst 1, 1) := by decide +kernel
theorem dX4_reasonsOf_86 : decode cX4_reasonsOf 86 = .ok (.putfield 137, 3) := by decide +kernel
theorem dX4_reasonsOf_89 : decode cX4_reasonsOf 89 = .ok (.aload_n 0, 1) := by decide +kernel
theorem dX4_reasonsOf_90 : decode cX4_reasonsOf 90 = .ok (.iload_n 1, 1) := by decide +kernel
theorem dX4_reasonsOf_91 : decode cX4_reasonsOf 91 = .ok (.putfield 158, 3) := by decide +kernel
theorem dX4_reasonsOf_94 : decode cX4_reasonsOf 94 = .ok (.aload_n 0, 1) := by decide +kernel
theorem dX4_reasonsOf_95 : decode cX4_reasonsOf 95 = .ok (.iload_n 2, 1) := by decide +kernel
theorem dX4_reasonsOf_96 : decode cX4_reasonsOf 96 = .ok (.putfield 161, 3) := by decide +kernel
theorem dX4_reasonsOf_99 : decode cX4_reasonsOf 99 = .ok (.aload_n 0, 1) := by decide +kernel
theorem dX4_reasonsOf_100 : decode cX4_reasonsOf 100 = .ok (.lload_n 3, 1) := by decide +kernel
theorem dX4_reasonsOf_101 : decode cX4_reasonsOf 101 = .ok (.putfield 164, 3) := by decide +kernel
theorem dX4_reasonsOf_104 : decode cX4_reasonsOf 104 = .ok (.lload_n 3, 1) := by decide +kernel
theorem dX4_reasonsOf_105 : decode cX4_reasonsOf 105 = .ok (.lreturn, 1) := by decide +kernel
theorem dX4_equationAt_0 : decode cX4_equationAt 0 = .ok (.iconst 0, 1) := by decide +kernel
theorem dX4_equationAt_1 : decode cX4_equationAt 1 = .ok (.istore_n 3, 1) := by decide +kernel
theorem dX4_equationAt_2 : decode cX4_equationAt 2 = .ok (.iconst 0, 1) := by decide +kernel
theorem dX4_equationAt_3 : decode cX4_equationAt 3 = .ok (.istore 4, 2) := by decide +kernel
theorem dX4_equationAt_5 : decode cX4_equationAt 5 = .ok (.iload 4, 2) := by decide +kernel
theorem dX4_equationAt_7 : decode cX4_equationAt 7 = .ok (.bipush 60, 2) := by decide +kernel
theorem dX4_equationAt_9 : decode cX4_equationAt 9 = .ok (.if_icmp .ge 31, 3) := by decide +kernel
theorem dX4_equationAt_12 : decode cX4_equationAt 12 = .ok (.lload_n 0, 1) := by decide +kernel
theorem dX4_equationAt_13 : decode cX4_equationAt 13 = .ok (.iload 4, 2) := by decide +kernel
theorem dX4_equationAt_15 : decode cX4_equationAt 15 = .ok (.lushr, 1) := by decide +kernel
theorem dX4_equationAt_16 : decode cX4_equationAt 16 = .ok (.lconst 1, 1) := by decide +kernel
theorem dX4_equationAt_17 : decode cX4_equationAt 17 = .ok (.land, 1) := by decide +kernel
theorem dX4_equationAt_18 : decode cX4_equationAt 18 = .ok (.lconst 0, 1) := by decide +kernel
theorem dX4_equationAt_19 : decode cX4_equationAt 19 = .ok (.lcmp, 1) := by decide +kernel
theorem dX4_equationAt_20 : decode cX4_equationAt 20 = .ok (.ifCond .eq 14, 3) := by decide +kernel
theorem dX4_equationAt_23 : decode cX4_equationAt 23 = .ok (.iload_n 3, 1) := by decide +kernel
theorem dX4_equationAt_24 : decode cX4_equationAt 24 = .ok (.iload_n 2, 1) := by decide +kernel
theorem dX4_equationAt_25 : decode cX4_equationAt 25 = .ok (.if_icmp .ne 6, 3) := by decide +kernel
theorem dX4_equationAt_28 : decode cX4_equationAt 28 = .ok (.iload 4, 2) := by decide +kernel
theorem dX4_equationAt_30 : decode cX4_equationAt 30 = .ok (.ireturn, 1) := by decide +kernel
theorem dX4_equationAt_31 : decode cX4_equationAt 31 = .ok (.iinc 3 1, 3) := by decide +kernel
theorem dX4_equationAt_34 : decode cX4_equationAt 34 = .ok (.iinc 4 1, 3) := by decide +kernel
theorem dX4_equationAt_37 : decode cX4_equationAt 37 = .ok (.goto (-32), 3) := by decide +kernel
theorem dX4_equationAt_40 : decode cX4_equationAt 40 = .ok (.iconst (-1), 1) := by decide +kernel
theorem dX4_equationAt_41 : decode cX4_equationAt 41 = .ok (.ireturn, 1) := by decide +kernel
