theorem dX5_init_0 : decode cX5_init 0 = .ok (.aload_n 0, 1) := by decide +kernel
theorem dX5_init_1 : decode cX5_init 1 = .ok (.invokespecial 1, 3) := by decide +kernel
theorem dX5_init_4 : decode cX5_init 4 = .ok (.aload_n 0, 1) := by decide +kernel
theorem dX5_init_5 : decode cX5_init 5 = .ok (.sipush 250, 3) := by decide +kernel
theorem dX5_init_8 : decode cX5_init 8 = .ok (.newarray .int, 2) := by decide +kernel
theorem dX5_init_10 : decode cX5_init 10 = .ok (.putfield 7, 3) := by decide +kernel
theorem dX5_init_13 : decode cX5_init 13 = .ok (.aload_n 0, 1) := by decide +kernel
theorem dX5_init_14 : decode cX5_init 14 = .ok (.sipush 250, 3) := by decide +kernel
theorem dX5_init_17 : decode cX5_init 17 = .ok (.newarray .int, 2) := by decide +kernel
theorem dX5_init_19 : decode cX5_init 19 = .ok (.putfield 13, 3) := by decide +kernel
theorem dX5_init_22 : decode cX5_init 22 = .ok (.aload_n 0, 1) := by decide +kernel
theorem dX5_init_23 : decode cX5_init 23 = .ok (.bipush 60, 2) := by decide +kernel
theorem dX5_init_25 : decode cX5_init 25 = .ok (.newarray .int, 2) := by decide +kernel
theorem dX5_init_27 : decode cX5_init 27 = .ok (.putfield 16, 3) := by decide +kernel
theorem dX5_init_30 : decode cX5_init 30 = .ok (.aload_n 0, 1) := by decide +kernel
theorem dX5_init_31 : decode cX5_init 31 = .ok (.bipush 60, 2) := by decide +kernel
theorem dX5_init_33 : decode cX5_init 33 = .ok (.newarray .int, 2) := by decide +kernel
theorem dX5_init_35 : decode cX5_init 35 = .ok (.putfield 19, 3) := by decide +kernel
theorem dX5_init_38 : decode cX5_init 38 = .ok (.aload_n 0, 1) := by decide +kernel
theorem dX5_init_39 : decode cX5_init 39 = .ok (.bipush 30, 2) := by decide +kernel
theorem dX5_init_41 : decode cX5_init 41 = .ok (.newarray .int, 2) := by decide +kernel
theorem dX5_init_43 : decode cX5_init 43 = .ok (.putfield 22, 3) := by decide +kernel
theorem dX5_init_46 : decode cX5_init 46 = .ok (.aload_n 0, 1) := by decide +kernel
theorem dX5_init_47 : decode cX5_init 47 = .ok (.bipush 30, 2) := by decide +kernel
theorem dX5_init_49 : decode cX5_init 49 = .ok (.newarray .int, 2) := by decide +kernel
theorem dX5_init_51 : decode cX5_init 51 = .ok (.putfield 25, 3) := by decide +kernel
theorem dX5_init_54 : decode cX5_init 54 = .ok (.aload_n 0, 1) := by decide +kernel
theorem dX5_init_55 : decode cX5_init 55 = .ok (.sipush 250, 3) := by decide +kernel
theorem dX5_init_58 : decode cX5_init 58 = .ok (.newarray .int, 2) := by decide +kernel
theorem dX5_init_60 : decode cX5_init 60 = .ok (.putfield 28, 3) := by decide +kernel
theorem dX5_init_63 : decode cX5_init 63 = .ok (.aload_n 0, 1) := by decide +kernel
theorem dX5_init_64 : decode cX5_init 64 = .ok (.sipush 250, 3) := by decide +kernel
theorem dX5_init_67 : decode cX5_init 67 = .ok (.newarray .int, 2) := by decide +kernel
theorem dX5_init_69 : decode cX5_init 69 = .ok (.putfield 31, 3) := by decide +kernel
theorem dX5_init_72 : decode cX5_init 72 = .ok (.aload_n 0, 1) := by decide +kernel
theorem dX5_init_73 : decode cX5_init 73 = .ok (.sipush 250, 3) := by decide +kernel
theorem dX5_init_76 : decode cX5_init 76 = .ok (.newarray .int, 2) := by decide +kernel
theorem dX5_init_78 : decode cX5_init 78 = .ok (.putfield 34, 3) := by decide +kernel
theorem dX5_init_81 : decode cX5_init 81 = .ok (.aload_n 0, 1) := by decide +kernel
theorem dX5_init_82 : decode cX5_init 82 = .ok (.iconst 0, 1) := by decide +kernel
theorem dX5_init_83 : decode cX5_init 83 = .ok (.putfield 37, 3) := by decide +kernel
theorem dX5_init_86 : decode cX5_init 86 = .ok (.return_, 1) := by decide +kernel
theorem dX5_in_0 : decode cX5_in 0 = .ok (.iload_n 0, 1) := by decide +kernel
theorem dX5_in_1 : decode cX5_in 1 = .ok (.iload_n 1, 1) := by decide +kernel
theorem dX5_in_2 : decode cX5_in 2 = .ok (.if_icmp .lt 12, 3) := by decide +kernel
theorem dX5_in_5 : decode cX5_in 5 = .ok (.iload_n 0, 1) := by decide +kernel
theorem dX5_in_6 : decode cX5_in 6 = .ok (.iload_n 2, 1) := by decide +kernel
theorem dX5_in_7 : decode cX5_in 7 = .ok (.if_icmp .gt 7, 3) := by decide +kernel
theorem dX5_in_10 : decode cX5_in 10 = .ok (.iconst 1, 1) := by decide +kernel
theorem dX5_in_11 : decode cX5_in 11 = .ok (.goto 4, 3) := by decide +kernel
theorem dX5_in_14 : decode cX5_in 14 = .ok (.iconst 0, 1) := by decide +kernel
theorem dX5_in_15 : decode cX5_in 15 = .ok (.ireturn, 1) := by decide +kernel
set_option maxRecDepth 20000 in
theorem ggX5_isTerm_X5_in : GoodIn wsX5_isTerm wsX5_in := goodIn_r _ [5] (by decide +kernel) (by decide +kernel)
set_option maxRecDepth 20000 in
theorem gX5_isTerm_X5_in : GoodIn wsX5_isTerm (va_wsS RX5 41 yX5_in wsX5_in) := goodIn_app (goodIn_of _ (by decide +kernel)) ggX5_isTerm_X5_in
theorem dX5_isTerm_0 : decode cX5_isTerm 0 = .ok (.iload_n 1, 1) := by decide +kernel
theorem dX5_isTerm_1 : decode cX5_isTerm 1 = .ok (.iconst 0, 1) := by decide +kernel
theorem dX5_isTerm_2 : decode cX5_isTerm 2 = .ok (.aload_n 0, 1) := by decide +kernel
theorem dX5_isTerm_3 : decode cX5_isTerm 3 = .ok (.getfield 37, 3) := by decide +kernel
theorem dX5_isTerm_6 : decode cX5_isTerm 6 = .ok (.iconst 1, 1) := by decide +kernel
theorem dX5_isTerm_7 : decode cX5_isTerm 7 = .ok (.isub, 1) := by decide +kernel
theorem dX5_isTerm_8 : decode cX5_isTerm 8 = .ok (.invokestatic 41, 3) := by decide +kernel
theorem dX5_isTerm_11 : decode cX5_isTerm 11 = .ok (.ireturn, 1) := by decide +kernel
theorem dX5_clear_0 : decode cX5_clear 0 = .ok (.aload_n 0, 1) := by decide +kernel
theorem dX5_clear_1 : decode cX5_clear 1 = .ok (.getfield 37, 3) := by decide +kernel
theorem dX5_clear_4 : decode cX5_clear 4 = .ok (.istore_n 1, 1) := by decide +kernel
theorem dX5_clear_5 : decode cX5_clear 5 = .ok (.aload_n 0, 1) := by decide +kernel
theorem dX5_clear_6 : decode cX5_clear 6 = .ok (.iconst 0, 1) := by decide +kernel
theorem dX5_clear_7 : decode cX5_clear 7 = .ok (.putfield 37, 3) := by decide +kernel
theorem dX5_clear_10 : decode cX5_clear 10 = .ok (.aload_n 0, 1) := by decide +kernel
theorem dX5_clear_11 : decode cX5_clear 11 = .ok (.iconst 0, 1) := by decide +kernel
theorem dX5_clear_12 : decode cX5_clear 12 = .ok (.putfield 45, 3) := by decide +kernel
theorem dX5_clear_15 : decode cX5_clear 15 = .ok (.aload_n 0, 1) := by decide +kernel
theorem dX5_clear_16 : decode cX5_clear 16 = .ok (.iconst 0, 1) := by decide +kernel
theorem dX5_clear_17 : decode cX5_clear 17 = .ok (.putfield 48, 3) := by decide +kernel
theorem dX5_clear_20 : decode cX5_clear 20 = .ok (.aload_n 0, 1) := by decide +kernel
theorem dX5_clear_21 : decode cX5_clear 21 = .ok (.iconst 0, 1) := by decide +kernel
theorem dX5_clear_22 : decode cX5_clear 22 = .ok (.putfield 51, 3) := by decide +kernel
theorem dX5_clear_25 : decode cX5_clear 25 = .ok (.iload_n 1, 1) := by decide +kernel
theorem dX5_clear_26 : decode cX5_clear 26 = .ok (.ireturn, 1) := by decide +kernel
theorem dX5_add_0 : decode cX5_add 0 = .ok (.aload_n 0, 1) := by decide +kernel
theorem dX5_add_1 : decode cX5_add 1 = .ok (.getfield 7, 3) := by decide +kernel
theorem dX5_add_4 : decode cX5_add 4 = .ok (.aload_n 0, 1) := by decide +kernel
theorem dX5_add_5 : decode cX5_add 5 = .ok (.getfield 37, 3) := by decide +kernel
theorem dX5_add_8 : decode cX5_add 8 = .ok (.iload_n 1, 1) := by decide +kernel
theorem dX5_add_9 : decode cX5_add 9 = .ok (.iastore, 1) := by decide +kernel
theorem dX5_add_10 : decode cX5_add 10 = .ok (.aload_n 0, 1) := by decide +kernel
theorem dX5_add_11 : decode cX5_add 11 = .ok (.getfield 13, 3) := by decide +kernel
theorem dX5_add_14 : decode cX5_add 14 = .ok (.aload_n 0, 1) := by decide +kernel
theorem dX5_add_15 : decode cX5_add 15 = .ok (.getfield 37, 3) := by decide +kernel
theorem dX5_add_18 : decode cX5_add 18 = .ok (.iload_n 2, 1) := by decide +kernel
theorem dX5_add_19 : decode cX5_add 19 = .ok (.iastore, 1) := by decide +kernel
theorem dX5_add_20 : decode cX5_add 20 = .ok (.aload_n 0, 1) := by decide +kernel
theorem dX5_add_21 : decode cX5_add 21 = .ok (.dup, 1) := by decide +kernel
theorem dX5_add_22 : decode cX5_add 22 = .ok (.getfield 37, 3) := by decide +kernel
theorem dX5_add_25 : decode cX5_add 25 = .ok (.iconst 1, 1) := by decide +kernel
theorem dX5_add_26 : decode cX5_add 26 = .ok (.iadd, 1) := by decide +kernel
theorem dX5_add_27 : decode cX5_add 27 = .ok (.putfield 37, 3) := by decide +kernel
theorem dX5_add_30 : decode cX5_add 30 = .ok (.aload_n 0, 1) := by decide +kernel
theorem dX5_add_31 : decode cX5_add 31 = .ok (.getfield 37, 3) := by decide +kernel
theorem dX5_add_34 : decode cX5_add 34 = .ok (.iconst 1, 1) := by decide +kernel
theorem dX5_add_35 : decode cX5_add 35 = .ok (.isub, 1) := by decide +kernel
theorem dX5_add_36 : decode cX5_add 36 = .ok (.ireturn, 1) := by decide +kernel
set_option maxRecDepth 20000 in
theorem ggX5_constant_X5_add : GoodIn wsX5_constant wsX5_add := goodIn_r _ [6, 7, 1, 8, 9, 10, 11, 12, 13, 14, 15, 16, 17, 18, 19, 20, 21] (by decide +kernel) (by decide +kernel)
set_option maxRecDepth 20000 in
theorem gX5_constant_X5_add : GoodIn wsX5_constant (wsV RX5 54 RX5 yX5_add wsX5_add) := goodIn_app (goodIn_of _ (by decide +kernel)) ggX5_constant_X5_add
theorem dX5_constant_0 : decode cX5_constant 0 = .ok (.aload_n 0, 1) := by decide +kernel
theorem dX5_constant_1 : decode cX5_constant 1 = .ok (.getfield 37, 3) := by decide +kernel
theorem dX5_constant_4 : decode cX5_constant 4 = .ok (.sipush 250, 3) := by decide +kernel
theorem dX5_constant_7 : decode cX5_constant 7 = .ok (.if_icmp .ne 8, 3) := by decide +kernel
theorem dX5_constant_10 : decode cX5_constant 10 = .ok (.bipush (-3), 2) := by decide +kernel
theorem dX5_constant_12 : decode cX5_constant 12 = .ok (.goto 9, 3) := by decide +kernel
theorem dX5_constant_15 : decode cX5_constant 15 = .ok (.aload_n 0, 1) := by decide +kernel
theorem dX5_constant_16 : decode cX5_constant 16 = .ok (.iconst (-1), 1) := by decide +kernel
theorem dX5_constant_17 : decode cX5_constant 17 = .ok (.iconst (-1), 1) := by decide +kernel
theorem dX5_constant_18 : decode cX5_constant 18 = .ok (.invokevirtual 54, 3) := by decide +kernel
theorem dX5_constant_21 : decode cX5_constant 21 = .ok (.ireturn, 1) := by decide +kernel
set_option maxRecDepth 20000 in
theorem ggX5_apply_X5_isTerm : GoodIn wsX5_apply wsX5_isTerm := goodIn_r _ [10, 5, 11, 12, 9, 13, 18, 19, 20, 21, 22, 23, 24, 25, 26, 27, 28, 29, 30] (by decide +kernel) (by decide +kernel)
set_option maxRecDepth 20000 in
theorem gX5_apply_X5_isTerm : GoodIn wsX5_apply (wsV RX5 58 RX5 yX5_isTerm wsX5_isTerm) := goodIn_app (goodIn_of _ (by decide +kernel)) ggX5_apply_X5_isTerm
set_option maxRecDepth 20000 in
theorem ggX5_apply_X5_add : GoodIn wsX5_apply wsX5_add := goodIn_r _ [17, 3, 5, 4, 18, 19, 20, 21, 22, 23, 24, 25, 26, 27, 28, 29, 30] (by decide +kernel) (by decide +kernel)
set_option maxRecDepth 20000 in
theorem gX5_apply_X5_add : GoodIn wsX5_apply (wsV RX5 54 RX5 yX5_add wsX5_add) := goodIn_app (goodIn_of _ (by decide +kernel)) ggX5_apply_X5_add
theorem dX5_apply_0 : decode cX5_apply 0 = .ok (.aload_n 0, 1) := by decide +kernel
theorem dX5_apply_1 : decode cX5_apply 1 = .ok (.iload_n 1, 1) := by decide +kernel
theorem dX5_apply_2 : decode cX5_apply 2 = .ok (.invokevirtual 58, 3) := by decide +kernel
theorem dX5_apply_5 : decode cX5_apply 5 = .ok (.ifCond .eq 11, 3) := by decide +kernel
theorem dX5_apply_8 : decode cX5_apply 8 = .ok (.aload_n 0, 1) := by decide +kernel
theorem dX5_apply_9 : decode cX5_apply 9 = .ok (.iload_n 2, 1) := by decide +kernel
theorem dX5_apply_10 : decode cX5_apply 10 = .ok (.invokevirtual 58, 3) := by decide +kernel
theorem dX5_apply_13 : decode cX5_apply 13 = .ok (.ifCond .ne 6, 3) := by decide +kernel
theorem dX5_apply_16 : decode cX5_apply 16 = .ok (.bipush (-2), 2) := by decide +kernel
theorem dX5_apply_18 : decode cX5_apply 18 = .ok (.ireturn, 1) := by decide +kernel
theorem dX5_apply_19 : decode cX5_apply 19 = .ok (.iconst 0, 1) := by decide +kernel
theorem dX5_apply_20 : decode cX5_apply 20 = .ok (.istore_n 3, 1) := by decide +kernel
theorem dX5_apply_21 : decode cX5_apply 21 = .ok (.iload_n 3, 1) := by decide +kernel
theorem dX5_apply_22 : decode cX5_apply 22 = .ok (.aload_n 0, 1) := by decide +kernel
theorem dX5_apply_23 : decode cX5_apply 23 = .ok (.getfield 51, 3) := by decide +kernel
theorem dX5_apply_26 : decode cX5_apply 26 = .ok (.if_icmp .ge 42, 3) := by decide +kernel
theorem dX5_apply_29 : decode cX5_apply 29 = .ok (.aload_n 0, 1) := by decide +kernel
theorem dX5_apply_30 : decode cX5_apply 30 = .ok (.getfield 34, 3) := by decide +kernel
theorem dX5_apply_33 : decode cX5_apply 33 = .ok (.iload_n 3, 1) := by decide +kernel
theorem dX5_apply_34 : decode cX5_apply 34 = .ok (.iaload, 1) := by decide +kernel
theorem dX5_apply_35 : decode cX5_apply 35 = .ok (.istore 4, 2) := by decide +kernel
theorem dX5_apply_37 : decode cX5_apply 37 = .ok (.aload_n 0, 1) := by decide +kernel
theorem dX5_apply_38 : decode cX5_apply 38 = .ok (.getfield 7, 3) := by decide +kernel
theorem dX5_apply_41 : decode cX5_apply 41 = .ok (.iload 4, 2) := by decide +kernel
theorem dX5_apply_43 : decode cX5_apply 43 = .ok (.iaload, 1) := by decide +kernel
theorem dX5_apply_44 : decode cX5_apply 44 = .ok (.iload_n 1, 1) := by decide +kernel
theorem dX5_apply_45 : decode cX5_apply 45 = .ok (.if_icmp .ne 17, 3) := by decide +kernel
theorem dX5_apply_48 : decode cX5_apply 48 = .ok (.aload_n 0, 1) := by decide +kernel
theorem dX5_apply_49 : decode cX5_apply 49 = .ok (.getfield 13, 3) := by decide +kernel
theorem dX5_apply_52 : decode cX5_apply 52 = .ok (.iload 4, 2) := by decide +kernel
theorem dX5_apply_54 : decode cX5_apply 54 = .ok (.iaload, 1) := by decide +kernel
theorem dX5_apply_55 : decode cX5_apply 55 = .ok (.iload_n 2, 1) := by decide +kernel
theorem dX5_apply_56 : decode cX5_apply 56 = .ok (.if_icmp .ne 6, 3) := by decide +kernel
theorem dX5_apply_59 : decode cX5_apply 59 = .ok (.iload 4, 2) := by decide +kernel
theorem dX5_apply_61 : decode cX5_apply 61 = .ok (.ireturn, 1) := by decide +kernel
theorem dX5_apply_62 : decode cX5_apply 62 = .ok (.iinc 3 1, 3) := by decide +kernel
theorem dX5_apply_65 : decode cX5_apply 65 = .ok (.goto (-44), 3) := by decide +kernel
theorem dX5_apply_68 : decode cX5_apply 68 = .ok (.aload_n 0, 1) := by decide +kernel
theorem dX5_apply_69 : decode cX5_apply 69 = .ok (.getfield 37, 3) := by decide +kernel
theorem dX5_apply_72 : decode cX5_apply 72 = .ok (.sipush 250, 3) := by decide +kernel
theorem dX5_apply_75 : decode cX5_apply 75 = .ok (.if_icmp .ne 6, 3) := by decide +kernel
theorem dX5_apply_78 : decode cX5_apply 78 = .ok (.bipush (-3), 2) := by decide +kernel
theorem dX5_apply_80 : decode cX5_apply 80 = .ok (.ireturn, 1) := by decide +kernel
theorem dX5_apply_81 : decode cX5_apply 81 = .ok (.aload_n 0, 1) := by decide +kernel
theorem dX5_apply_82 : decode cX5_apply 82 = .ok (.getfield 34, 3) := by decide +kernel
theorem dX5_apply_85 : decode cX5_apply 85 = .ok (.aload_n 0, 1) := by decide +kernel
theorem dX5_apply_86 : decode cX5_apply 86 = .ok (.getfield 51, 3) := by decide +kernel
theorem dX5_apply_89 : decode cX5_apply 89 = .ok (.aload_n 0, 1) := by decide +kernel
theorem dX5_apply_90 : decode cX5_apply 90 = .ok (.getfield 37, 3) := by decide +kernel
theorem dX5_apply_93 : decode cX5_apply 93 = .ok (.iastore, 1) := by decide +kernel
theorem dX5_apply_94 : decode cX5_apply 94 = .ok (.aload_n 0, 1) := by decide +kernel
theorem dX5_apply_95 : decode cX5_apply 95 = .ok (.dup, 1) := by decide +kernel
theorem dX5_apply_96 : decode cX5_apply 96 = .ok (.getfield 51, 3) := by decide +kernel
theorem dX5_apply_99 : decode cX5_apply 99 = .ok (.iconst 1, 1) := by decide +kernel
theorem dX5_apply_100 : decode cX5_apply 100 = .ok (.iadd, 1) := by decide +kernel
theorem dX5_apply_101 : decode cX5_apply 101 = .ok (.putfield 51, 3) := by decide +kernel
theorem dX5_apply_104 : decode cX5_apply 104 = .ok (.aload_n 0, 1) := by decide +kernel
theorem dX5_apply_105 : decode cX5_apply 105 = .ok (.iload_n 1, 1) := by decide +kernel
theorem dX5_apply_106 : decode cX5_apply 106 = .ok (.iload_n 2, 1) := by decide +kernel
theorem dX5_apply_107 : decode cX5_apply 107 = .ok (.invokevirtual 54, 3) := by decide +kernel
theorem dX5_apply_110 : decode cX5_apply 110 = .ok (.ireturn, 1) := by decide +kernel
set_option maxRecDepth 20000 in
theorem ggX5_equate_X5_isTerm : GoodIn wsX5_equate wsX5_isTerm := goodIn_r _ [8, 9, 10, 11, 7, 12, 13, 14, 15, 16, 17, 18, 19, 20, 21, 22, 23, 24, 25] (by decide +kernel) (by decide +kernel)
set_option maxRecDepth 20000 in
theorem gX5_equate_X5_isTerm : GoodIn wsX5_equate (wsV RX5 58 RX5 yX5_isTerm wsX5_isTerm) := goodIn_app (goodIn_of _ (by decide +kernel)) ggX5_equate_X5_isTerm
theorem dX5_equate_0 : decode cX5_equate 0 = .ok (.aload_n 0, 1) := by decide +kernel
theorem dX5_equate_1 : decode cX5_equate 1 = .ok (.iload_n 1, 1) := by decide +kernel
theorem dX5_equate_2 : decode cX5_equate 2 = .ok (.invokevirtual 58, 3) := by decide +kernel
theorem dX5_equate_5 : decode cX5_equate 5 = .ok (.ifCond .eq 11, 3) := by decide +kernel
theorem dX5_equate_8 : decode cX5_equate 8 = .ok (.aload_n 0, 1) := by decide +kernel
theorem dX5_equate_9 : decode cX5_equate 9 = .ok (.iload_n 2, 1) := by decide +kernel
theorem dX5_equate_10 : decode cX5_equate 10 = .ok (.invokevirtual 58, 3) := by decide +kernel
theorem dX5_equate_13 : decode cX5_equate 13 = .ok (.ifCond .ne 6, 3) := by decide +kernel
theorem dX5_equate_16 : decode cX5_equate 16 = .ok (.bipush (-2), 2) := by decide +kernel
theorem dX5_equate_18 : decode cX5_equate 18 = .ok (.ireturn, 1) := by decide +kernel
theorem dX5_equate_19 : decode cX5_equate 19 = .ok (.aload_n 0, 1) := by decide +kernel
theorem dX5_equate_20 : decode cX5_equate 20 = .ok (.getfield 45, 3) := by decide +kernel
theorem dX5_equate_23 : decode cX5_equate 23 = .ok (.bipush 60, 2) := by decide +kernel
theorem dX5_equate_25 : decode cX5_equate 25 = .ok (.if_icmp .ne 6, 3) := by decide +kernel
theorem dX5_equate_28 : decode cX5_equate 28 = .ok (.bipush (-3), 2) := by decide +kernel
theorem dX5_equate_30 : decode cX5_equate 30 = .ok (.ireturn, 1) := by decide +kernel
theorem dX5_equate_31 : decode cX5_equate 31 = .ok (.aload_n 0, 1) := by decide +kernel
theorem dX5_equate_32 : decode cX5_equate 32 = .ok (.getfield 16, 3) := by decide +kernel
theorem dX5_equate_35 : decode cX5_equate 35 = .ok (.aload_n 0, 1) := by decide +kernel
theorem dX5_equate_36 : decode cX5_equate 36 = .ok (.getfield 45, 3) := by decide +kernel
theorem dX5_equate_39 : decode cX5_equate 39 = .ok (.iload_n 1, 1) := by decide +kernel
theorem dX5_equate_40 : decode cX5_equate 40 = .ok (.iastore, 1) := by decide +kernel
theorem dX5_equate_41 : decode cX5_equate 41 = .ok (.aload_n 0, 1) := by decide +kernel
theorem dX5_equate_42 : decode cX5_equate 42 = .ok (.getfield 19, 3) := by decide +kernel
theorem dX5_equate_45 : decode cX5_equate 45 = .ok (.aload_n 0, 1) := by decide +kernel
theorem dX5_equate_46 : decode cX5_equate 46 = .ok (.getfield 45, 3) := by decide +kernel
theorem dX5_equate_49 : decode cX5_equate 49 = .ok (.iload_n 2, 1) := by decide +kernel
theorem dX5_equate_50 : decode cX5_equate 50 = .ok (.iastore, 1) := by decide +kernel
theorem dX5_equate_51 : decode cX5_equate 51 = .ok (.aload_n 0, 1) := by decide +kernel
theorem dX5_equate_52 : decode cX5_equate 52 = .ok (.dup, 1) := by decide +kernel
theorem dX5_equate_53 : decode cX5_equate 53 = .ok (.getfield 45, 3) := by decide +kernel
theorem dX5_equate_56 : decode cX5_equate 56 = .ok (.iconst 1, 1) := by decide +kernel
theorem dX5_equate_57 : decode cX5_equate 57 = .ok (.iadd, 1) := by decide +kernel
theorem dX5_equate_58 : decode cX5_equate 58 = .ok (.putfield 45, 3) := by decide +kernel
theorem dX5_equate_61 : decode cX5_equate 61 = .ok (.aload_n 0, 1) := by decide +kernel
theorem dX5_equate_62 : decode cX5_equate 62 = .ok (.getfield 45, 3) := by decide +kernel
theorem dX5_equate_65 : decode cX5_equate 65 = .ok (.iconst 1, 1) := by decide +kernel
theorem dX5_equate_66 : decode cX5_equate 66 = .ok (.isub, 1) := by decide +kernel
theorem dX5_equate_67 : decode cX5_equate 67 = .ok (.ireturn, 1) := by decide +kernel
set_option maxRecDepth 20000 in
theorem ggX5_back_X5_in : GoodIn wsX5_back wsX5_in := goodIn_r _ [5] (by decide +kernel) (by decide +kernel)
set_option maxRecDepth 20000 in
theorem gX5_back_X5_in : GoodIn wsX5_back (va_wsS RX5 41 yX5_in wsX5_in) := goodIn_app (goodIn_of _ (by decide +kernel)) ggX5_back_X5_in
theorem dX5_back_0 : decode cX5_back 0 = .ok (.iload_n 1, 1) := by decide +kernel
theorem dX5_back_1 : decode cX5_back 1 = .ok (.iconst 0, 1) := by decide +kernel
theorem dX5_back_2 : decode cX5_back 2 = .ok (.aload_n 0, 1) := by decide +kernel
theorem dX5_back_3 : decode cX5_back 3 = .ok (.getfield 45, 3) := by decide +kernel
theorem dX5_back_6 : decode cX5_back 6 = .ok (.invokestatic 41, 3) := by decide +kernel
theorem dX5_back_9 : decode cX5_back 9 = .ok (.ifCond .ne 6, 3) := by decide +kernel
theorem dX5_back_12 : decode cX5_back 12 = .ok (.bipush (-2), 2) := by decide +kernel
theorem dX5_back_14 : decode cX5_back 14 = .ok (.ireturn, 1) := by decide +kernel
theorem dX5_back_15 : decode cX5_back 15 = .ok (.aload_n 0, 1) := by decide +kernel
theorem dX5_back_16 : decode cX5_back 16 = .ok (.dup, 1) := by decide +kernel
theorem dX5_back_17 : decode cX5_back 17 = .ok (.getfield 45, 3) := by decide +kernel
theorem dX5_back_20 : decode cX5_back 20 = .ok (.iload_n 1, 1) := by decide +kernel
theorem dX5_back_21 : decode cX5_back 21 = .ok (.isub, 1) := by decide +kernel
theorem dX5_back_22 : decode cX5_back 22 = .ok (.putfield 45, 3) := by decide +kernel
theorem dX5_back_25 : decode cX5_back 25 = .ok (.aload_n 0, 1) := by decide +kernel
theorem dX5_back_26 : decode cX5_back 26 = .ok (.getfield 45, 3) := by decide +kernel
theorem dX5_back_29 : decode cX5_back 29 = .ok (.ireturn, 1) := by decide +kernel
set_option maxRecDepth 20000 in
theorem ggX5_differ_X5_isTerm : GoodIn wsX5_differ wsX5_isTerm := goodIn_r _ [8, 9, 10, 11, 7, 12, 13, 14, 15, 16, 17, 18, 19, 20, 21, 22, 23, 24, 25] (by decide +kernel) (by decide +kernel)
set_option maxRecDepth 20000 in
theorem gX5_differ_X5_isTerm : GoodIn wsX5_differ (wsV RX5 58 RX5 yX5_isTerm wsX5_isTerm) := goodIn_app (goodIn_of _ (by decide +kernel)) ggX5_differ_X5_isTerm
theorem dX5_differ_0 : decode cX5_differ 0 = .ok (.aload_n 0, 1) := by decide +kernel
theorem dX5_differ_1 : decode cX5_differ 1 = .ok (.iload_n 1, 1) := by decide +kernel
theorem dX5_differ_2 : decode cX5_differ 2 = .ok (.invokevirtual 58, 3) := by decide +kernel
theorem dX5_differ_5 : decode cX5_differ 5 = .ok (.ifCond .eq 11, 3) := by decide +kernel
theorem dX5_differ_8 : decode cX5_differ 8 = .ok (.aload_n 0, 1) := by decide +kernel
theorem dX5_differ_9 : decode cX5_differ 9 = .ok (.iload_n 2, 1) := by decide +kernel
theorem dX5_differ_10 : decode cX5_differ 10 = .ok (.invokevirtual 58, 3) := by decide +kernel
theorem dX5_differ_13 : decode cX5_differ 13 = .ok (.ifCond .ne 6, 3) := by decide +kernel
theorem dX5_differ_16 : decode cX5_differ 16 = .ok (.bipush (-2), 2) := by decide +kernel
theorem dX5_differ_18 : decode cX5_differ 18 = .ok (.ireturn, 1) := by decide +kernel
theorem dX5_differ_19 : decode cX5_differ 19 = .ok (.aload_n 0, 1) := by decide +kernel
theorem dX5_differ_20 : decode cX5_differ 20 = .ok (.getfield 48, 3) := by decide +kernel
theorem dX5_differ_23 : decode cX5_differ 23 = .ok (.bipush 30, 2) := by decide +kernel
theorem dX5_differ_25 : decode cX5_differ 25 = .ok (.if_icmp .ne 6, 3) := by decide +kernel
theorem dX5_differ_28 : decode cX5_differ 28 = .ok (.bipush (-3), 2) := by decide +kernel
theorem dX5_differ_30 : decode cX5_differ 30 = .ok (.ireturn, 1) := by decide +kernel
theorem dX5_differ_31 : decode cX5_differ 31 = .ok (.aload_n 0, 1) := by decide +kernel
theorem dX5_differ_32 : decode cX5_differ 32 = .ok (.getfield 22, 3) := by decide +kernel
theorem dX5_differ_35 : decode cX5_differ 35 = .ok (.aload_n 0, 1) := by decide +kernel
theorem dX5_differ_36 : decode cX5_differ 36 = .ok (.getfield 48, 3) := by decide +kernel
theorem dX5_differ_39 : decode cX5_differ 39 = .ok (.iload_n 1, 1) := by decide +kernel
theorem dX5_differ_40 : decode cX5_differ 40 = .ok (.iastore, 1) := by decide +kernel
theorem dX5_differ_41 : decode cX5_differ 41 = .ok (.aload_n 0, 1) := by decide +kernel
theorem dX5_differ_42 : decode cX5_differ 42 = .ok (.getfield 25, 3) := by decide +kernel
theorem dX5_differ_45 : decode cX5_differ 45 = .ok (.aload_n 0, 1) := by decide +kernel
theorem dX5_differ_46 : decode cX5_differ 46 = .ok (.getfield 48, 3) := by decide +kernel
theorem dX5_differ_49 : decode cX5_differ 49 = .ok (.iload_n 2, 1) := by decide +kernel
theorem dX5_differ_50 : decode cX5_differ 50 = .ok (.iastore, 1) := by decide +kernel
theorem dX5_differ_51 : decode cX5_differ 51 = .ok (.aload_n 0, 1) := by decide +kernel
theorem dX5_differ_52 : decode cX5_differ 52 = .ok (.dup, 1) := by decide +kernel
theorem dX5_differ_53 : decode cX5_differ 53 = .ok (.getfield 48, 3) := by decide +kernel
theorem dX5_differ_56 : decode cX5_differ 56 = .ok (.iconst 1, 1) := by decide +kernel
theorem dX5_differ_57 : decode cX5_differ 57 = .ok (.iadd, 1) := by decide +kernel
theorem dX5_differ_58 : decode cX5_differ 58 = .ok (.putfield 48, 3) := by decide +kernel
theorem dX5_differ_61 : decode cX5_differ 61 = .ok (.aload_n 0, 1) := by decide +kernel
theorem dX5_differ_62 : decode cX5_differ 62 = .ok (.getfield 48, 3) := by decide +kernel
theorem dX5_differ_65 : decode cX5_differ 65 = .ok (.iconst 1, 1) := by decide +kernel
theorem dX5_differ_66 : decode cX5_differ 66 = .ok (.isub, 1) := by decide +kernel
theorem dX5_differ_67 : decode cX5_differ 67 = .ok (.ireturn, 1) := by decide +kernel
theorem dX5_apart_0 : decode cX5_apart 0 = .ok (.iconst 0, 1) := by decide +kernel
theorem dX5_apart_1 : decode cX5_apart 1 = .ok (.istore_n 1, 1) := by decide +kernel
theorem dX5_apart_2 : decode cX5_apart 2 = .ok (.iload_n 1, 1) := by decide +kernel
theorem dX5_apart_3 : decode cX5_apart 3 = .ok (.aload_n 0, 1) := by decide +kernel
theorem dX5_apart_4 : decode cX5_apart 4 = .ok (.getfield 37, 3) := by decide +kernel
theorem dX5_apart_7 : decode cX5_apart 7 = .ok (.if_icmp .ge 16, 3) := by decide +kernel
theorem dX5_apart_10 : decode cX5_apart 10 = .ok (.aload_n 0, 1) := by decide +kernel
theorem dX5_apart_11 : decode cX5_apart 11 = .ok (.getfield 28, 3) := by decide +kernel
theorem dX5_apart_14 : decode cX5_apart 14 = .ok (.iload_n 1, 1) := by decide +kernel
theorem dX5_apart_15 : decode cX5_apart 15 = .ok (.iload_n 1, 1) := by decide +kernel
theorem dX5_apart_16 : decode cX5_apart 16 = .ok (.iastore, 1) := by decide +kernel
theorem dX5_apart_17 : decode cX5_apart 17 = .ok (.iinc 1 1, 3) := by decide +kernel
theorem dX5_apart_20 : decode cX5_apart 20 = .ok (.goto (-18), 3) := by decide +kernel
theorem dX5_apart_23 : decode cX5_apart 23 = .ok (.return_, 1) := by decide +kernel
theorem dX5_merge_0 : decode cX5_merge 0 = .ok (.aload_n 0, 1) := by decide +kernel
theorem dX5_merge_1 : decode cX5_merge 1 = .ok (.getfield 28, 3) := by decide +kernel
theorem dX5_merge_4 : decode cX5_merge 4 = .ok (.iload_n 1, 1) := by decide +kernel
theorem dX5_merge_5 : decode cX5_merge 5 = .ok (.iaload, 1) := by decide +kernel
theorem dX5_merge_6 : decode cX5_merge 6 = .ok (.istore_n 3, 1) := by decide +kernel
theorem dX5_merge_7 : decode cX5_merge 7 = .ok (.aload_n 0, 1) := by decide +kernel
theorem dX5_merge_8 : decode cX5_merge 8 = .ok (.getfield 28, 3) := by decide +kernel
theorem dX5_merge_11 : decode cX5_merge 11 = .ok (.iload_n 2, 1) := by decide +kernel
theorem dX5_merge_12 : decode cX5_merge 12 = .ok (.iaload, 1) := by decide +kernel
theorem dX5_merge_13 : decode cX5_merge 13 = .ok (.istore 4, 2) := by decide +kernel
theorem dX5_merge_15 : decode cX5_merge 15 = .ok (.iload_n 3, 1) := by decide +kernel
theorem dX5_merge_16 : decode cX5_merge 16 = .ok (.iload 4, 2) := by decide +kernel
theorem dX5_merge_18 : decode cX5_merge 18 = .ok (.if_icmp .ne 5, 3) := by decide +kernel
theorem dX5_merge_21 : decode cX5_merge 21 = .ok (.iconst 0, 1) := by decide +kernel
theorem dX5_merge_22 : decode cX5_merge 22 = .ok (.ireturn, 1) := by decide +kernel
theorem dX5_merge_23 : decode cX5_merge 23 = .ok (.iload_n 3, 1) := by decide +kernel
theorem dX5_merge_24 : decode cX5_merge 24 = .ok (.iload 4, 2) := by decide +kernel
theorem dX5_merge_26 : decode cX5_merge 26 = .ok (.if_icmp .ge 7, 3) := by decide +kernel
theorem dX5_merge_29 : decode cX5_merge 29 = .ok (.iload_n 3, 1) := by decide +kernel
theorem dX5_merge_30 : decode cX5_merge 30 = .ok (.goto 5, 3) := by decide +kernel
theorem dX5_merge_33 : decode cX5_merge 33 = .ok (.iload 4, 2) := by decide +kernel
theorem dX5_merge_35 : decode cX5_merge 35 = .ok (.istore 5, 2) := by decide +kernel
theorem dX5_merge_37 : decode cX5_merge 37 = .ok (.iload_n 3, 1) := by decide +kernel
theorem dX5_merge_38 : decode cX5_merge 38 = .ok (.iload 4, 2) := by decide +kernel
theorem dX5_merge_40 : decode cX5_merge 40 = .ok (.if_icmp .ge 8, 3) := by decide +kernel
theorem dX5_merge_43 : decode cX5_merge 43 = .ok (.iload 4, 2) := by decide +kernel
theorem dX5_merge_45 : decode cX5_merge 45 = .ok (.goto 4, 3) := by decide +kernel
theorem dX5_merge_48 : decode cX5_merge 48 = .ok (.iload_n 3, 1) := by decide +kernel
theorem dX5_merge_49 : decode cX5_merge 49 = .ok (.istore 6, 2) := by decide +kernel
theorem dX5_merge_51 : decode cX5_merge 51 = .ok (.iconst 0, 1) := by decide +kernel
theorem dX5_merge_52 : decode cX5_merge 52 = .ok (.istore 7, 2) := by decide +kernel
theorem dX5_merge_54 : decode cX5_merge 54 = .ok (.iload 7, 2) := by decide +kernel
theorem dX5_merge_56 : decode cX5_merge 56 = .ok (.aload_n 0, 1) := by decide +kernel
theorem dX5_merge_57 : decode cX5_merge 57 = .ok (.getfield 37, 3) := by decide +kernel
theorem dX5_merge_60 : decode cX5_merge 60 = .ok (.if_icmp .ge 40, 3) := by decide +kernel
theorem dX5_merge_63 : decode cX5_merge 63 = .ok (.aload_n 0, 1) := by decide +kernel
theorem dX5_merge_64 : decode cX5_merge 64 = .ok (.getfield 28, 3) := by decide +kernel
theorem dX5_merge_67 : decode cX5_merge 67 = .ok (.iload 7, 2) := by decide +kernel
theorem dX5_merge_69 : decode cX5_merge 69 = .ok (.aload_n 0, 1) := by decide +kernel
theorem dX5_merge_70 : decode cX5_merge 70 = .ok (.getfield 28, 3) := by decide +kernel
theorem dX5_merge_73 : decode cX5_merge 73 = .ok (.iload 7, 2) := by decide +kernel
theorem dX5_merge_75 : decode cX5_merge 75 = .ok (.iaload, 1) := by decide +kernel
theorem dX5_merge_76 : decode cX5_merge 76 = .ok (.iload 6, 2) := by decide +kernel
theorem dX5_merge_78 : decode cX5_merge 78 = .ok (.if_icmp .ne 8, 3) := by decide +kernel
theorem dX5_merge_81 : decode cX5_merge 81 = .ok (.iload 5, 2) := by decide +kernel
theorem dX5_merge_83 : decode cX5_merge 83 = .ok (.goto 10, 3) := by decide +kernel
theorem dX5_merge_86 : decode cX5_merge 86 = .ok (.aload_n 0, 1) := by decide +kernel
theorem dX5_merge_87 : decode cX5_merge 87 = .ok (.getfield 28, 3) := by decide +kernel
theorem dX5_merge_90 : decode cX5_merge 90 = .ok (.iload 7, 2) := by decide +kernel
theorem dX5_merge_92 : decode cX5_merge 92 = .ok (.iaload, 1) := by decide +kernel
theorem dX5_merge_93 : decode cX5_merge 93 = .ok (.iastore, 1) := by decide +kernel
theorem dX5_merge_94 : decode cX5_merge 94 = .ok (.iinc 7 1, 3) := by decide +kernel
theorem dX5_merge_97 : decode cX5_merge 97 = .ok (.goto (-43), 3) := by decide +kernel
theorem dX5_merge_100 : decode cX5_merge 100 = .ok (.iconst 1, 1) := by decide +kernel
theorem dX5_merge_101 : decode cX5_merge 101 = .ok (.ireturn, 1) := by decide +kernel
set_option maxRecDepth 20000 in
theorem ggX5_close_X5_merge : GoodIn wsX5_close wsX5_merge := goodIn_r _ [10, 3, 11, 12, 13, 14, 15, 16, 17, 18, 19, 20, 21, 22, 23, 24] (by decide +kernel) (by decide +kernel)
set_option maxRecDepth 20000 in
theorem gX5_close_X5_merge : GoodIn wsX5_close (wsV RX5 62 RX5 yX5_merge wsX5_merge) := goodIn_app (goodIn_of _ (by decide +kernel)) ggX5_close_X5_merge
theorem dX5_close_0 : decode cX5_close 0 = .ok (.iconst 1, 1) := by decide +kernel
theorem dX5_close_1 : decode cX5_close 1 = .ok (.istore_n 1, 1) := by decide +kernel
theorem dX5_close_2 : decode cX5_close 2 = .ok (.iload_n 1, 1) := by decide +kernel
theorem dX5_close_3 : decode cX5_close 3 = .ok (.ifCond .eq 143, 3) := by decide +kernel
theorem dX5_close_6 : decode cX5_close 6 = .ok (.iconst 0, 1) := by decide +kernel
theorem dX5_close_7 : decode cX5_close 7 = .ok (.istore_n 1, 1) := by decide +kernel
theorem dX5_close_8 : decode cX5_close 8 = .ok (.iconst 0, 1) := by decide +kernel
theorem dX5_close_9 : decode cX5_close 9 = .ok (.istore_n 2, 1) := by decide +kernel
theorem dX5_close_10 : decode cX5_close 10 = .ok (.iload_n 2, 1) := by decide +kernel
theorem dX5_close_11 : decode cX5_close 11 = .ok (.aload_n 0, 1) := by decide +kernel
theorem dX5_close_12 : decode cX5_close 12 = .ok (.getfield 51, 3) := by decide +kernel
theorem dX5_close_15 : decode cX5_close 15 = .ok (.if_icmp .ge 128, 3) := by decide +kernel
theorem dX5_close_18 : decode cX5_close 18 = .ok (.aload_n 0, 1) := by decide +kernel
theorem dX5_close_19 : decode cX5_close 19 = .ok (.getfield 34, 3) := by decide +kernel
theorem dX5_close_22 : decode cX5_close 22 = .ok (.iload_n 2, 1) := by decide +kernel
theorem dX5_close_23 : decode cX5_close 23 = .ok (.iaload, 1) := by decide +kernel
theorem dX5_close_24 : decode cX5_close 24 = .ok (.istore_n 3, 1) := by decide +kernel
theorem dX5_close_25 : decode cX5_close 25 = .ok (.iconst 0, 1) := by decide +kernel
theorem dX5_close_26 : decode cX5_close 26 = .ok (.istore 4, 2) := by decide +kernel
theorem dX5_close_28 : decode cX5_close 28 = .ok (.iload 4, 2) := by decide +kernel
theorem dX5_close_30 : decode cX5_close 30 = .ok (.iload_n 2, 1) := by decide +kernel
theorem dX5_close_31 : decode cX5_close 31 = .ok (.if_icmp .ge 106, 3) := by decide +kernel
theorem dX5_close_34 : decode cX5_close 34 = .ok (.aload_n 0, 1) := by decide +kernel
theorem dX5_close_35 : decode cX5_close 35 = .ok (.getfield 34, 3) := by decide +kernel
theorem dX5_close_38 : decode cX5_close 38 = .ok (.iload 4, 2) := by decide +kernel
theorem dX5_close_40 : decode cX5_close 40 = .ok (.iaload, 1) := by decide +kernel
theorem dX5_close_41 : decode cX5_close 41 = .ok (.istore 5, 2) := by decide +kernel
theorem dX5_close_43 : decode cX5_close 43 = .ok (.aload_n 0, 1) := by decide +kernel
theorem dX5_close_44 : decode cX5_close 44 = .ok (.getfield 28, 3) := by decide +kernel
theorem dX5_close_47 : decode cX5_close 47 = .ok (.iload_n 3, 1) := by decide +kernel
theorem dX5_close_48 : decode cX5_close 48 = .ok (.iaload, 1) := by decide +kernel
theorem dX5_close_49 : decode cX5_close 49 = .ok (.aload_n 0, 1) := by decide +kernel
theorem dX5_close_50 : decode cX5_close 50 = .ok (.getfield 28, 3) := by decide +kernel
theorem dX5_close_53 : decode cX5_close 53 = .ok (.iload 5, 2) := by decide +kernel
theorem dX5_close_55 : decode cX5_close 55 = .ok (.iaload, 1) := by decide +kernel
theorem dX5_close_56 : decode cX5_close 56 = .ok (.if_icmp .eq 75, 3) := by decide +kernel
theorem dX5_close_59 : decode cX5_close 59 = .ok (.aload_n 0, 1) := by decide +kernel
theorem dX5_close_60 : decode cX5_close 60 = .ok (.getfield 28, 3) := by decide +kernel
theorem dX5_close_63 : decode cX5_close 63 = .ok (.aload_n 0, 1) := by decide +kernel
theorem dX5_close_64 : decode cX5_close 64 = .ok (.getfield 7, 3) := by decide +kernel
theorem dX5_close_67 : decode cX5_close 67 = .ok (.iload_n 3, 1) := by decide +kernel
theorem dX5_close_68 : decode cX5_close 68 = .ok (.iaload, 1) := by decide +kernel
theorem dX5_close_69 : decode cX5_close 69 = .ok (.iaload, 1) := by decide +kernel
theorem dX5_close_70 : decode cX5_close 70 = .ok (.aload_n 0, 1) := by decide +kernel
theorem dX5_close_71 : decode cX5_close 71 = .ok (.getfield 28, 3) := by decide +kernel
theorem dX5_close_74 : decode cX5_close 74 = .ok (.aload_n 0, 1) := by decide +kernel
theorem dX5_close_75 : decode cX5_close 75 = .ok (.getfield 7, 3) := by decide +kernel
theorem dX5_close_78 : decode cX5_close 78 = .ok (.iload 5, 2) := by decide +kernel
theorem dX5_close_80 : decode cX5_close 80 = .ok (.iaload, 1) := by decide +kernel
theorem dX5_close_81 : decode cX5_close 81 = .ok (.iaload, 1) := by decide +kernel
theorem dX5_close_82 : decode cX5_close 82 = .ok (.if_icmp .ne 49, 3) := by decide +kernel
theorem dX5_close_85 : decode cX5_close 85 = .ok (.aload_n 0, 1) := by decide +kernel
theorem dX5_close_86 : decode cX5_close 86 = .ok (.getfield 28, 3) := by decide +kernel
theorem dX5_close_89 : decode cX5_close 89 = .ok (.aload_n 0, 1) := by decide +kernel
theorem dX5_close_90 : decode cX5_close 90 = .ok (.getfield 13, 3) := by decide +kernel
theorem dX5_close_93 : decode cX5_close 93 = .ok (.iload_n 3, 1) := by decide +kernel
theorem dX5_close_94 : decode cX5_close 94 = .ok (.iaload, 1) := by decide +kernel
theorem dX5_close_95 : decode cX5_close 95 = .ok (.iaload, 1) := by decide +kernel
theorem dX5_close_96 : decode cX5_close 96 = .ok (.aload_n 0, 1) := by decide +kernel
theorem dX5_close_97 : decode cX5_close 97 = .ok (.getfield 28, 3) := by decide +kernel
theorem dX5_close_100 : decode cX5_close 100 = .ok (.aload_n 0, 1) := by decide +kernel
theorem dX5_close_101 : decode cX5_close 101 = .ok (.getfield 13, 3) := by decide +kernel
theorem dX5_close_104 : decode cX5_close 104 = .ok (.iload 5, 2) := by decide +kernel
theorem dX5_close_106 : decode cX5_close 106 = .ok (.iaload, 1) := by decide +kernel
theorem dX5_close_107 : decode cX5_close 107 = .ok (.iaload, 1) := by decide +kernel
theorem dX5_close_108 : decode cX5_close 108 = .ok (.if_icmp .ne 23, 3) := by decide +kernel
theorem dX5_close_111 : decode cX5_close 111 = .ok (.aload_n 0, 1) := by decide +kernel
theorem dX5_close_112 : decode cX5_close 112 = .ok (.iload_n 3, 1) := by decide +kernel
theorem dX5_close_113 : decode cX5_close 113 = .ok (.iload 5, 2) := by decide +kernel
theorem dX5_close_115 : decode cX5_close 115 = .ok (.invokevirtual 62, 3) := by decide +kernel
theorem dX5_close_118 : decode cX5_close 118 = .ok (.ifCond .ne 7, 3) := by decide +kernel
theorem dX5_close_121 : decode cX5_close 121 = .ok (.iload_n 1, 1) := by decide +kernel
theorem dX5_close_122 : decode cX5_close 122 = .ok (.ifCond .eq 7, 3) := by decide +kernel
theorem dX5_close_125 : decode cX5_close 125 = .ok (.iconst 1, 1) := by decide +kernel
theorem dX5_close_126 : decode cX5_close 126 = .ok (.goto 4, 3) := by decide +kernel
theorem dX5_close_129 : decode cX5_close 129 = .ok (.iconst 0, 1) := by decide +kernel
theorem dX5_close_130 : decode cX5_close 130 = .ok (.istore_n 1, 1) := by decide +kernel
theorem dX5_close_131 : decode cX5_close 131 = .ok (.iinc 4 1, 3) := by decide +kernel
theorem dX5_close_134 : decode cX5_close 134 = .ok (.goto (-106), 3) := by decide +kernel
theorem dX5_close_137 : decode cX5_close 137 = .ok (.iinc 2 1, 3) := by decide +kernel
theorem dX5_close_140 : decode cX5_close 140 = .ok (.goto (-130), 3) := by decide +kernel
theorem dX5_close_143 : decode cX5_close 143 = .ok (.goto (-141), 3) := by decide +kernel
theorem dX5_close_146 : decode cX5_close 146 = .ok (.return_, 1) := by decide +kernel
set_option maxRecDepth 20000 in
theorem ggX5_closeBy_X5_apart : GoodIn wsX5_closeBy wsX5_apart := goodIn_r _ [9, 10, 4, 23, 24, 25, 26, 27, 28, 29, 30, 31, 32, 33, 34, 35] (by decide +kernel) (by decide +kernel)
set_option maxRecDepth 20000 in
theorem gX5_closeBy_X5_apart : GoodIn wsX5_closeBy (wsV RX5 66 RX5 yX5_apart wsX5_apart) := goodIn_app (goodIn_of _ (by decide +kernel)) ggX5_closeBy_X5_apart
set_option maxRecDepth 20000 in
theorem ggX5_closeBy_X5_merge : GoodIn wsX5_closeBy wsX5_merge := goodIn_r _ [14, 4, 10, 23, 24, 25, 26, 27, 28, 29, 30, 31, 32, 33, 34, 35] (by decide +kernel) (by decide +kernel)
set_option maxRecDepth 20000 in
theorem gX5_closeBy_X5_merge : GoodIn wsX5_closeBy (wsV RX5 62 RX5 yX5_merge wsX5_merge) := goodIn_app (goodIn_of _ (by decide +kernel)) ggX5_closeBy_X5_merge
set_option maxRecDepth 20000 in
theorem ggX5_closeBy_X5_close : GoodIn wsX5_closeBy wsX5_close := goodIn_r _ [18, 19, 20, 4, 21, 22, 11, 12, 13, 8, 14, 10, 23, 24, 25, 26, 27, 28, 29, 30, 31, 32, 33, 34, 35] (by decide +kernel) (by decide +kernel)
set_option maxRecDepth 20000 in
theorem gX5_closeBy_X5_close : GoodIn wsX5_closeBy (wsV RX5 69 RX5 yX5_close wsX5_close) := goodIn_app (goodIn_of _ (by decide +kernel)) ggX5_closeBy_X5_close
theorem dX5_closeBy_0 : decode cX5_closeBy 0 = .ok (.aload_n 0, 1) := by decide +kernel
theorem dX5_closeBy_1 : decode cX5_closeBy 1 = .ok (.invokevirtual 66, 3) := by decide +kernel
theorem dX5_closeBy_4 : decode cX5_closeBy 4 = .ok (.iconst 0, 1) := by decide +kernel
theorem dX5_closeBy_5 : decode cX5_closeBy 5 = .ok (.istore_n 3, 1) := by decide +kernel
theorem dX5_closeBy_6 : decode cX5_closeBy 6 = .ok (.iload_n 3, 1) := by decide +kernel
theorem dX5_closeBy_7 : decode cX5_closeBy 7 = .ok (.aload_n 0, 1) := by decide +kernel
theorem dX5_closeBy_8 : decode cX5_closeBy 8 = .ok (.getfield 45, 3) := by decide +kernel
theorem dX5_closeBy_11 : decode cX5_closeBy 11 = .ok (.if_icmp .ge 78, 3) := by decide +kernel
theorem dX5_closeBy_14 : decode cX5_closeBy 14 = .ok (.lload_n 1, 1) := by decide +kernel
theorem dX5_closeBy_15 : decode cX5_closeBy 15 = .ok (.iload_n 3, 1) := by decide +kernel
theorem dX5_closeBy_16 : decode cX5_closeBy 16 = .ok (.lshr, 1) := by decide +kernel
theorem dX5_closeBy_17 : decode cX5_closeBy 17 = .ok (.lconst 1, 1) := by decide +kernel
theorem dX5_closeBy_18 : decode cX5_closeBy 18 = .ok (.land, 1) := by decide +kernel
theorem dX5_closeBy_19 : decode cX5_closeBy 19 = .ok (.lconst 1, 1) := by decide +kernel
theorem dX5_closeBy_20 : decode cX5_closeBy 20 = .ok (.lcmp, 1) := by decide +kernel
theorem dX5_closeBy_21 : decode cX5_closeBy 21 = .ok (.ifCond .ne 62, 3) := by decide +kernel
theorem dX5_closeBy_24 : decode cX5_closeBy 24 = .ok (.aload_n 0, 1) := by decide +kernel
theorem dX5_closeBy_25 : decode cX5_closeBy 25 = .ok (.aload_n 0, 1) := by decide +kernel
theorem dX5_closeBy_26 : decode cX5_closeBy 26 = .ok (.getfield 16, 3) := by decide +kernel
theorem dX5_closeBy_29 : decode cX5_closeBy 29 = .ok (.iload_n 3, 1) := by decide +kernel
theorem dX5_closeBy_30 : decode cX5_closeBy 30 = .ok (.iaload, 1) := by decide +kernel
theorem dX5_closeBy_31 : decode cX5_closeBy 31 = .ok (.aload_n 0, 1) := by decide +kernel
theorem dX5_closeBy_32 : decode cX5_closeBy 32 = .ok (.getfield 19, 3) := by decide +kernel
theorem dX5_closeBy_35 : decode cX5_closeBy 35 = .ok (.iload_n 3, 1) := by decide +kernel
theorem dX5_closeBy_36 : decode cX5_closeBy 36 = .ok (.iaload, 1) := by decide +kernel
theorem dX5_closeBy_37 : decode cX5_closeBy 37 = .ok (.invokevirtual 62, 3) := by decide +kernel
theorem dX5_closeBy_40 : decode cX5_closeBy 40 = .ok (.istore 4, 2) := by decide +kernel
theorem dX5_closeBy_42 : decode cX5_closeBy 42 = .ok (.aload_n 0, 1) := by decide +kernel
theorem dX5_closeBy_43 : decode cX5_closeBy 43 = .ok (.getfield 28, 3) := by decide +kernel
theorem dX5_closeBy_46 : decode cX5_closeBy 46 = .ok (.aload_n 0, 1) := by decide +kernel
theorem dX5_closeBy_47 : decode cX5_closeBy 47 = .ok (.getfield 16, 3) := by decide +kernel
theorem dX5_closeBy_50 : decode cX5_closeBy 50 = .ok (.iload_n 3, 1) := by decide +kernel
theorem dX5_closeBy_51 : decode cX5_closeBy 51 = .ok (.iaload, 1) := by decide +kernel
theorem dX5_closeBy_52 : decode cX5_closeBy 52 = .ok (.iload 4, 2) := by decide +kernel
theorem dX5_closeBy_54 : decode cX5_closeBy 54 = .ok (.ifCond .eq 17, 3) := by decide +kernel
theorem dX5_closeBy_57 : decode cX5_closeBy 57 = .ok (.aload_n 0, 1) := by decide +kernel
theorem dX5_closeBy_58 : decode cX5_closeBy 58 = .ok (.getfield 28, 3) := by decide +kernel
theorem dX5_closeBy_61 : decode cX5_closeBy 61 = .ok (.aload_n 0, 1) := by decide +kernel
theorem dX5_closeBy_62 : decode cX5_closeBy 62 = .ok (.getfield 16, 3) := by decide +kernel
theorem dX5_closeBy_65 : decode cX5_closeBy 65 = .ok (.iload_n 3, 1) := by decide +kernel
theorem dX5_closeBy_66 : decode cX5_closeBy 66 = .ok (.iaload, 1) := by decide +kernel
theorem dX5_closeBy_67 : decode cX5_closeBy 67 = .ok (.iaload, 1) := by decide +kernel
theorem dX5_closeBy_68 : decode cX5_closeBy 68 = .ok (.goto 14, 3) := by decide +kernel
theorem dX5_closeBy_71 : decode cX5_closeBy 71 = .ok (.aload_n 0, 1) := by decide +kernel
theorem dX5_closeBy_72 : decode cX5_closeBy 72 = .ok (.getfield 28, 3) := by decide +kernel
theorem dX5_closeBy_75 : decode cX5_closeBy 75 = .ok (.aload_n 0, 1) := by decide +kernel
theorem dX5_closeBy_76 : decode cX5_closeBy 76 = .ok (.getfield 19, 3) := by decide +kernel
theorem dX5_closeBy_79 : decode cX5_closeBy 79 = .ok (.iload_n 3, 1) := by decide +kernel
theorem dX5_closeBy_80 : decode cX5_closeBy 80 = .ok (.iaload, 1) := by decide +kernel
theorem dX5_closeBy_81 : decode cX5_closeBy 81 = .ok (.iaload, 1) := by decide +kernel
theorem dX5_closeBy_82 : decode cX5_closeBy 82 = .ok (.iastore, 1) := by decide +kernel
theorem dX5_closeBy_83 : decode cX5_closeBy 83 = .ok (.iinc 3 1, 3) := by decide +kernel
theorem dX5_closeBy_86 : decode cX5_closeBy 86 = .ok (.goto (-80), 3) := by decide +kernel
theorem dX5_closeBy_89 : decode cX5_closeBy 89 = .ok (.aload_n 0, 1) := by decide +kernel
theorem dX5_closeBy_90 : decode cX5_closeBy 90 = .ok (.invokevirtual 69, 3) := by decide +kernel
theorem dX5_closeBy_93 : decode cX5_closeBy 93 = .ok (.return_, 1) := by decide +kernel
theorem dX5_all_0 : decode cX5_all 0 = .ok (.lconst 1, 1) := by decide +kernel
theorem dX5_all_1 : decode cX5_all 1 = .ok (.aload_n 0, 1) := by decide +kernel
theorem dX5_all_2 : decode cX5_all 2 = .ok (.getfield 45, 3) := by decide +kernel
theorem dX5_all_5 : decode cX5_all 5 = .ok (.lshl, 1) := by decide +kernel
theorem dX5_all_6 : decode cX5_all 6 = .ok (.lconst 1, 1) := by decide +kernel
theorem dX5_all_7 : decode cX5_all 7 = .ok (.lsub, 1) := by decide +kernel
theorem dX5_all_8 : decode cX5_all 8 = .ok (.lreturn, 1) := by decide +kernel
set_option maxRecDepth 20000 in
theorem ggX5_areSame_X5_all : GoodIn wsX5_areSame wsX5_all := goodIn_r _ [6, 7, 31, 32, 33, 34, 35, 36, 37, 38, 39, 40, 41, 42, 43] (by decide +kernel) (by decide +kernel)
set_option maxRecDepth 20000 in
theorem gX5_areSame_X5_all : GoodIn wsX5_areSame (wsV RX5 72 RX5 yX5_all wsX5_all) := goodIn_app (goodIn_of _ (by decide +kernel)) ggX5_areSame_X5_all
set_option maxRecDepth 20000 in
theorem ggX5_areSame_X5_closeBy : GoodIn wsX5_areSame wsX5_closeBy := goodIn_r _ [11, 7, 12, 13, 1, 14, 15, 16, 5, 17, 18, 19, 20, 21, 22, 23, 24, 25, 26, 27, 28, 29, 30, 31, 32, 33, 34, 35, 36, 37, 38, 39, 40, 41, 42, 43] (by decide +kernel) (by decide +kernel)
set_option maxRecDepth 20000 in
theorem gX5_areSame_X5_closeBy : GoodIn wsX5_areSame (wsV RX5 76 RX5 yX5_closeBy wsX5_closeBy) := goodIn_app (goodIn_of _ (by decide +kernel)) ggX5_areSame_X5_closeBy
theorem dX5_areSame_0 : decode cX5_areSame 0 = .ok (.aload_n 0, 1) := by decide +kernel
theorem dX5_areSame_1 : decode cX5_areSame 1 = .ok (.aload_n 0, 1) := by decide +kernel
theorem dX5_areSame_2 : decode cX5_areSame 2 = .ok (.invokevirtual 72, 3) := by decide +kernel
theorem dX5_areSame_5 : decode cX5_areSame 5 = .ok (.invokevirtual 76, 3) := by decide +kernel
theorem dX5_areSame_8 : decode cX5_areSame 8 = .ok (.aload_n 0, 1) := by decide +kernel
theorem dX5_areSame_9 : decode cX5_areSame 9 = .ok (.getfield 28, 3) := by decide +kernel
theorem dX5_areSame_12 : decode cX5_areSame 12 = .ok (.iload_n 1, 1) := by decide +kernel
theorem dX5_areSame_13 : decode cX5_areSame 13 = .ok (.iaload, 1) := by decide +kernel
theorem dX5_areSame_14 : decode cX5_areSame 14 = .ok (.aload_n 0, 1) := by decide +kernel
theorem dX5_areSame_15 : decode cX5_areSame 15 = .ok (.getfield 28, 3) := by decide +kernel
theorem dX5_areSame_18 : decode cX5_areSame 18 = .ok (.iload_n 2, 1) := by decide +kernel
theorem dX5_areSame_19 : decode cX5_areSame 19 = .ok (.iaload, 1) := by decide +kernel
theorem dX5_areSame_20 : decode cX5_areSame 20 = .ok (.if_icmp .ne 7, 3) := by decide +kernel
theorem dX5_areSame_23 : decode cX5_areSame 23 = .ok (.iconst 1, 1) := by decide +kernel
theorem dX5_areSame_24 : decode cX5_areSame 24 = .ok (.goto 4, 3) := by decide +kernel
theorem dX5_areSame_27 : decode cX5_areSame 27 = .ok (.iconst 0, 1) := by decide +kernel
theorem dX5_areSame_28 : decode cX5_areSame 28 = .ok (.ireturn, 1) := by decide +kernel
set_option maxRecDepth 20000 in
theorem ggX5_clash_X5_all : GoodIn wsX5_clash wsX5_all := goodIn_r _ [9, 10, 34, 35, 36, 37, 38, 39, 40, 41, 42, 43, 44, 45, 46] (by decide +kernel) (by decide +kernel)
set_option maxRecDepth 20000 in
theorem gX5_clash_X5_all : GoodIn wsX5_clash (wsV RX5 72 RX5 yX5_all wsX5_all) := goodIn_app (goodIn_of _ (by decide +kernel)) ggX5_clash_X5_all
set_option maxRecDepth 20000 in
theorem ggX5_clash_X5_closeBy : GoodIn wsX5_clash wsX5_closeBy := goodIn_r _ [14, 10, 15, 16, 2, 17, 18, 19, 8, 20, 21, 22, 23, 24, 25, 26, 27, 28, 29, 30, 31, 32, 33, 34, 35, 36, 37, 38, 39, 40, 41, 42, 43, 44, 45, 46] (by decide +kernel) (by decide +kernel)
set_option maxRecDepth 20000 in
theorem gX5_clash_X5_closeBy : GoodIn wsX5_clash (wsV RX5 76 RX5 yX5_closeBy wsX5_closeBy) := goodIn_app (goodIn_of _ (by decide +kernel)) ggX5_clash_X5_closeBy
theorem dX5_clash_0 : decode cX5_clash 0 = .ok (.aload_n 0, 1) := by decide +kernel
theorem dX5_clash_1 : decode cX5_clash 1 = .ok (.aload_n 0, 1) := by decide +kernel
theorem dX5_clash_2 : decode cX5_clash 2 = .ok (.invokevirtual 72, 3) := by decide +kernel
theorem dX5_clash_5 : decode cX5_clash 5 = .ok (.invokevirtual 76, 3) := by decide +kernel
theorem dX5_clash_8 : decode cX5_clash 8 = .ok (.iconst 0, 1) := by decide +kernel
theorem dX5_clash_9 : decode cX5_clash 9 = .ok (.istore_n 1, 1) := by decide +kernel
theorem dX5_clash_10 : decode cX5_clash 10 = .ok (.iload_n 1, 1) := by decide +kernel
theorem dX5_clash_11 : decode cX5_clash 11 = .ok (.aload_n 0, 1) := by decide +kernel
theorem dX5_clash_12 : decode cX5_clash 12 = .ok (.getfield 48, 3) := by decide +kernel
theorem dX5_clash_15 : decode cX5_clash 15 = .ok (.if_icmp .ge 36, 3) := by decide +kernel
theorem dX5_clash_18 : decode cX5_clash 18 = .ok (.aload_n 0, 1) := by decide +kernel
theorem dX5_clash_19 : decode cX5_clash 19 = .ok (.getfield 28, 3) := by decide +kernel
theorem dX5_clash_22 : decode cX5_clash 22 = .ok (.aload_n 0, 1) := by decide +kernel
theorem dX5_clash_23 : decode cX5_clash 23 = .ok (.getfield 22, 3) := by decide +kernel
theorem dX5_clash_26 : decode cX5_clash 26 = .ok (.iload_n 1, 1) := by decide +kernel
theorem dX5_clash_27 : decode cX5_clash 27 = .ok (.iaload, 1) := by decide +kernel
theorem dX5_clash_28 : decode cX5_clash 28 = .ok (.iaload, 1) := by decide +kernel
theorem dX5_clash_29 : decode cX5_clash 29 = .ok (.aload_n 0, 1) := by decide +kernel
theorem dX5_clash_30 : decode cX5_clash 30 = .ok (.getfield 28, 3) := by decide +kernel
theorem dX5_clash_33 : decode cX5_clash 33 = .ok (.aload_n 0, 1) := by decide +kernel
theorem dX5_clash_34 : decode cX5_clash 34 = .ok (.getfield 25, 3) := by decide +kernel
theorem dX5_clash_37 : decode cX5_clash 37 = .ok (.iload_n 1, 1) := by decide +kernel
theorem dX5_clash_38 : decode cX5_clash 38 = .ok (.iaload, 1) := by decide +kernel
theorem dX5_clash_39 : decode cX5_clash 39 = .ok (.iaload, 1) := by decide +kernel
theorem dX5_clash_40 : decode cX5_clash 40 = .ok (.if_icmp .ne 5, 3) := by decide +kernel
theorem dX5_clash_43 : decode cX5_clash 43 = .ok (.iload_n 1, 1) := by decide +kernel
theorem dX5_clash_44 : decode cX5_clash 44 = .ok (.ireturn, 1) := by decide +kernel
theorem dX5_clash_45 : decode cX5_clash 45 = .ok (.iinc 1 1, 3) := by decide +kernel
theorem dX5_clash_48 : decode cX5_clash 48 = .ok (.goto (-38), 3) := by decide +kernel
theorem dX5_clash_51 : decode cX5_clash 51 = .ok (.iconst (-1), 1) := by decide +kernel
theorem dX5_clash_52 : decode cX5_clash 52 = .ok (.ireturn, 1) := by decide +kernel
set_option maxRecDepth 20000 in
theorem ggX5_same_X5_isTerm : GoodIn wsX5_same wsX5_isTerm := goodIn_r _ [5, 6, 7, 8, 4, 9, 42, 43, 44, 45, 46, 47, 48, 49, 50, 51, 52, 53, 54] (by decide +kernel) (by decide +kernel)
set_option maxRecDepth 20000 in
theorem gX5_same_X5_isTerm : GoodIn wsX5_same (wsV RX5 58 RX5 yX5_isTerm wsX5_isTerm) := goodIn_app (goodIn_of _ (by decide +kernel)) ggX5_same_X5_isTerm
set_option maxRecDepth 20000 in
theorem ggX5_same_X5_areSame : GoodIn wsX5_same wsX5_areSame := goodIn_r _ [13, 14, 15, 16, 17, 4, 18, 19, 20, 21, 22, 23, 24, 25, 26, 27, 28, 29, 6, 30, 31, 32, 33, 34, 35, 36, 37, 38, 39, 40, 41, 42, 43, 44, 45, 46, 47, 48, 49, 50, 51, 52, 53, 54] (by decide +kernel) (by decide +kernel)
set_option maxRecDepth 20000 in
theorem gX5_same_X5_areSame : GoodIn wsX5_same (wsV RX5 80 RX5 yX5_areSame wsX5_areSame) := goodIn_app (goodIn_of _ (by decide +kernel)) ggX5_same_X5_areSame
theorem dX5_same_0 : decode cX5_same 0 = .ok (.aload_n 0, 1) := by decide +kernel
theorem dX5_same_1 : decode cX5_same 1 = .ok (.iload_n 1, 1) := by decide +kernel
theorem dX5_same_2 : decode cX5_same 2 = .ok (.invokevirtual 58, 3) := by decide +kernel
theorem dX5_same_5 : decode cX5_same 5 = .ok (.ifCond .eq 11, 3) := by decide +kernel
theorem dX5_same_8 : decode cX5_same 8 = .ok (.aload_n 0, 1) := by decide +kernel
theorem dX5_same_9 : decode cX5_same 9 = .ok (.iload_n 2, 1) := by decide +kernel
theorem dX5_same_10 : decode cX5_same 10 = .ok (.invokevirtual 58, 3) := by decide +kernel
theorem dX5_same_13 : decode cX5_same 13 = .ok (.ifCond .ne 6, 3) := by decide +kernel
theorem dX5_same_16 : decode cX5_same 16 = .ok (.bipush (-2), 2) := by decide +kernel
theorem dX5_same_18 : decode cX5_same 18 = .ok (.ireturn, 1) := by decide +kernel
theorem dX5_same_19 : decode cX5_same 19 = .ok (.aload_n 0, 1) := by decide +kernel
theorem dX5_same_20 : decode cX5_same 20 = .ok (.iload_n 1, 1) := by decide +kernel
theorem dX5_same_21 : decode cX5_same 21 = .ok (.iload_n 2, 1) := by decide +kernel
theorem dX5_same_22 : decode cX5_same 22 = .ok (.invokevirtual 80, 3) := by decide +kernel
theorem dX5_same_25 : decode cX5_same 25 = .ok (.ifCond .eq 7, 3) := by decide +kernel
theorem dX5_same_28 : decode cX5_same 28 = .ok (.iconst 1, 1) := by decide +kernel
theorem dX5_same_29 : decode cX5_same 29 = .ok (.goto 4, 3) := by decide +kernel
theorem dX5_same_32 : decode cX5_same 32 = .ok (.iconst 0, 1) := by decide +kernel
theorem dX5_same_33 : decode cX5_same 33 = .ok (.ireturn, 1) := by decide +kernel
set_option maxRecDepth 20000 in
theorem ggX5_least_X5_isTerm : GoodIn wsX5_least wsX5_isTerm := goodIn_r _ [6, 7, 8, 9, 5, 10, 38, 39, 40, 41, 42, 43, 44, 45, 46, 47, 48, 49, 50] (by decide +kernel) (by decide +kernel)
set_option maxRecDepth 20000 in
theorem gX5_least_X5_isTerm : GoodIn wsX5_least (wsV RX5 58 RX5 yX5_isTerm wsX5_isTerm) := goodIn_app (goodIn_of _ (by decide +kernel)) ggX5_least_X5_isTerm
set_option maxRecDepth 20000 in
theorem ggX5_least_X5_all : GoodIn wsX5_least wsX5_all := goodIn_r _ [14, 15, 38, 39, 40, 41, 42, 43, 44, 45, 46, 47, 48, 49, 50] (by decide +kernel) (by decide +kernel)
set_option maxRecDepth 20000 in
theorem gX5_least_X5_all : GoodIn wsX5_least (wsV RX5 72 RX5 yX5_all wsX5_all) := goodIn_app (goodIn_of _ (by decide +kernel)) ggX5_least_X5_all
set_option maxRecDepth 20000 in
theorem ggX5_least_X5_closeBy : GoodIn wsX5_least wsX5_closeBy := goodIn_r _ [19, 15, 20, 21, 1, 22, 23, 24, 5, 25, 7, 26, 27, 28, 29, 30, 31, 32, 33, 34, 35, 36, 37, 38, 39, 40, 41, 42, 43, 44, 45, 46, 47, 48, 49, 50] (by decide +kernel) (by decide +kernel)
set_option maxRecDepth 20000 in
theorem gX5_least_X5_closeBy : GoodIn wsX5_least (wsV RX5 76 RX5 yX5_closeBy wsX5_closeBy) := goodIn_app (goodIn_of _ (by decide +kernel)) ggX5_least_X5_closeBy
theorem dX5_least_0 : decode cX5_least 0 = .ok (.aload_n 0, 1) := by decide +kernel
theorem dX5_least_1 : decode cX5_least 1 = .ok (.iload_n 1, 1) := by decide +kernel
theorem dX5_least_2 : decode cX5_least 2 = .ok (.invokevirtual 58, 3) := by decide +kernel
theorem dX5_least_5 : decode cX5_least 5 = .ok (.ifCond .ne 6, 3) := by decide +kernel
theorem dX5_least_8 : decode cX5_least 8 = .ok (.bipush (-2), 2) := by decide +kernel
theorem dX5_least_10 : decode cX5_least 10 = .ok (.ireturn, 1) := by decide +kernel
theorem dX5_least_11 : decode cX5_least 11 = .ok (.aload_n 0, 1) := by decide +kernel
theorem dX5_least_12 : decode cX5_least 12 = .ok (.aload_n 0, 1) := by decide +kernel
theorem dX5_least_13 : decode cX5_least 13 = .ok (.invokevirtual 72, 3) := by decide +kernel
theorem dX5_least_16 : decode cX5_least 16 = .ok (.invokevirtual 76, 3) := by decide +kernel
theorem dX5_least_19 : decode cX5_least 19 = .ok (.aload_n 0, 1) := by decide +kernel
theorem dX5_least_20 : decode cX5_least 20 = .ok (.getfield 28, 3) := by decide +kernel
theorem dX5_least_23 : decode cX5_least 23 = .ok (.iload_n 1, 1) := by decide +kernel
theorem dX5_least_24 : decode cX5_least 24 = .ok (.iaload, 1) := by decide +kernel
theorem dX5_least_25 : decode cX5_least 25 = .ok (.ireturn, 1) := by decide +kernel
set_option maxRecDepth 20000 in
theorem ggX5_size_X5_isTerm : GoodIn wsX5_size wsX5_isTerm := goodIn_r _ [7, 1, 8, 9, 6, 10, 38, 39, 40, 41, 42, 43, 44, 45, 46, 47, 48, 49, 50] (by decide +kernel) (by decide +kernel)
set_option maxRecDepth 20000 in
theorem gX5_size_X5_isTerm : GoodIn wsX5_size (wsV RX5 58 RX5 yX5_isTerm wsX5_isTerm) := goodIn_app (goodIn_of _ (by decide +kernel)) ggX5_size_X5_isTerm
set_option maxRecDepth 20000 in
theorem ggX5_size_X5_all : GoodIn wsX5_size wsX5_all := goodIn_r _ [14, 15, 38, 39, 40, 41, 42, 43, 44, 45, 46, 47, 48, 49, 50] (by decide +kernel) (by decide +kernel)
set_option maxRecDepth 20000 in
theorem gX5_size_X5_all : GoodIn wsX5_size (wsV RX5 72 RX5 yX5_all wsX5_all) := goodIn_app (goodIn_of _ (by decide +kernel)) ggX5_size_X5_all
set_option maxRecDepth 20000 in
theorem ggX5_size_X5_closeBy : GoodIn wsX5_size wsX5_closeBy := goodIn_r _ [19, 15, 20, 21, 2, 22, 23, 24, 6, 25, 1, 26, 27, 28, 29, 30, 31, 32, 33, 34, 35, 36, 37, 38, 39, 40, 41, 42, 43, 44, 45, 46, 47, 48, 49, 50] (by decide +kernel) (by decide +kernel)
set_option maxRecDepth 20000 in
theorem gX5_size_X5_closeBy : GoodIn wsX5_size (wsV RX5 76 RX5 yX5_closeBy wsX5_closeBy) := goodIn_app (goodIn_of _ (by decide +kernel)) ggX5_size_X5_closeBy
theorem dX5_size_0 : decode cX5_size 0 = .ok (.aload_n 0, 1) := by decide +kernel
theorem dX5_size_1 : decode cX5_size 1 = .ok (.iload_n 1, 1) := by decide +kernel
theorem dX5_size_2 : decode cX5_size 2 = .ok (.invokevirtual 58, 3) := by decide +kernel
theorem dX5_size_5 : decode cX5_size 5 = .ok (.ifCond .ne 6, 3) := by decide +kernel
theorem dX5_size_8 : decode cX5_size 8 = .ok (.bipush (-2), 2) := by decide +kernel
theorem dX5_size_10 : decode cX5_size 10 = .ok (.ireturn, 1) := by decide +kernel
theorem dX5_size_11 : decode cX5_size 11 = .ok (.aload_n 0, 1) := by decide +kernel
theorem dX5_size_12 : decode cX5_size 12 = .ok (.aload_n 0, 1) := by decide +kernel
theorem dX5_size_13 : decode cX5_size 13 = .ok (.invokevirtual 72, 3) := by decide +kernel
theorem dX5_size_16 : decode cX5_size 16 = .ok (.invokevirtual 76, 3) := by decide +kernel
theorem dX5_size_19 : decode cX5_size 19 = .ok (.iconst 0, 1) := by decide +kernel
theorem dX5_size_20 : decode cX5_size 20 = .ok (.istore_n 2, 1) := by decide +kernel
theorem dX5_size_21 : decode cX5_size 21 = .ok (.iconst 0, 1) := by decide +kernel
theorem dX5_size_22 : decode cX5_size 22 = .ok (.istore_n 3, 1) := by decide +kernel
theorem dX5_size_23 : decode cX5_size 23 = .ok (.iload_n 3, 1) := by decide +kernel
theorem dX5_size_24 : decode cX5_size 24 = .ok (.aload_n 0, 1) := by decide +kernel
theorem dX5_size_25 : decode cX5_size 25 = .ok (.getfield 37, 3) := by decide +kernel
theorem dX5_size_28 : decode cX5_size 28 = .ok (.if_icmp .ge 32, 3) := by decide +kernel
theorem dX5_size_31 : decode cX5_size 31 = .ok (.aload_n 0, 1) := by decide +kernel
theorem dX5_size_32 : decode cX5_size 32 = .ok (.getfield 28, 3) := by decide +kernel
theorem dX5_size_35 : decode cX5_size 35 = .ok (.iload_n 3, 1) := by decide +kernel
theorem dX5_size_36 : decode cX5_size 36 = .ok (.iaload, 1) := by decide +kernel
theorem dX5_size_37 : decode cX5_size 37 = .ok (.aload_n 0, 1) := by decide +kernel
theorem dX5_size_38 : decode cX5_size 38 = .ok (.getfield 28, 3) := by decide +kernel
theorem dX5_size_41 : decode cX5_size 41 = .ok (.iload_n 1, 1) := by decide +kernel
theorem dX5_size_42 : decode cX5_size 42 = .ok (.iaload, 1) := by decide +kernel
theorem dX5_size_43 : decode cX5_size 43 = .ok (.if_icmp .ne 9, 3) := by decide +kernel
theorem dX5_size_46 : decode cX5_size 46 = .ok (.iload_n 2, 1) := by decide +kernel
theorem dX5_size_47 : decode cX5_size 47 = .ok (.iconst 1, 1) := by decide +kernel
theorem dX5_size_48 : decode cX5_size 48 = .ok (.iadd, 1) := by decide +kernel
theorem dX5_size_49 : decode cX5_size 49 = .ok (.goto 4, 3) := by decide +kernel
theorem dX5_size_52 : decode cX5_size 52 = .ok (.iload_n 2, 1) := by decide +kernel
theorem dX5_size_53 : decode cX5_size 53 = .ok (.istore_n 2, 1) := by decide +kernel
theorem dX5_size_54 : decode cX5_size 54 = .ok (.iinc 3 1, 3) := by decide +kernel
theorem dX5_size_57 : decode cX5_size 57 = .ok (.goto (-34), 3) := by decide +kernel
theorem dX5_size_60 : decode cX5_size 60 = .ok (.iload_n 2, 1) := by decide +kernel
theorem dX5_size_61 : decode cX5_size 61 = .ok (.ireturn, 1) := by decide +kernel
set_option maxRecDepth 20000 in
theorem ggX5_since_X5_isTerm : GoodIn wsX5_since wsX5_isTerm := goodIn_r _ [7, 8, 9, 10, 6, 11, 34, 35, 36, 37, 38, 39, 40, 41, 42, 43, 44, 45, 46] (by decide +kernel) (by decide +kernel)
set_option maxRecDepth 20000 in
theorem gX5_since_X5_isTerm : GoodIn wsX5_since (wsV RX5 58 RX5 yX5_isTerm wsX5_isTerm) := goodIn_app (goodIn_of _ (by decide +kernel)) ggX5_since_X5_isTerm
set_option maxRecDepth 20000 in
theorem ggX5_since_X5_closeBy : GoodIn wsX5_since wsX5_closeBy := goodIn_r _ [15, 1, 16, 17, 2, 18, 19, 20, 6, 21, 8, 22, 23, 24, 25, 26, 27, 28, 29, 30, 31, 32, 33, 34, 35, 36, 37, 38, 39, 40, 41, 42, 43, 44, 45, 46] (by decide +kernel) (by decide +kernel)
set_option maxRecDepth 20000 in
theorem gX5_since_X5_closeBy : GoodIn wsX5_since (wsV RX5 76 RX5 yX5_closeBy wsX5_closeBy) := goodIn_app (goodIn_of _ (by decide +kernel)) ggX5_since_X5_closeBy
theorem dX5_since_0 : decode cX5_since 0 = .ok (.aload_n 0, 1) := by decide +kernel
theorem dX5_since_1 : decode cX5_since 1 = .ok (.iload_n 1, 1) := by decide +kernel
theorem dX5_since_2 : decode cX5_since 2 = .ok (.invokevirtual 58, 3) := by decide +kernel
theorem dX5_since_5 : decode cX5_since 5 = .ok (.ifCond .eq 11, 3) := by decide +kernel
theorem dX5_since_8 : decode cX5_since 8 = .ok (.aload_n 0, 1) := by decide +kernel
theorem dX5_since_9 : decode cX5_since 9 = .ok (.iload_n 2, 1) := by decide +kernel
theorem dX5_since_10 : decode cX5_since 10 = .ok (.invokevirtual 58, 3) := by decide +kernel
theorem dX5_since_13 : decode cX5_since 13 = .ok (.ifCond .ne 6, 3) := by decide +kernel
theorem dX5_since_16 : decode cX5_since 16 = .ok (.bipush (-2), 2) := by decide +kernel
theorem dX5_since_18 : decode cX5_since 18 = .ok (.ireturn, 1) := by decide +kernel
theorem dX5_since_19 : decode cX5_since 19 = .ok (.iconst 0, 1) := by decide +kernel
theorem dX5_since_20 : decode cX5_since 20 = .ok (.istore_n 3, 1) := by decide +kernel
theorem dX5_since_21 : decode cX5_since 21 = .ok (.iload_n 3, 1) := by decide +kernel
theorem dX5_since_22 : decode cX5_since 22 = .ok (.aload_n 0, 1) := by decide +kernel
theorem dX5_since_23 : decode cX5_since 23 = .ok (.getfield 45, 3) := by decide +kernel
theorem dX5_since_26 : decode cX5_since 26 = .ok (.if_icmp .gt 35, 3) := by decide +kernel
theorem dX5_since_29 : decode cX5_since 29 = .ok (.aload_n 0, 1) := by decide +kernel
theorem dX5_since_30 : decode cX5_since 30 = .ok (.lconst 1, 1) := by decide +kernel
theorem dX5_since_31 : decode cX5_since 31 = .ok (.iload_n 3, 1) := by decide +kernel
theorem dX5_since_32 : decode cX5_since 32 = .ok (.lshl, 1) := by decide +kernel
theorem dX5_since_33 : decode cX5_since 33 = .ok (.lconst 1, 1) := by decide +kernel
theorem dX5_since_34 : decode cX5_since 34 = .ok (.lsub, 1) := by decide +kernel
theorem dX5_since_35 : decode cX5_since 35 = .ok (.invokevirtual 76, 3) := by decide +kernel
theorem dX5_since_38 : decode cX5_since 38 = .ok (.aload_n 0, 1) := by decide +kernel
theorem dX5_since_39 : decode cX5_since 39 = .ok (.getfield 28, 3) := by decide +kernel
theorem dX5_since_42 : decode cX5_since 42 = .ok (.iload_n 1, 1) := by decide +kernel
theorem dX5_since_43 : decode cX5_since 43 = .ok (.iaload, 1) := by decide +kernel
theorem dX5_since_44 : decode cX5_since 44 = .ok (.aload_n 0, 1) := by decide +kernel
theorem dX5_since_45 : decode cX5_since 45 = .ok (.getfield 28, 3) := by decide +kernel
theorem dX5_since_48 : decode cX5_since 48 = .ok (.iload_n 2, 1) := by decide +kernel
theorem dX5_since_49 : decode cX5_since 49 = .ok (.iaload, 1) := by decide +kernel
theorem dX5_since_50 : decode cX5_since 50 = .ok (.if_icmp .ne 5, 3) := by decide +kernel
theorem dX5_since_53 : decode cX5_since 53 = .ok (.iload_n 3, 1) := by decide +kernel
theorem dX5_since_54 : decode cX5_since 54 = .ok (.ireturn, 1) := by decide +kernel
theorem dX5_since_55 : decode cX5_since 55 = .ok (.iinc 3 1, 3) := by decide +kernel
theorem dX5_since_58 : decode cX5_since 58 = .ok (.goto (-37), 3) := by decide +kernel
theorem dX5_since_61 : decode cX5_since 61 = .ok (.iconst (-1), 1) := by decide +kernel
theorem dX5_since_62 : decode cX5_since 62 = .ok (.ireturn, 1) := by decide +kernel
set_option maxRecDepth 20000 in
theorem ggX5_beginRounds_X5_apart : GoodIn wsX5_beginRounds wsX5_apart := goodIn_r _ [9, 10, 4, 15, 16, 17, 18, 19, 20, 21, 22, 23, 24, 25, 26, 27] (by decide +kernel) (by decide +kernel)
set_option maxRecDepth 20000 in
theorem gX5_beginRounds_X5_apart : GoodIn wsX5_beginRounds (wsV RX5 66 RX5 yX5_apart wsX5_apart) := goodIn_app (goodIn_of _ (by decide +kernel)) ggX5_beginRounds_X5_apart
set_option maxRecDepth 20000 in
theorem ggX5_beginRounds_X5_merge : GoodIn wsX5_beginRounds wsX5_merge := goodIn_r _ [14, 4, 10, 15, 16, 17, 18, 19, 20, 21, 22, 23, 24, 25, 26, 27] (by decide +kernel) (by decide +kernel)
set_option maxRecDepth 20000 in
theorem gX5_beginRounds_X5_merge : GoodIn wsX5_beginRounds (wsV RX5 62 RX5 yX5_merge wsX5_merge) := goodIn_app (goodIn_of _ (by decide +kernel)) ggX5_beginRounds_X5_merge
theorem dX5_beginRounds_0 : decode cX5_beginRounds 0 = .ok (.aload_n 0, 1) := by decide +kernel
theorem dX5_beginRounds_1 : decode cX5_beginRounds 1 = .ok (.invokevirtual 66, 3) := by decide +kernel
theorem dX5_beginRounds_4 : decode cX5_beginRounds 4 = .ok (.iconst 0, 1) := by decide +kernel
theorem dX5_beginRounds_5 : decode cX5_beginRounds 5 = .ok (.istore_n 1, 1) := by decide +kernel
theorem dX5_beginRounds_6 : decode cX5_beginRounds 6 = .ok (.iload_n 1, 1) := by decide +kernel
theorem dX5_beginRounds_7 : decode cX5_beginRounds 7 = .ok (.aload_n 0, 1) := by decide +kernel
theorem dX5_beginRounds_8 : decode cX5_beginRounds 8 = .ok (.getfield 45, 3) := by decide +kernel
theorem dX5_beginRounds_11 : decode cX5_beginRounds 11 = .ok (.if_icmp .ge 66, 3) := by decide +kernel
theorem dX5_beginRounds_14 : decode cX5_beginRounds 14 = .ok (.aload_n 0, 1) := by decide +kernel
theorem dX5_beginRounds_15 : decode cX5_beginRounds 15 = .ok (.aload_n 0, 1) := by decide +kernel
theorem dX5_beginRounds_16 : decode cX5_beginRounds 16 = .ok (.getfield 16, 3) := by decide +kernel
theorem dX5_beginRounds_19 : decode cX5_beginRounds 19 = .ok (.iload_n 1, 1) := by decide +kernel
theorem dX5_beginRounds_20 : decode cX5_beginRounds 20 = .ok (.iaload, 1) := by decide +kernel
theorem dX5_beginRounds_21 : decode cX5_beginRounds 21 = .ok (.aload_n 0, 1) := by decide +kernel
theorem dX5_beginRounds_22 : decode cX5_beginRounds 22 = .ok (.getfield 19, 3) := by decide +kernel
theorem dX5_beginRounds_25 : decode cX5_beginRounds 25 = .ok (.iload_n 1, 1) := by decide +kernel
theorem dX5_beginRounds_26 : decode cX5_beginRounds 26 = .ok (.iaload, 1) := by decide +kernel
theorem dX5_beginRounds_27 : decode cX5_beginRounds 27 = .ok (.invokevirtual 62, 3) := by decide +kernel
theorem dX5_beginRounds_30 : decode cX5_beginRounds 30 = .ok (.istore_n 2, 1) := by decide +kernel
theorem dX5_beginRounds_31 : decode cX5_beginRounds 31 = .ok (.aload_n 0, 1) := by decide +kernel
theorem dX5_beginRounds_32 : decode cX5_beginRounds 32 = .ok (.getfield 28, 3) := by decide +kernel
theorem dX5_beginRounds_35 : decode cX5_beginRounds 35 = .ok (.aload_n 0, 1) := by decide +kernel
theorem dX5_beginRounds_36 : decode cX5_beginRounds 36 = .ok (.getfield 16, 3) := by decide +kernel
theorem dX5_beginRounds_39 : decode cX5_beginRounds 39 = .ok (.iload_n 1, 1) := by decide +kernel
theorem dX5_beginRounds_40 : decode cX5_beginRounds 40 = .ok (.iaload, 1) := by decide +kernel
theorem dX5_beginRounds_41 : decode cX5_beginRounds 41 = .ok (.iload_n 2, 1) := by decide +kernel
theorem dX5_beginRounds_42 : decode cX5_beginRounds 42 = .ok (.ifCond .eq 17, 3) := by decide +kernel
theorem dX5_beginRounds_45 : decode cX5_beginRounds 45 = .ok (.aload_n 0, 1) := by decide +kernel
theorem dX5_beginRounds_46 : decode cX5_beginRounds 46 = .ok (.getfield 28, 3) := by decide +kernel
theorem dX5_beginRounds_49 : decode cX5_beginRounds 49 = .ok (.aload_n 0, 1) := by decide +kernel
theorem dX5_beginRounds_50 : decode cX5_beginRounds 50 = .ok (.getfield 16, 3) := by decide +kernel
theorem dX5_beginRounds_53 : decode cX5_beginRounds 53 = .ok (.iload_n 1, 1) := by decide +kernel
theorem dX5_beginRounds_54 : decode cX5_beginRounds 54 = .ok (.iaload, 1) := by decide +kernel
theorem dX5_beginRounds_55 : decode cX5_beginRounds 55 = .ok (.iaload, 1) := by decide +kernel
theorem dX5_beginRounds_56 : decode cX5_beginRounds 56 = .ok (.goto 14, 3) := by decide +kernel
theorem dX5_beginRounds_59 : decode cX5_beginRounds 59 = .ok (.aload_n 0, 1) := by decide +kernel
theorem dX5_beginRounds_60 : decode cX5_beginRounds 60 = .ok (.getfield 28, 3) := by decide +kernel
theorem dX5_beginRounds_63 : decode cX5_beginRounds 63 = .ok (.aload_n 0, 1) := by decide +kernel
theorem dX5_beginRounds_64 : decode cX5_beginRounds 64 = .ok (.getfield 19, 3) := by decide +kernel
theorem dX5_beginRounds_67 : decode cX5_beginRounds 67 = .ok (.iload_n 1, 1) := by decide +kernel
theorem dX5_beginRounds_68 : decode cX5_beginRounds 68 = .ok (.iaload, 1) := by decide +kernel
theorem dX5_beginRounds_69 : decode cX5_beginRounds 69 = .ok (.iaload, 1) := by decide +kernel
theorem dX5_beginRounds_70 : decode cX5_beginRounds 70 = .ok (.iastore, 1) := by decide +kernel
theorem dX5_beginRounds_71 : decode cX5_beginRounds 71 = .ok (.iinc 1 1, 3) := by decide +kernel
theorem dX5_beginRounds_74 : decode cX5_beginRounds 74 = .ok (.goto (-68), 3) := by decide +kernel
theorem dX5_beginRounds_77 : decode cX5_beginRounds 77 = .ok (.return_, 1) := by decide +kernel
set_option maxRecDepth 20000 in
theorem ggX5_nextRound_X5_merge : GoodIn wsX5_nextRound wsX5_merge := goodIn_r _ [12, 3, 1, 13, 14, 15, 16, 17, 18, 19, 20, 21, 22, 23, 24, 25] (by decide +kernel) (by decide +kernel)
set_option maxRecDepth 20000 in
theorem gX5_nextRound_X5_merge : GoodIn wsX5_nextRound (wsV RX5 62 RX5 yX5_merge wsX5_merge) := goodIn_app (goodIn_of _ (by decide +kernel)) ggX5_nextRound_X5_merge
theorem dX5_nextRound_0 : decode cX5_nextRound 0 = .ok (.iconst 0, 1) := by decide +kernel
theorem dX5_nextRound_1 : decode cX5_nextRound 1 = .ok (.istore_n 1, 1) := by decide +kernel
theorem dX5_nextRound_2 : decode cX5_nextRound 2 = .ok (.iload_n 1, 1) := by decide +kernel
theorem dX5_nextRound_3 : decode cX5_nextRound 3 = .ok (.aload_n 0, 1) := by decide +kernel
theorem dX5_nextRound_4 : decode cX5_nextRound 4 = .ok (.getfield 37, 3) := by decide +kernel
theorem dX5_nextRound_7 : decode cX5_nextRound 7 = .ok (.if_icmp .ge 21, 3) := by decide +kernel
theorem dX5_nextRound_10 : decode cX5_nextRound 10 = .ok (.aload_n 0, 1) := by decide +kernel
theorem dX5_nextRound_11 : decode cX5_nextRound 11 = .ok (.getfield 31, 3) := by decide +kernel
theorem dX5_nextRound_14 : decode cX5_nextRound 14 = .ok (.iload_n 1, 1) := by decide +kernel
theorem dX5_nextRound_15 : decode cX5_nextRound 15 = .ok (.aload_n 0, 1) := by decide +kernel
theorem dX5_nextRound_16 : decode cX5_nextRound 16 = .ok (.getfield 28, 3) := by decide +kernel
theorem dX5_nextRound_19 : decode cX5_nextRound 19 = .ok (.iload_n 1, 1) := by decide +kernel
theorem dX5_nextRound_20 : decode cX5_nextRound 20 = .ok (.iaload, 1) := by decide +kernel
theorem dX5_nextRound_21 : decode cX5_nextRound 21 = .ok (.iastore, 1) := by decide +kernel
theorem dX5_nextRound_22 : decode cX5_nextRound 22 = .ok (.iinc 1 1, 3) := by decide +kernel
theorem dX5_nextRound_25 : decode cX5_nextRound 25 = .ok (.goto (-23), 3) := by decide +kernel
theorem dX5_nextRound_28 : decode cX5_nextRound 28 = .ok (.iconst 0, 1) := by decide +kernel
theorem dX5_nextRound_29 : decode cX5_nextRound 29 = .ok (.istore_n 1, 1) := by decide +kernel
theorem dX5_nextRound_30 : decode cX5_nextRound 30 = .ok (.iconst 0, 1) := by decide +kernel
theorem dX5_nextRound_31 : decode cX5_nextRound 31 = .ok (.istore_n 2, 1) := by decide +kernel
theorem dX5_nextRound_32 : decode cX5_nextRound 32 = .ok (.iload_n 2, 1) := by decide +kernel
theorem dX5_nextRound_33 : decode cX5_nextRound 33 = .ok (.aload_n 0, 1) := by decide +kernel
theorem dX5_nextRound_34 : decode cX5_nextRound 34 = .ok (.getfield 51, 3) := by decide +kernel
theorem dX5_nextRound_37 : decode cX5_nextRound 37 = .ok (.if_icmp .ge 112, 3) := by decide +kernel
theorem dX5_nextRound_40 : decode cX5_nextRound 40 = .ok (.aload_n 0, 1) := by decide +kernel
theorem dX5_nextRound_41 : decode cX5_nextRound 41 = .ok (.getfield 34, 3) := by decide +kernel
theorem dX5_nextRound_44 : decode cX5_nextRound 44 = .ok (.iload_n 2, 1) := by decide +kernel
theorem dX5_nextRound_45 : decode cX5_nextRound 45 = .ok (.iaload, 1) := by decide +kernel
theorem dX5_nextRound_46 : decode cX5_nextRound 46 = .ok (.istore_n 3, 1) := by decide +kernel
theorem dX5_nextRound_47 : decode cX5_nextRound 47 = .ok (.iconst 0, 1) := by decide +kernel
theorem dX5_nextRound_48 : decode cX5_nextRound 48 = .ok (.istore 4, 2) := by decide +kernel
theorem dX5_nextRound_50 : decode cX5_nextRound 50 = .ok (.iload 4, 2) := by decide +kernel
theorem dX5_nextRound_52 : decode cX5_nextRound 52 = .ok (.iload_n 2, 1) := by decide +kernel
theorem dX5_nextRound_53 : decode cX5_nextRound 53 = .ok (.if_icmp .ge 90, 3) := by decide +kernel
theorem dX5_nextRound_56 : decode cX5_nextRound 56 = .ok (.aload_n 0, 1) := by decide +kernel
theorem dX5_nextRound_57 : decode cX5_nextRound 57 = .ok (.getfield 34, 3) := by decide +kernel
theorem dX5_nextRound_60 : decode cX5_nextRound 60 = .ok (.iload 4, 2) := by decide +kernel
theorem dX5_nextRound_62 : decode cX5_nextRound 62 = .ok (.iaload, 1) := by decide +kernel
theorem dX5_nextRound_63 : decode cX5_nextRound 63 = .ok (.istore 5, 2) := by decide +kernel
theorem dX5_nextRound_65 : decode cX5_nextRound 65 = .ok (.aload_n 0, 1) := by decide +kernel
theorem dX5_nextRound_66 : decode cX5_nextRound 66 = .ok (.getfield 31, 3) := by decide +kernel
theorem dX5_nextRound_69 : decode cX5_nextRound 69 = .ok (.aload_n 0, 1) := by decide +kernel
theorem dX5_nextRound_70 : decode cX5_nextRound 70 = .ok (.getfield 7, 3) := by decide +kernel
theorem dX5_nextRound_73 : decode cX5_nextRound 73 = .ok (.iload_n 3, 1) := by decide +kernel
theorem dX5_nextRound_74 : decode cX5_nextRound 74 = .ok (.iaload, 1) := by decide +kernel
theorem dX5_nextRound_75 : decode cX5_nextRound 75 = .ok (.iaload, 1) := by decide +kernel
theorem dX5_nextRound_76 : decode cX5_nextRound 76 = .ok (.aload_n 0, 1) := by decide +kernel
theorem dX5_nextRound_77 : decode cX5_nextRound 77 = .ok (.getfield 31, 3) := by decide +kernel
theorem dX5_nextRound_80 : decode cX5_nextRound 80 = .ok (.aload_n 0, 1) := by decide +kernel
theorem dX5_nextRound_81 : decode cX5_nextRound 81 = .ok (.getfield 7, 3) := by decide +kernel
theorem dX5_nextRound_84 : decode cX5_nextRound 84 = .ok (.iload 5, 2) := by decide +kernel
theorem dX5_nextRound_86 : decode cX5_nextRound 86 = .ok (.iaload, 1) := by decide +kernel
theorem dX5_nextRound_87 : decode cX5_nextRound 87 = .ok (.iaload, 1) := by decide +kernel
theorem dX5_nextRound_88 : decode cX5_nextRound 88 = .ok (.if_icmp .ne 49, 3) := by decide +kernel
theorem dX5_nextRound_91 : decode cX5_nextRound 91 = .ok (.aload_n 0, 1) := by decide +kernel
theorem dX5_nextRound_92 : decode cX5_nextRound 92 = .ok (.getfield 31, 3) := by decide +kernel
theorem dX5_nextRound_95 : decode cX5_nextRound 95 = .ok (.aload_n 0, 1) := by decide +kernel
theorem dX5_nextRound_96 : decode cX5_nextRound 96 = .ok (.getfield 13, 3) := by decide +kernel
theorem dX5_nextRound_99 : decode cX5_nextRound 99 = .ok (.iload_n 3, 1) := by decide +kernel
theorem dX5_nextRound_100 : decode cX5_nextRound 100 = .ok (.iaload, 1) := by decide +kernel
theorem dX5_nextRound_101 : decode cX5_nextRound 101 = .ok (.iaload, 1) := by decide +kernel
theorem dX5_nextRound_102 : decode cX5_nextRound 102 = .ok (.aload_n 0, 1) := by decide +kernel
theorem dX5_nextRound_103 : decode cX5_nextRound 103 = .ok (.getfield 31, 3) := by decide +kernel
theorem dX5_nextRound_106 : decode cX5_nextRound 106 = .ok (.aload_n 0, 1) := by decide +kernel
theorem dX5_nextRound_107 : decode cX5_nextRound 107 = .ok (.getfield 13, 3) := by decide +kernel
theorem dX5_nextRound_110 : decode cX5_nextRound 110 = .ok (.iload 5, 2) := by decide +kernel
theorem dX5_nextRound_112 : decode cX5_nextRound 112 = .ok (.iaload, 1) := by decide +kernel
theorem dX5_nextRound_113 : decode cX5_nextRound 113 = .ok (.iaload, 1) := by decide +kernel
theorem dX5_nextRound_114 : decode cX5_nextRound 114 = .ok (.if_icmp .ne 23, 3) := by decide +kernel
theorem dX5_nextRound_117 : decode cX5_nextRound 117 = .ok (.aload_n 0, 1) := by decide +kernel
theorem dX5_nextRound_118 : decode cX5_nextRound 118 = .ok (.iload_n 3, 1) := by decide +kernel
theorem dX5_nextRound_119 : decode cX5_nextRound 119 = .ok (.iload 5, 2) := by decide +kernel
theorem dX5_nextRound_121 : decode cX5_nextRound 121 = .ok (.invokevirtual 62, 3) := by decide +kernel
theorem dX5_nextRound_124 : decode cX5_nextRound 124 = .ok (.ifCond .ne 7, 3) := by decide +kernel
theorem dX5_nextRound_127 : decode cX5_nextRound 127 = .ok (.iload_n 1, 1) := by decide +kernel
theorem dX5_nextRound_128 : decode cX5_nextRound 128 = .ok (.ifCond .eq 7, 3) := by decide +kernel
theorem dX5_nextRound_131 : decode cX5_nextRound 131 = .ok (.iconst 1, 1) := by decide +kernel
theorem dX5_nextRound_132 : decode cX5_nextRound 132 = .ok (.goto 4, 3) := by decide +kernel
theorem dX5_nextRound_135 : decode cX5_nextRound 135 = .ok (.iconst 0, 1) := by decide +kernel
theorem dX5_nextRound_136 : decode cX5_nextRound 136 = .ok (.istore_n 1, 1) := by decide +kernel
theorem dX5_nextRound_137 : decode cX5_nextRound 137 = .ok (.iinc 4 1, 3) := by decide +kernel
theorem dX5_nextRound_140 : decode cX5_nextRound 140 = .ok (.goto (-90), 3) := by decide +kernel
theorem dX5_nextRound_143 : decode cX5_nextRound 143 = .ok (.iinc 2 1, 3) := by decide +kernel
theorem dX5_nextRound_146 : decode cX5_nextRound 146 = .ok (.goto (-114), 3) := by decide +kernel
theorem dX5_nextRound_149 : decode cX5_nextRound 149 = .ok (.iload_n 1, 1) := by decide +kernel
theorem dX5_nextRound_150 : decode cX5_nextRound 150 = .ok (.ireturn, 1) := by decide +kernel
set_option maxRecDepth 20000 in
theorem ggX5_round_X5_isTerm : GoodIn wsX5_round wsX5_isTerm := goodIn_r _ [6, 7, 8, 9, 5, 10, 35, 36, 37, 38, 39, 40, 41, 42, 43, 44, 45, 46, 47] (by decide +kernel) (by decide +kernel)
set_option maxRecDepth 20000 in
theorem gX5_round_X5_isTerm : GoodIn wsX5_round (wsV RX5 58 RX5 yX5_isTerm wsX5_isTerm) := goodIn_app (goodIn_of _ (by decide +kernel)) ggX5_round_X5_isTerm
set_option maxRecDepth 20000 in
theorem ggX5_round_X5_beginRounds : GoodIn wsX5_round wsX5_beginRounds := goodIn_r _ [14, 15, 16, 17, 1, 18, 19, 20, 5, 21, 7, 22, 23, 24, 25, 35, 36, 37, 38, 39, 40, 41, 42, 43, 44, 45, 46, 47] (by decide +kernel) (by decide +kernel)
set_option maxRecDepth 20000 in
theorem gX5_round_X5_beginRounds : GoodIn wsX5_round (wsV RX5 83 RX5 yX5_beginRounds wsX5_beginRounds) := goodIn_app (goodIn_of _ (by decide +kernel)) ggX5_round_X5_beginRounds
set_option maxRecDepth 20000 in
theorem ggX5_round_X5_nextRound : GoodIn wsX5_round wsX5_nextRound := goodIn_r _ [29, 7, 30, 1, 31, 32, 33, 34, 22, 23, 24, 5, 25, 35, 36, 37, 38, 39, 40, 41, 42, 43, 44, 45, 46, 47] (by decide +kernel) (by decide +kernel)
set_option maxRecDepth 20000 in
theorem gX5_round_X5_nextRound : GoodIn wsX5_round (wsV RX5 86 RX5 yX5_nextRound wsX5_nextRound) := goodIn_app (goodIn_of _ (by decide +kernel)) ggX5_round_X5_nextRound
theorem dX5_round_0 : decode cX5_round 0 = .ok (.aload_n 0, 1) := by decide +kernel
theorem dX5_round_1 : decode cX5_round 1 = .ok (.iload_n 1, 1) := by decide +kernel
theorem dX5_round_2 : decode cX5_round 2 = .ok (.invokevirtual 58, 3) := by decide +kernel
theorem dX5_round_5 : decode cX5_round 5 = .ok (.ifCond .eq 11, 3) := by decide +kernel
theorem dX5_round_8 : decode cX5_round 8 = .ok (.aload_n 0, 1) := by decide +kernel
theorem dX5_round_9 : decode cX5_round 9 = .ok (.iload_n 2, 1) := by decide +kernel
theorem dX5_round_10 : decode cX5_round 10 = .ok (.invokevirtual 58, 3) := by decide +kernel
theorem dX5_round_13 : decode cX5_round 13 = .ok (.ifCond .ne 6, 3) := by decide +kernel
theorem dX5_round_16 : decode cX5_round 16 = .ok (.bipush (-2), 2) := by decide +kernel
theorem dX5_round_18 : decode cX5_round 18 = .ok (.ireturn, 1) := by decide +kernel
theorem dX5_round_19 : decode cX5_round 19 = .ok (.aload_n 0, 1) := by decide +kernel
theorem dX5_round_20 : decode cX5_round 20 = .ok (.invokevirtual 83, 3) := by decide +kernel
theorem dX5_round_23 : decode cX5_round 23 = .ok (.iconst 0, 1) := by decide +kernel
theorem dX5_round_24 : decode cX5_round 24 = .ok (.istore_n 3, 1) := by decide +kernel
theorem dX5_round_25 : decode cX5_round 25 = .ok (.iconst 1, 1) := by decide +kernel
theorem dX5_round_26 : decode cX5_round 26 = .ok (.istore 4, 2) := by decide +kernel
theorem dX5_round_28 : decode cX5_round 28 = .ok (.aload_n 0, 1) := by decide +kernel
theorem dX5_round_29 : decode cX5_round 29 = .ok (.getfield 28, 3) := by decide +kernel
theorem dX5_round_32 : decode cX5_round 32 = .ok (.iload_n 1, 1) := by decide +kernel
theorem dX5_round_33 : decode cX5_round 33 = .ok (.iaload, 1) := by decide +kernel
theorem dX5_round_34 : decode cX5_round 34 = .ok (.aload_n 0, 1) := by decide +kernel
theorem dX5_round_35 : decode cX5_round 35 = .ok (.getfield 28, 3) := by decide +kernel
theorem dX5_round_38 : decode cX5_round 38 = .ok (.iload_n 2, 1) := by decide +kernel
theorem dX5_round_39 : decode cX5_round 39 = .ok (.iaload, 1) := by decide +kernel
theorem dX5_round_40 : decode cX5_round 40 = .ok (.if_icmp .eq 20, 3) := by decide +kernel
theorem dX5_round_43 : decode cX5_round 43 = .ok (.iload 4, 2) := by decide +kernel
theorem dX5_round_45 : decode cX5_round 45 = .ok (.ifCond .eq 15, 3) := by decide +kernel
theorem dX5_round_48 : decode cX5_round 48 = .ok (.aload_n 0, 1) := by decide +kernel
theorem dX5_round_49 : decode cX5_round 49 = .ok (.invokevirtual 86, 3) := by decide +kernel
theorem dX5_round_52 : decode cX5_round 52 = .ok (.istore 4, 2) := by decide +kernel
theorem dX5_round_54 : decode cX5_round 54 = .ok (.iinc 3 1, 3) := by decide +kernel
theorem dX5_round_57 : decode cX5_round 57 = .ok (.goto (-29), 3) := by decide +kernel
theorem dX5_round_60 : decode cX5_round 60 = .ok (.aload_n 0, 1) := by decide +kernel
theorem dX5_round_61 : decode cX5_round 61 = .ok (.getfield 28, 3) := by decide +kernel
theorem dX5_round_64 : decode cX5_round 64 = .ok (.iload_n 1, 1) := by decide +kernel
theorem dX5_round_65 : decode cX5_round 65 = .ok (.iaload, 1) := by decide +kernel
theorem dX5_round_66 : decode cX5_round 66 = .ok (.aload_n 0, 1) := by decide +kernel
theorem dX5_round_67 : decode cX5_round 67 = .ok (.getfield 28, 3) := by decide +kernel
theorem dX5_round_70 : decode cX5_round 70 = .ok (.iload_n 2, 1) := by decide +kernel
theorem dX5_round_71 : decode cX5_round 71 = .ok (.iaload, 1) := by decide +kernel
theorem dX5_round_72 : decode cX5_round 72 = .ok (.if_icmp .ne 7, 3) := by decide +kernel
theorem dX5_round_75 : decode cX5_round 75 = .ok (.iload_n 3, 1) := by decide +kernel
theorem dX5_round_76 : decode cX5_round 76 = .ok (.goto 4, 3) := by decide +kernel
theorem dX5_round_79 : decode cX5_round 79 = .ok (.iconst (-1), 1) := by decide +kernel
theorem dX5_round_80 : decode cX5_round 80 = .ok (.ireturn, 1) := by decide +kernel
set_option maxRecDepth 20000 in
theorem ggX5_why_X5_isTerm : GoodIn wsX5_why wsX5_isTerm := goodIn_r _ [8, 9, 10, 11, 7, 12, 43, 44, 45, 46, 47, 48, 49, 50, 51, 52, 53, 54, 55] (by decide +kernel) (by decide +kernel)
set_option maxRecDepth 20000 in
theorem gX5_why_X5_isTerm : GoodIn wsX5_why (wsV RX5 58 RX5 yX5_isTerm wsX5_isTerm) := goodIn_app (goodIn_of _ (by decide +kernel)) ggX5_why_X5_isTerm
set_option maxRecDepth 20000 in
theorem ggX5_why_X5_areSame : GoodIn wsX5_why wsX5_areSame := goodIn_r _ [16, 3, 17, 18, 19, 7, 20, 1, 21, 22, 23, 24, 25, 26, 27, 28, 29, 30, 9, 31, 32, 33, 34, 35, 36, 37, 38, 39, 40, 41, 42, 43, 44, 45, 46, 47, 48, 49, 50, 51, 52, 53, 54, 55] (by decide +kernel) (by decide +kernel)
set_option maxRecDepth 20000 in
theorem gX5_why_X5_areSame : GoodIn wsX5_why (wsV RX5 80 RX5 yX5_areSame wsX5_areSame) := goodIn_app (goodIn_of _ (by decide +kernel)) ggX5_why_X5_areSame
set_option maxRecDepth 20000 in
theorem ggX5_why_X5_all : GoodIn wsX5_why wsX5_all := goodIn_r _ [20, 1, 43, 44, 45, 46, 47, 48, 49, 50, 51, 52, 53, 54, 55] (by decide +kernel) (by decide +kernel)
set_option maxRecDepth 20000 in
theorem gX5_why_X5_all : GoodIn wsX5_why (wsV RX5 72 RX5 yX5_all wsX5_all) := goodIn_app (goodIn_of _ (by decide +kernel)) ggX5_why_X5_all
set_option maxRecDepth 20000 in
theorem ggX5_why_X5_closeBy : GoodIn wsX5_why wsX5_closeBy := goodIn_r _ [24, 1, 25, 26, 3, 27, 28, 29, 7, 30, 9, 31, 32, 33, 34, 35, 36, 37, 38, 39, 40, 41, 42, 43, 44, 45, 46, 47, 48, 49, 50, 51, 52, 53, 54, 55] (by decide +kernel) (by decide +kernel)
set_option maxRecDepth 20000 in
theorem gX5_why_X5_closeBy : GoodIn wsX5_why (wsV RX5 76 RX5 yX5_closeBy wsX5_closeBy) := goodIn_app (goodIn_of _ (by decide +kernel)) ggX5_why_X5_closeBy
theorem dX5_why_0 : decode cX5_why 0 = .ok (.aload_n 0, 1) := by decide +kernel
theorem dX5_why_1 : decode cX5_why 1 = .ok (.iload_n 1, 1) := by decide +kernel
theorem dX5_why_2 : decode cX5_why 2 = .ok (.invokevirtual 58, 3) := by decide +kernel
theorem dX5_why_5 : decode cX5_why 5 = .ok (.ifCond .eq 16, 3) := by decide +kernel
theorem dX5_why_8 : decode cX5_why 8 = .ok (.aload_n 0, 1) := by decide +kernel
theorem dX5_why_9 : decode cX5_why 9 = .ok (.iload_n 2, 1) := by decide +kernel
theorem dX5_why_10 : decode cX5_why 10 = .ok (.invokevirtual 58, 3) := by decide +kernel
theorem dX5_why_13 : decode cX5_why 13 = .ok (.ifCond .eq 8, 3) := by decide +kernel
theorem dX5_why_16 : decode cX5_why 16 = .ok (.iload_n 3, 1) := by decide +kernel
theorem dX5_why_17 : decode cX5_why 17 = .ok (.iconst (-1), 1) := by decide +kernel
theorem dX5_why_18 : decode cX5_why 18 = .ok (.if_icmp .ge 6, 3) := by decide +kernel
theorem dX5_why_21 : decode cX5_why 21 = .ok (.bipush (-2), 2) := by decide +kernel
theorem dX5_why_23 : decode cX5_why 23 = .ok (.ireturn, 1) := by decide +kernel
theorem dX5_why_24 : decode cX5_why 24 = .ok (.aload_n 0, 1) := by decide +kernel
theorem dX5_why_25 : decode cX5_why 25 = .ok (.iload_n 1, 1) := by decide +kernel
theorem dX5_why_26 : decode cX5_why 26 = .ok (.iload_n 2, 1) := by decide +kernel
theorem dX5_why_27 : decode cX5_why 27 = .ok (.invokevirtual 80, 3) := by decide +kernel
theorem dX5_why_30 : decode cX5_why 30 = .ok (.ifCond .ne 5, 3) := by decide +kernel
theorem dX5_why_33 : decode cX5_why 33 = .ok (.iconst (-1), 1) := by decide +kernel
theorem dX5_why_34 : decode cX5_why 34 = .ok (.ireturn, 1) := by decide +kernel
theorem dX5_why_35 : decode cX5_why 35 = .ok (.aload_n 0, 1) := by decide +kernel
theorem dX5_why_36 : decode cX5_why 36 = .ok (.invokevirtual 72, 3) := by decide +kernel
theorem dX5_why_39 : decode cX5_why 39 = .ok (.lstore 4, 2) := by decide +kernel
theorem dX5_why_41 : decode cX5_why 41 = .ok (.aload_n 0, 1) := by decide +kernel
theorem dX5_why_42 : decode cX5_why 42 = .ok (.getfield 45, 3) := by decide +kernel
theorem dX5_why_45 : decode cX5_why 45 = .ok (.iconst 1, 1) := by decide +kernel
theorem dX5_why_46 : decode cX5_why 46 = .ok (.isub, 1) := by decide +kernel
theorem dX5_why_47 : decode cX5_why 47 = .ok (.istore 6, 2) := by decide +kernel
theorem dX5_why_49 : decode cX5_why 49 = .ok (.iload 6, 2) := by decide +kernel
theorem dX5_why_51 : decode cX5_why 51 = .ok (.ifCond .lt 52, 3) := by decide +kernel
theorem dX5_why_54 : decode cX5_why 54 = .ok (.lload 4, 2) := by decide +kernel
theorem dX5_why_56 : decode cX5_why 56 = .ok (.lconst 1, 1) := by decide +kernel
theorem dX5_why_57 : decode cX5_why 57 = .ok (.iload 6, 2) := by decide +kernel
theorem dX5_why_59 : decode cX5_why 59 = .ok (.lshl, 1) := by decide +kernel
theorem dX5_why_60 : decode cX5_why 60 = .ok (.ldc2_w 90, 3) := by decide +kernel
theorem dX5_why_63 : decode cX5_why 63 = .ok (.lxor, 1) := by decide +kernel
theorem dX5_why_64 : decode cX5_why 64 = .ok (.land, 1) := by decide +kernel
theorem dX5_why_65 : decode cX5_why 65 = .ok (.lstore 7, 2) := by decide +kernel
theorem dX5_why_67 : decode cX5_why 67 = .ok (.aload_n 0, 1) := by decide +kernel
theorem dX5_why_68 : decode cX5_why 68 = .ok (.lload 7, 2) := by decide +kernel
theorem dX5_why_70 : decode cX5_why 70 = .ok (.invokevirtual 76, 3) := by decide +kernel
theorem dX5_why_73 : decode cX5_why 73 = .ok (.aload_n 0, 1) := by decide +kernel
theorem dX5_why_74 : decode cX5_why 74 = .ok (.getfield 28, 3) := by decide +kernel
theorem dX5_why_77 : decode cX5_why 77 = .ok (.iload_n 1, 1) := by decide +kernel
theorem dX5_why_78 : decode cX5_why 78 = .ok (.iaload, 1) := by decide +kernel
theorem dX5_why_79 : decode cX5_why 79 = .ok (.aload_n 0, 1) := by decide +kernel
theorem dX5_why_80 : decode cX5_why 80 = .ok (.getfield 28, 3) := by decide +kernel
theorem dX5_why_83 : decode cX5_why 83 = .ok (.iload_n 2, 1) := by decide +kernel
theorem dX5_why_84 : decode cX5_why 84 = .ok (.iaload, 1) := by decide +kernel
theorem dX5_why_85 : decode cX5_why 85 = .ok (.if_icmp .ne 8, 3) := by decide +kernel
theorem dX5_why_88 : decode cX5_why 88 = .ok (.lload 7, 2) := by decide +kernel
theorem dX5_why_90 : decode cX5_why 90 = .ok (.goto 5, 3) := by decide +kernel
theorem dX5_why_93 : decode cX5_why 93 = .ok (.lload 4, 2) := by decide +kernel
theorem dX5_why_95 : decode cX5_why 95 = .ok (.lstore 4, 2) := by decide +kernel
theorem dX5_why_97 : decode cX5_why 97 = .ok (.iinc 6 (-1), 3) := by decide +kernel
theorem dX5_why_100 : decode cX5_why 100 = .ok (.goto (-51), 3) := by decide +kernel
theorem dX5_why_103 : decode cX5_why 103 = .ok (.iconst 0, 1) := by decide +kernel
theorem dX5_why_104 : decode cX5_why 104 = .ok (.istore 6, 2) := by decide +kernel
theorem dX5_why_106 : decode cX5_why 106 = .ok (.iconst 0, 1) := by decide +kernel
theorem dX5_why_107 : decode cX5_why 107 = .ok (.istore 7, 2) := by decide +kernel
theorem dX5_why_109 : decode cX5_why 109 = .ok (.iload 7, 2) := by decide +kernel
theorem dX5_why_111 : decode cX5_why 111 = .ok (.aload_n 0, 1) := by decide +kernel
theorem dX5_why_112 : decode cX5_why 112 = .ok (.getfield 45, 3) := by decide +kernel
theorem dX5_why_115 : decode cX5_why 115 = .ok (.if_icmp .ge 33, 3) := by decide +kernel
theorem dX5_why_118 : decode cX5_why 118 = .ok (.lload 4, 2) := by decide +kernel
theorem dX5_why_120 : decode cX5_why 120 = .ok (.iload 7, 2) := by decide +kernel
theorem dX5_why_122 : decode cX5_why 122 = .ok (.lshr, 1) := by decide +kernel
theorem dX5_why_123 : decode cX5_why 123 = .ok (.lconst 1, 1) := by decide +kernel
theorem dX5_why_124 : decode cX5_why 124 = .ok (.land, 1) := by decide +kernel
theorem dX5_why_125 : decode cX5_why 125 = .ok (.lconst 1, 1) := by decide +kernel
theorem dX5_why_126 : decode cX5_why 126 = .ok (.lcmp, 1) := by decide +kernel
theorem dX5_why_127 : decode cX5_why 127 = .ok (.ifCond .ne 15, 3) := by decide +kernel
theorem dX5_why_130 : decode cX5_why 130 = .ok (.iload 6, 2) := by decide +kernel
theorem dX5_why_132 : decode cX5_why 132 = .ok (.iload_n 3, 1) := by decide +kernel
theorem dX5_why_133 : decode cX5_why 133 = .ok (.if_icmp .ne 6, 3) := by decide +kernel
theorem dX5_why_136 : decode cX5_why 136 = .ok (.iload 7, 2) := by decide +kernel
theorem dX5_why_138 : decode cX5_why 138 = .ok (.ireturn, 1) := by decide +kernel
theorem dX5_why_139 : decode cX5_why 139 = .ok (.iinc 6 1, 3) := by decide +kernel
theorem dX5_why_142 : decode cX5_why 142 = .ok (.iinc 7 1, 3) := by decide +kernel
theorem dX5_why_145 : decode cX5_why 145 = .ok (.goto (-36), 3) := by decide +kernel
theorem dX5_why_148 : decode cX5_why 148 = .ok (.iload_n 3, 1) := by decide +kernel
theorem dX5_why_149 : decode cX5_why 149 = .ok (.iconst (-1), 1) := by decide +kernel
theorem dX5_why_150 : decode cX5_why 150 = .ok (.if_icmp .ne 8, 3) := by decide +kernel
theorem dX5_why_153 : decode cX5_why 153 = .ok (.iload 6, 2) := by decide +kernel
theorem dX5_why_155 : decode cX5_why 155 = .ok (.goto 4, 3) := by decide +kernel
theorem dX5_why_158 : decode cX5_why 158 = .ok (.iconst (-1), 1) := by decide +kernel
theorem dX5_why_159 : decode cX5_why 159 = .ok (.ireturn, 1) := by decide +kernel
set_option maxRecDepth 20000 in
theorem ggX5_gives_X5_isTerm : GoodIn wsX5_gives wsX5_isTerm := goodIn_r _ [7, 8, 9, 10, 6, 11, 39, 40, 41, 42, 43, 44, 45, 46, 47, 48, 49, 50, 51] (by decide +kernel) (by decide +kernel)
set_option maxRecDepth 20000 in
theorem gX5_gives_X5_isTerm : GoodIn wsX5_gives (wsV RX5 58 RX5 yX5_isTerm wsX5_isTerm) := goodIn_app (goodIn_of _ (by decide +kernel)) ggX5_gives_X5_isTerm
set_option maxRecDepth 20000 in
theorem ggX5_gives_X5_all : GoodIn wsX5_gives wsX5_all := goodIn_r _ [15, 16, 39, 40, 41, 42, 43, 44, 45, 46, 47, 48, 49, 50, 51] (by decide +kernel) (by decide +kernel)
set_option maxRecDepth 20000 in
theorem gX5_gives_X5_all : GoodIn wsX5_gives (wsV RX5 72 RX5 yX5_all wsX5_all) := goodIn_app (goodIn_of _ (by decide +kernel)) ggX5_gives_X5_all
set_option maxRecDepth 20000 in
theorem ggX5_gives_X5_closeBy : GoodIn wsX5_gives wsX5_closeBy := goodIn_r _ [20, 16, 21, 22, 2, 23, 24, 25, 6, 26, 8, 27, 28, 29, 30, 31, 32, 33, 34, 35, 36, 37, 38, 39, 40, 41, 42, 43, 44, 45, 46, 47, 48, 49, 50, 51] (by decide +kernel) (by decide +kernel)
set_option maxRecDepth 20000 in
theorem gX5_gives_X5_closeBy : GoodIn wsX5_gives (wsV RX5 76 RX5 yX5_closeBy wsX5_closeBy) := goodIn_app (goodIn_of _ (by decide +kernel)) ggX5_gives_X5_closeBy
theorem dX5_gives_0 : decode cX5_gives 0 = .ok (.aload_n 0, 1) := by decide +kernel
theorem dX5_gives_1 : decode cX5_gives 1 = .ok (.iload_n 3, 1) := by decide +kernel
theorem dX5_gives_2 : decode cX5_gives 2 = .ok (.invokevirtual 58, 3) := by decide +kernel
theorem dX5_gives_5 : decode cX5_gives 5 = .ok (.ifCond .eq 27, 3) := by decide +kernel
theorem dX5_gives_8 : decode cX5_gives 8 = .ok (.aload_n 0, 1) := by decide +kernel
theorem dX5_gives_9 : decode cX5_gives 9 = .ok (.iload 4, 2) := by decide +kernel
theorem dX5_gives_11 : decode cX5_gives 11 = .ok (.invokevirtual 58, 3) := by decide +kernel
theorem dX5_gives_14 : decode cX5_gives 14 = .ok (.ifCond .eq 18, 3) := by decide +kernel
theorem dX5_gives_17 : decode cX5_gives 17 = .ok (.lload_n 1, 1) := by decide +kernel
theorem dX5_gives_18 : decode cX5_gives 18 = .ok (.aload_n 0, 1) := by decide +kernel
theorem dX5_gives_19 : decode cX5_gives 19 = .ok (.invokevirtual 72, 3) := by decide +kernel
theorem dX5_gives_22 : decode cX5_gives 22 = .ok (.ldc2_w 90, 3) := by decide +kernel
theorem dX5_gives_25 : decode cX5_gives 25 = .ok (.lxor, 1) := by decide +kernel
theorem dX5_gives_26 : decode cX5_gives 26 = .ok (.land, 1) := by decide +kernel
theorem dX5_gives_27 : decode cX5_gives 27 = .ok (.lconst 0, 1) := by decide +kernel
theorem dX5_gives_28 : decode cX5_gives 28 = .ok (.lcmp, 1) := by decide +kernel
theorem dX5_gives_29 : decode cX5_gives 29 = .ok (.ifCond .eq 6, 3) := by decide +kernel
theorem dX5_gives_32 : decode cX5_gives 32 = .ok (.bipush (-2), 2) := by decide +kernel
theorem dX5_gives_34 : decode cX5_gives 34 = .ok (.ireturn, 1) := by decide +kernel
theorem dX5_gives_35 : decode cX5_gives 35 = .ok (.aload_n 0, 1) := by decide +kernel
theorem dX5_gives_36 : decode cX5_gives 36 = .ok (.lload_n 1, 1) := by decide +kernel
theorem dX5_gives_37 : decode cX5_gives 37 = .ok (.invokevirtual 76, 3) := by decide +kernel
theorem dX5_gives_40 : decode cX5_gives 40 = .ok (.aload_n 0, 1) := by decide +kernel
theorem dX5_gives_41 : decode cX5_gives 41 = .ok (.getfield 28, 3) := by decide +kernel
theorem dX5_gives_44 : decode cX5_gives 44 = .ok (.iload_n 3, 1) := by decide +kernel
theorem dX5_gives_45 : decode cX5_gives 45 = .ok (.iaload, 1) := by decide +kernel
theorem dX5_gives_46 : decode cX5_gives 46 = .ok (.aload_n 0, 1) := by decide +kernel
theorem dX5_gives_47 : decode cX5_gives 47 = .ok (.getfield 28, 3) := by decide +kernel
theorem dX5_gives_50 : decode cX5_gives 50 = .ok (.iload 4, 2) := by decide +kernel
theorem dX5_gives_52 : decode cX5_gives 52 = .ok (.iaload, 1) := by decide +kernel
theorem dX5_gives_53 : decode cX5_gives 53 = .ok (.if_icmp .ne 7, 3) := by decide +kernel
theorem dX5_gives_56 : decode cX5_gives 56 = .ok (.iconst 1, 1) := by decide +kernel
theorem dX5_gives_57 : decode cX5_gives 57 = .ok (.goto 4, 3) := by decide +kernel
theorem dX5_gives_60 : decode cX5_gives 60 = .ok (.iconst 0, 1) := by decide +kernel
theorem dX5_gives_61 : decode cX5_gives 61 = .ok (.ireturn, 1) := by decide +kernel
set_option maxRecDepth 20000 in
theorem ggX5_told_X5_in : GoodIn wsX5_told wsX5_in := goodIn_r _ [13] (by decide +kernel) (by decide +kernel)
set_option maxRecDepth 20000 in
theorem gX5_told_X5_in : GoodIn wsX5_told (va_wsS RX5 41 yX5_in wsX5_in) := goodIn_app (goodIn_of _ (by decide +kernel)) ggX5_told_X5_in
theorem dX5_told_0 : decode cX5_told 0 = .ok (.iload_n 2, 1) := by decide +kernel
theorem dX5_told_1 : decode cX5_told 1 = .ok (.iconst 0, 1) := by decide +kernel
theorem dX5_told_2 : decode cX5_told 2 = .ok (.iconst 5, 1) := by decide +kernel
theorem dX5_told_3 : decode cX5_told 3 = .ok (.invokestatic 41, 3) := by decide +kernel
theorem dX5_told_6 : decode cX5_told 6 = .ok (.ifCond .ne 6, 3) := by decide +kernel
theorem dX5_told_9 : decode cX5_told 9 = .ok (.bipush (-2), 2) := by decide +kernel
theorem dX5_told_11 : decode cX5_told 11 = .ok (.ireturn, 1) := by decide +kernel
theorem dX5_told_12 : decode cX5_told 12 = .ok (.iload_n 2, 1) := by decide +kernel
theorem dX5_told_13 : decode cX5_told 13 = .ok (.iconst 2, 1) := by decide +kernel
theorem dX5_told_14 : decode cX5_told 14 = .ok (.if_icmp .ge 10, 3) := by decide +kernel
theorem dX5_told_17 : decode cX5_told 17 = .ok (.aload_n 0, 1) := by decide +kernel
theorem dX5_told_18 : decode cX5_told 18 = .ok (.getfield 37, 3) := by decide +kernel
theorem dX5_told_21 : decode cX5_told 21 = .ok (.goto 19, 3) := by decide +kernel
theorem dX5_told_24 : decode cX5_told 24 = .ok (.iload_n 2, 1) := by decide +kernel
theorem dX5_told_25 : decode cX5_told 25 = .ok (.iconst 4, 1) := by decide +kernel
theorem dX5_told_26 : decode cX5_told 26 = .ok (.if_icmp .ge 10, 3) := by decide +kernel
theorem dX5_told_29 : decode cX5_told 29 = .ok (.aload_n 0, 1) := by decide +kernel
theorem dX5_told_30 : decode cX5_told 30 = .ok (.getfield 45, 3) := by decide +kernel
theorem dX5_told_33 : decode cX5_told 33 = .ok (.goto 7, 3) := by decide +kernel
theorem dX5_told_36 : decode cX5_told 36 = .ok (.aload_n 0, 1) := by decide +kernel
theorem dX5_told_37 : decode cX5_told 37 = .ok (.getfield 48, 3) := by decide +kernel
theorem dX5_told_40 : decode cX5_told 40 = .ok (.istore_n 3, 1) := by decide +kernel
theorem dX5_told_41 : decode cX5_told 41 = .ok (.iload_n 1, 1) := by decide +kernel
theorem dX5_told_42 : decode cX5_told 42 = .ok (.iconst 0, 1) := by decide +kernel
theorem dX5_told_43 : decode cX5_told 43 = .ok (.iload_n 3, 1) := by decide +kernel
theorem dX5_told_44 : decode cX5_told 44 = .ok (.iconst 1, 1) := by decide +kernel
theorem dX5_told_45 : decode cX5_told 45 = .ok (.isub, 1) := by decide +kernel
theorem dX5_told_46 : decode cX5_told 46 = .ok (.invokestatic 41, 3) := by decide +kernel
theorem dX5_told_49 : decode cX5_told 49 = .ok (.ifCond .ne 5, 3) := by decide +kernel
theorem dX5_told_52 : decode cX5_told 52 = .ok (.iconst (-1), 1) := by decide +kernel
theorem dX5_told_53 : decode cX5_told 53 = .ok (.ireturn, 1) := by decide +kernel
theorem dX5_told_54 : decode cX5_told 54 = .ok (.iload_n 2, 1) := by decide +kernel
theorem dX5_told_55 : decode cX5_told 55 = .ok (.tableswitch 68 0 4 #[33, 40, 47, 54, 61], 33) := by decide +kernel
theorem dX5_told_88 : decode cX5_told 88 = .ok (.aload_n 0, 1) := by decide +kernel
theorem dX5_told_89 : decode cX5_told 89 = .ok (.getfield 7, 3) := by decide +kernel
theorem dX5_told_92 : decode cX5_told 92 = .ok (.iload_n 1, 1) := by decide +kernel
theorem dX5_told_93 : decode cX5_told 93 = .ok (.iaload, 1) := by decide +kernel
theorem dX5_told_94 : decode cX5_told 94 = .ok (.ireturn, 1) := by decide +kernel
theorem dX5_told_95 : decode cX5_told 95 = .ok (.aload_n 0, 1) := by decide +kernel
theorem dX5_told_96 : decode cX5_told 96 = .ok (.getfield 13, 3) := by decide +kernel
theorem dX5_told_99 : decode cX5_told 99 = .ok (.iload_n 1, 1) := by decide +kernel
theorem dX5_told_100 : decode cX5_told 100 = .ok (.iaload, 1) := by decide +kernel
theorem dX5_told_101 : decode cX5_told 101 = .ok (.ireturn, 1) := by decide +kernel
theorem dX5_told_102 : decode cX5_told 102 = .ok (.aload_n 0, 1) := by decide +kernel
theorem dX5_told_103 : decode cX5_told 103 = .ok (.getfield 16, 3) := by decide +kernel
theorem dX5_told_106 : decode cX5_told 106 = .ok (.iload_n 1, 1) := by decide +kernel
theorem dX5_told_107 : decode cX5_told 107 = .ok (.iaload, 1) := by decide +kernel
theorem dX5_told_108 : decode cX5_told 108 = .ok (.ireturn, 1) := by decide +kernel
theorem dX5_told_109 : decode cX5_told 109 = .ok (.aload_n 0, 1) := by decide +kernel
theorem dX5_told_110 : decode cX5_told 110 = .ok (.getfield 19, 3) := by decide +kernel
theorem dX5_told_113 : decode cX5_told 113 = .ok (.iload_n 1, 1) := by decide +kernel
theorem dX5_told_114 : decode cX5_told 114 = .ok (.iaload, 1) := by decide +kernel
theorem dX5_told_115 : decode cX5_told 115 = .ok (.ireturn, 1) := by decide +kernel
theorem dX5_told_116 : decode cX5_told 116 = .ok (.aload_n 0, 1) := by decide +kernel
theorem dX5_told_117 : decode cX5_told 117 = .ok (.getfield 22, 3) := by decide +kernel
theorem dX5_told_120 : decode cX5_told 120 = .ok (.iload_n 1, 1) := by decide +kernel
theorem dX5_told_121 : decode cX5_told 121 = .ok (.iaload, 1) := by decide +kernel
theorem dX5_told_122 : decode cX5_told 122 = .ok (.ireturn, 1) := by decide +kernel
theorem dX5_told_123 : decode cX5_told 123 = .ok (.aload_n 0, 1) := by decide +kernel
theorem dX5_told_124 : decode cX5_told 124 = .ok (.getfield 25, 3) := by decide +kernel
theorem dX5_told_127 : decode cX5_told 127 = .ok (.iload_n 1, 1) := by decide +kernel
theorem dX5_told_128 : decode cX5_told 128 = .ok (.iaload, 1) := by decide +kernel
theorem dX5_told_129 : decode cX5_told 129 = .ok (.ireturn, 1) := by decide +kernel
set_option maxRecDepth 20000 in
theorem ggX5_count_X5_all : GoodIn wsX5_count wsX5_all := goodIn_r _ [9, 2, 41, 42, 43, 44, 45, 46, 47, 48, 49, 50, 51, 52, 53] (by decide +kernel) (by decide +kernel)
set_option maxRecDepth 20000 in
theorem gX5_count_X5_all : GoodIn wsX5_count (wsV RX5 72 RX5 yX5_all wsX5_all) := goodIn_app (goodIn_of _ (by decide +kernel)) ggX5_count_X5_all
set_option maxRecDepth 20000 in
theorem ggX5_count_X5_closeBy : GoodIn wsX5_count wsX5_closeBy := goodIn_r _ [13, 2, 14, 15, 4, 16, 17, 18, 8, 19, 1, 20, 21, 22, 23, 24, 25, 26, 27, 28, 29, 30, 31, 41, 42, 43, 44, 45, 46, 47, 48, 49, 50, 51, 52, 53] (by decide +kernel) (by decide +kernel)
set_option maxRecDepth 20000 in
theorem gX5_count_X5_closeBy : GoodIn wsX5_count (wsV RX5 76 RX5 yX5_closeBy wsX5_closeBy) := goodIn_app (goodIn_of _ (by decide +kernel)) ggX5_count_X5_closeBy
set_option maxRecDepth 20000 in
theorem ggX5_count_X5_beginRounds : GoodIn wsX5_count wsX5_beginRounds := goodIn_r _ [35, 2, 14, 15, 4, 16, 17, 18, 8, 19, 1, 20, 21, 22, 23, 41, 42, 43, 44, 45, 46, 47, 48, 49, 50, 51, 52, 53] (by decide +kernel) (by decide +kernel)
set_option maxRecDepth 20000 in
theorem gX5_count_X5_beginRounds : GoodIn wsX5_count (wsV RX5 83 RX5 yX5_beginRounds wsX5_beginRounds) := goodIn_app (goodIn_of _ (by decide +kernel)) ggX5_count_X5_beginRounds
set_option maxRecDepth 20000 in
theorem ggX5_count_X5_nextRound : GoodIn wsX5_count wsX5_nextRound := goodIn_r _ [39, 1, 40, 4, 28, 29, 30, 31, 20, 21, 22, 8, 23, 41, 42, 43, 44, 45, 46, 47, 48, 49, 50, 51, 52, 53] (by decide +kernel) (by decide +kernel)
set_option maxRecDepth 20000 in
theorem gX5_count_X5_nextRound : GoodIn wsX5_count (wsV RX5 86 RX5 yX5_nextRound wsX5_nextRound) := goodIn_app (goodIn_of _ (by decide +kernel)) ggX5_count_X5_nextRound
theorem dX5_count_0 : decode cX5_count 0 = .ok (.iload_n 1, 1) := by decide +kernel
theorem dX5_count_1 : decode cX5_count 1 = .ok (.tableswitch 117 0 4 #[35, 40, 45, 50, 96], 35) := by decide +kernel
theorem dX5_count_36 : decode cX5_count 36 = .ok (.aload_n 0, 1) := by decide +kernel
theorem dX5_count_37 : decode cX5_count 37 = .ok (.getfield 37, 3) := by decide +kernel
theorem dX5_count_40 : decode cX5_count 40 = .ok (.ireturn, 1) := by decide +kernel
theorem dX5_count_41 : decode cX5_count 41 = .ok (.aload_n 0, 1) := by decide +kernel
theorem dX5_count_42 : decode cX5_count 42 = .ok (.getfield 45, 3) := by decide +kernel
theorem dX5_count_45 : decode cX5_count 45 = .ok (.ireturn, 1) := by decide +kernel
theorem dX5_count_46 : decode cX5_count 46 = .ok (.aload_n 0, 1) := by decide +kernel
theorem dX5_count_47 : decode cX5_count 47 = .ok (.getfield 48, 3) := by decide +kernel
theorem dX5_count_50 : decode cX5_count 50 = .ok (.ireturn, 1) := by decide +kernel
theorem dX5_count_51 : decode cX5_count 51 = .ok (.aload_n 0, 1) := by decide +kernel
theorem dX5_count_52 : decode cX5_count 52 = .ok (.aload_n 0, 1) := by decide +kernel
theorem dX5_count_53 : decode cX5_count 53 = .ok (.invokevirtual 72, 3) := by decide +kernel
theorem dX5_count_56 : decode cX5_count 56 = .ok (.invokevirtual 76, 3) := by decide +kernel
theorem dX5_count_59 : decode cX5_count 59 = .ok (.iconst 0, 1) := by decide +kernel
theorem dX5_count_60 : decode cX5_count 60 = .ok (.istore_n 2, 1) := by decide +kernel
theorem dX5_count_61 : decode cX5_count 61 = .ok (.iconst 0, 1) := by decide +kernel
theorem dX5_count_62 : decode cX5_count 62 = .ok (.istore_n 3, 1) := by decide +kernel
theorem dX5_count_63 : decode cX5_count 63 = .ok (.iload_n 3, 1) := by decide +kernel
theorem dX5_count_64 : decode cX5_count 64 = .ok (.aload_n 0, 1) := by decide +kernel
theorem dX5_count_65 : decode cX5_count 65 = .ok (.getfield 37, 3) := by decide +kernel
theorem dX5_count_68 : decode cX5_count 68 = .ok (.if_icmp .ge 27, 3) := by decide +kernel
theorem dX5_count_71 : decode cX5_count 71 = .ok (.aload_n 0, 1) := by decide +kernel
theorem dX5_count_72 : decode cX5_count 72 = .ok (.getfield 28, 3) := by decide +kernel
theorem dX5_count_75 : decode cX5_count 75 = .ok (.iload_n 3, 1) := by decide +kernel
theorem dX5_count_76 : decode cX5_count 76 = .ok (.iaload, 1) := by decide +kernel
theorem dX5_count_77 : decode cX5_count 77 = .ok (.iload_n 3, 1) := by decide +kernel
theorem dX5_count_78 : decode cX5_count 78 = .ok (.if_icmp .ne 9, 3) := by decide +kernel
theorem dX5_count_81 : decode cX5_count 81 = .ok (.iload_n 2, 1) := by decide +kernel
theorem dX5_count_82 : decode cX5_count 82 = .ok (.iconst 1, 1) := by decide +kernel
theorem dX5_count_83 : decode cX5_count 83 = .ok (.iadd, 1) := by decide +kernel
theorem dX5_count_84 : decode cX5_count 84 = .ok (.goto 4, 3) := by decide +kernel
theorem dX5_count_87 : decode cX5_count 87 = .ok (.iload_n 2, 1) := by decide +kernel
theorem dX5_count_88 : decode cX5_count 88 = .ok (.istore_n 2, 1) := by decide +kernel
theorem dX5_count_89 : decode cX5_count 89 = .ok (.iinc 3 1, 3) := by decide +kernel
theorem dX5_count_92 : decode cX5_count 92 = .ok (.goto (-29), 3) := by decide +kernel
theorem dX5_count_95 : decode cX5_count 95 = .ok (.iload_n 2, 1) := by decide +kernel
theorem dX5_count_96 : decode cX5_count 96 = .ok (.ireturn, 1) := by decide +kernel
theorem dX5_count_97 : decode cX5_count 97 = .ok (.aload_n 0, 1) := by decide +kernel
theorem dX5_count_98 : decode cX5_count 98 = .ok (.invokevirtual 83, 3) := by decide +kernel
theorem dX5_count_101 : decode cX5_count 101 = .ok (.iconst 0, 1) := by decide +kernel
theorem dX5_count_102 : decode cX5_count 102 = .ok (.istore_n 2, 1) := by decide +kernel
theorem dX5_count_103 : decode cX5_count 103 = .ok (.aload_n 0, 1) := by decide +kernel
theorem dX5_count_104 : decode cX5_count 104 = .ok (.invokevirtual 86, 3) := by decide +kernel
theorem dX5_count_107 : decode cX5_count 107 = .ok (.ifCond .eq 9, 3) := by decide +kernel
theorem dX5_count_110 : decode cX5_count 110 = .ok (.iinc 2 1, 3) := by decide +kernel
theorem dX5_count_113 : decode cX5_count 113 = .ok (.goto (-10), 3) := by decide +kernel
theorem dX5_count_116 : decode cX5_count 116 = .ok (.iload_n 2, 1) := by decide +kernel
theorem dX5_count_117 : decode cX5_count 117 = .ok (.ireturn, 1) := by decide +kernel
theorem dX5_count_118 : decode cX5_count 118 = .ok (.bipush (-2), 2) := by decide +kernel
theorem dX5_count_120 : decode cX5_count 120 = .ok (.ireturn, 1) := by decide +kernel
theorem dJ13_bitCount_95d88_0 : decode cJ13_bitCount_95d88 0 = .ok (.lload_n 0, 1) := by decide +kernel
theorem dJ13_bitCount_95d88_1 : decode cJ13_bitCount_95d88 1 = .ok (.lload_n 0, 1) := by decide +kernel
theorem dJ13_bitCount_95d88_2 : decode cJ13_bitCount_95d88 2 = .ok (.iconst 1, 1) := by decide +kernel
theorem dJ13_bitCount_95d88_3 : decode cJ13_bitCount_95d88 3 = .ok (.lushr, 1) := by decide +kernel
theorem dJ13_bitCount_95d88_4 : decode cJ13_bitCount_95d88 4 = .ok (.ldc2_w 314, 3) := by decide +kernel
theorem dJ13_bitCount_95d88_7 : decode cJ13_bitCount_95d88 7 = .ok (.land, 1) := by decide +kernel
theorem dJ13_bitCount_95d88_8 : decode cJ13_bitCount_95d88 8 = .ok (.lsub, 1) := by decide +kernel
theorem dJ13_bitCount_95d88_9 : decode cJ13_bitCount_95d88 9 = .ok (.lstore_n 0, 1) := by decide +kernel
theorem dJ13_bitCount_95d88_10 : decode cJ13_bitCount_95d88 10 = .ok (.lload_n 0, 1) := by decide +kernel
theorem dJ13_bitCount_95d88_11 : decode cJ13_bitCount_95d88 11 = .ok (.ldc2_w 316, 3) := by decide +kernel
theorem dJ13_bitCount_95d88_14 : decode cJ13_bitCount_95d88 14 = .ok (.land, 1) := by decide +kernel
theorem dJ13_bitCount_95d88_15 : decode cJ13_bitCount_95d88 15 = .ok (.lload_n 0, 1) := by decide +kernel
theorem dJ13_bitCount_95d88_16 : decode cJ13_bitCount_95d88 16 = .ok (.iconst 2, 1) := by decide +kernel
theorem dJ13_bitCount_95d88_17 : decode cJ13_bitCount_95d88 17 = .ok (.lushr, 1) := by decide +kernel
theorem dJ13_bitCount_95d88_18 : decode cJ13_bitCount_95d88 18 = .ok (.ldc2_w 316, 3) := by decide +kernel
theorem dJ13_bitCount_95d88_21 : decode cJ13_bitCount_95d88 21 = .ok (.land, 1) := by decide +kernel
theorem dJ13_bitCount_95d88_22 : decode cJ13_bitCount_95d88 22 = .ok (.ladd, 1) := by decide +kernel
theorem dJ13_bitCount_95d88_23 : decode cJ13_bitCount_95d88 23 = .ok (.lstore_n 0, 1) := by decide +kernel
theorem dJ13_bitCount_95d88_24 : decode cJ13_bitCount_95d88 24 = .ok (.lload_n 0, 1) := by decide +kernel
theorem dJ13_bitCount_95d88_25 : decode cJ13_bitCount_95d88 25 = .ok (.lload_n 0, 1) := by decide +kernel
theorem dJ13_bitCount_95d88_26 : decode cJ13_bitCount_95d88 26 = .ok (.iconst 4, 1) := by decide +kernel
theorem dJ13_bitCount_95d88_27 : decode cJ13_bitCount_95d88 27 = .ok (.lushr, 1) := by decide +kernel
theorem dJ13_bitCount_95d88_28 : decode cJ13_bitCount_95d88 28 = .ok (.ladd, 1) := by decide +kernel
theorem dJ13_bitCount_95d88_29 : decode cJ13_bitCount_95d88 29 = .ok (.ldc2_w 318, 3) := by decide +kernel
theorem dJ13_bitCount_95d88_32 : decode cJ13_bitCount_95d88 32 = .ok (.land, 1) := by decide +kernel
theorem dJ13_bitCount_95d88_33 : decode cJ13_bitCount_95d88 33 = .ok (.lstore_n 0, 1) := by decide +kernel
theorem dJ13_bitCount_95d88_34 : decode cJ13_bitCount_95d88 34 = .ok (.lload_n 0, 1) := by decide +kernel
theorem dJ13_bitCount_95d88_35 : decode cJ13_bitCount_95d88 35 = .ok (.lload_n 0, 1) := by decide +kernel
theorem dJ13_bitCount_95d88_36 : decode cJ13_bitCount_95d88 36 = .ok (.bipush 8, 2) := by decide +kernel
theorem dJ13_bitCount_95d88_38 : decode cJ13_bitCount_95d88 38 = .ok (.lushr, 1) := by decide +kernel
theorem dJ13_bitCount_95d88_39 : decode cJ13_bitCount_95d88 39 = .ok (.ladd, 1) := by decide +kernel
theorem dJ13_bitCount_95d88_40 : decode cJ13_bitCount_95d88 40 = .ok (.lstore_n 0, 1) := by decide +kernel
theorem dJ13_bitCount_95d88_41 : decode cJ13_bitCount_95d88 41 = .ok (.lload_n 0, 1) := by decide +kernel
theorem dJ13_bitCount_95d88_42 : decode cJ13_bitCount_95d88 42 = .ok (.lload_n 0, 1) := by decide +kernel
theorem dJ13_bitCount_95d88_43 : decode cJ13_bitCount_95d88 43 = .ok (.bipush 16, 2) := by decide +kernel
theorem dJ13_bitCount_95d88_45 : decode cJ13_bitCount_95d88 45 = .ok (.lushr, 1) := by decide +kernel
theorem dJ13_bitCount_95d88_46 : decode cJ13_bitCount_95d88 46 = .ok (.ladd, 1) := by decide +kernel
theorem dJ13_bitCount_95d88_47 : decode cJ13_bitCount_95d88 47 = .ok (.lstore_n 0, 1) := by decide +kernel
theorem dJ13_bitCount_95d88_48 : decode cJ13_bitCount_95d88 48 = .ok (.lload_n 0, 1) := by decide +kernel
theorem dJ13_bitCount_95d88_49 : decode cJ13_bitCount_95d88 49 = .ok (.lload_n 0, 1) := by decide +kernel
theorem dJ13_bitCount_95d88_50 : decode cJ13_bitCount_95d88 50 = .ok (.bipush 32, 2) := by decide +kernel
theorem dJ13_bitCount_95d88_52 : decode cJ13_bitCount_95d88 52 = .ok (.lushr, 1) := by decide +kernel
theorem dJ13_bitCount_95d88_53 : decode cJ13_bitCount_95d88 53 = .ok (.ladd, 1) := by decide +kernel
theorem dJ13_bitCount_95d88_54 : decode cJ13_bitCount_95d88 54 = .ok (.lstore_n 0, 1) := by decide +kernel
theorem dJ13_bitCount_95d88_55 : decode cJ13_bitCount_95d88 55 = .ok (.lload_n 0, 1) := by decide +kernel
theorem dJ13_bitCount_95d88_56 : decode cJ13_bitCount_95d88 56 = .ok (.l2i, 1) := by decide +kernel
theorem dJ13_bitCount_95d88_57 : decode cJ13_bitCount_95d88 57 = .ok (.bipush 127, 2) := by decide +kernel
theorem dJ13_bitCount_95d88_59 : decode cJ13_bitCount_95d88 59 = .ok (.iand, 1) := by decide +kernel
theorem dJ13_bitCount_95d88_60 : decode cJ13_bitCount_95d88 60 = .ok (.ireturn, 1) := by decide +kernel
theorem dJ9_max_7cf53_0 : decode cJ9_max_7cf53 0 = .ok (.iload_n 0, 1) := by decide +kernel
theorem dJ9_max_7cf53_1 : decode cJ9_max_7cf53 1 = .ok (.iload_n 1, 1) := by decide +kernel
theorem dJ9_max_7cf53_2 : decode cJ9_max_7cf53 2 = .ok (.if_icmp .lt 7, 3) := by decide +kernel
theorem dJ9_max_7cf53_5 : decode cJ9_max_7cf53 5 = .ok (.iload_n 0, 1) := by decide +kernel
theorem dJ9_max_7cf53_6 : decode cJ9_max_7cf53 6 = .ok (.goto 4, 3) := by decide +kernel
theorem dJ9_max_7cf53_9 : decode cJ9_max_7cf53 9 = .ok (.iload_n 1, 1) := by decide +kernel
theorem dJ9_max_7cf53_10 : decode cJ9_max_7cf53 10 = .ok (.ireturn, 1) := by decide +kernel
theorem dJ9_min_7cf53_0 : decode cJ9_min_7cf53 0 = .ok (.iload_n 0, 1) := by decide +kernel
theorem dJ9_min_7cf53_1 : decode cJ9_min_7cf53 1 = .ok (.iload_n 1, 1) := by decide +kernel
theorem dJ9_min_7cf53_2 : decode cJ9_min_7cf53 2 = .ok (.if_icmp .gt 7, 3) := by decide +kernel
theorem dJ9_min_7cf53_5 : decode cJ9_min_7cf53 5 = .ok (.iload_n 0, 1) := by decide +kernel
theorem dJ9_min_7cf53_6 : decode cJ9_min_7cf53 6 = .ok (.goto 4, 3) := by decide +kernel
theorem dJ9_min_7cf53_9 : decode cJ9_min_7cf53 9 = .ok (.iload_n 1, 1) := by decide +kernel
theorem dJ9_min_7cf53_10 : decode cJ9_min_7cf53 10 = .ok (.ireturn, 1) := by decide +kernel
theorem dJ7_fill_53178_0 : decode cJ7_fill_53178 0 = .ok (.iconst 0, 1) := by decide +kernel
theorem dJ7_fill_53178_1 : decode cJ7_fill_53178 1 = .ok (.istore_n 2, 1) := by decide +kernel
theorem dJ7_fill_53178_2 : decode cJ7_fill_53178 2 = .ok (.aload_n 0, 1) := by decide +kernel
theorem dJ7_fill_53178_3 : decode cJ7_fill_53178 3 = .ok (.arraylength, 1) := by decide +kernel
theorem dJ7_fill_53178_4 : decode cJ7_fill_53178 4 = .ok (.istore_n 3, 1) := by decide +kernel
theorem dJ7_fill_53178_5 : decode cJ7_fill_53178 5 = .ok (.iload_n 2, 1) := by decide +kernel
theorem dJ7_fill_53178_6 : decode cJ7_fill_53178 6 = .ok (.iload_n 3, 1) := by decide +kernel
theorem dJ7_fill_53178_7 : decode cJ7_fill_53178 7 = .ok (.if_icmp .ge 13, 3) := by decide +kernel
theorem dJ7_fill_53178_10 : decode cJ7_fill_53178 10 = .ok (.aload_n 0, 1) := by decide +kernel
theorem dJ7_fill_53178_11 : decode cJ7_fill_53178 11 = .ok (.iload_n 2, 1) := by decide +kernel
theorem dJ7_fill_53178_12 : decode cJ7_fill_53178 12 = .ok (.iload_n 1, 1) := by decide +kernel
theorem dJ7_fill_53178_13 : decode cJ7_fill_53178 13 = .ok (.iastore, 1) := by decide +kernel
theorem dJ7_fill_53178_14 : decode cJ7_fill_53178 14 = .ok (.iinc 2 1, 3) := by decide +kernel
theorem dJ7_fill_53178_17 : decode cJ7_fill_53178 17 = .ok (.goto (-12), 3) := by decide +kernel
theorem dJ7_fill_53178_20 : decode cJ7_fill_53178 20 = .ok (.return_, 1) := by decide +kernel
