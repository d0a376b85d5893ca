set_option maxRecDepth 20000 in
theorem ggX5_init_X5_format : GoodIn wsX5_init wsX5_format := goodIn_r _ [18, 5, 6, 19, 20, 7, 21, 22, 17, 23, 24, 25, 26, 27, 28, 29, 30, 31, 32, 33, 34, 35] (by decide +kernel) (by decide +kernel)
set_option maxRecDepth 20000 in
theorem gX5_init_X5_format : GoodIn wsX5_init (wsV RX5 35 RX5 yX5_format wsX5_format) := goodIn_app (goodIn_of _ (by decide +kernel)) ggX5_init_X5_format
theorem dX5_init_0 : decode cX5_init 0 = .ok (.aload_n 0, 1) := by decide +kernel
theorem dX5_init_1 : decode cX5_init 1 = .ok (.invokespecial 1, 3) := by decide +kernel
theorem dX5_init_4 : decode cX5_init 4 = .ok (.aload_n 0, 1) := by decide +kernel
theorem dX5_init_5 : decode cX5_init 5 = .ok (.sipush 332, 3) := by decide +kernel
theorem dX5_init_8 : decode cX5_init 8 = .ok (.newarray .int, 2) := by decide +kernel
theorem dX5_init_10 : decode cX5_init 10 = .ok (.putfield 7, 3) := by decide +kernel
theorem dX5_init_13 : decode cX5_init 13 = .ok (.aload_n 0, 1) := by decide +kernel
theorem dX5_init_14 : decode cX5_init 14 = .ok (.bipush 110, 2) := by decide +kernel
theorem dX5_init_16 : decode cX5_init 16 = .ok (.newarray .int, 2) := by decide +kernel
theorem dX5_init_18 : decode cX5_init 18 = .ok (.putfield 13, 3) := by decide +kernel
theorem dX5_init_21 : decode cX5_init 21 = .ok (.aload_n 0, 1) := by decide +kernel
theorem dX5_init_22 : decode cX5_init 22 = .ok (.iconst 4, 1) := by decide +kernel
theorem dX5_init_23 : decode cX5_init 23 = .ok (.newarray .int, 2) := by decide +kernel
theorem dX5_init_25 : decode cX5_init 25 = .ok (.putfield 16, 3) := by decide +kernel
theorem dX5_init_28 : decode cX5_init 28 = .ok (.aload_n 0, 1) := by decide +kernel
theorem dX5_init_29 : decode cX5_init 29 = .ok (.bipush 110, 2) := by decide +kernel
theorem dX5_init_31 : decode cX5_init 31 = .ok (.newarray .int, 2) := by decide +kernel
theorem dX5_init_33 : decode cX5_init 33 = .ok (.putfield 19, 3) := by decide +kernel
theorem dX5_init_36 : decode cX5_init 36 = .ok (.aload_n 0, 1) := by decide +kernel
theorem dX5_init_37 : decode cX5_init 37 = .ok (.bipush 32, 2) := by decide +kernel
theorem dX5_init_39 : decode cX5_init 39 = .ok (.newarray .int, 2) := by decide +kernel
theorem dX5_init_41 : decode cX5_init 41 = .ok (.putfield 22, 3) := by decide +kernel
theorem dX5_init_44 : decode cX5_init 44 = .ok (.aload_n 0, 1) := by decide +kernel
theorem dX5_init_45 : decode cX5_init 45 = .ok (.bipush 64, 2) := by decide +kernel
theorem dX5_init_47 : decode cX5_init 47 = .ok (.newarray .boolean, 2) := by decide +kernel
theorem dX5_init_49 : decode cX5_init 49 = .ok (.putfield 25, 3) := by decide +kernel
theorem dX5_init_52 : decode cX5_init 52 = .ok (.aload_n 0, 1) := by decide +kernel
theorem dX5_init_53 : decode cX5_init 53 = .ok (.iconst 4, 1) := by decide +kernel
theorem dX5_init_54 : decode cX5_init 54 = .ok (.newarray .int, 2) := by decide +kernel
theorem dX5_init_56 : decode cX5_init 56 = .ok (.putfield 29, 3) := by decide +kernel
theorem dX5_init_59 : decode cX5_init 59 = .ok (.aload_n 0, 1) := by decide +kernel
theorem dX5_init_60 : decode cX5_init 60 = .ok (.bipush 110, 2) := by decide +kernel
theorem dX5_init_62 : decode cX5_init 62 = .ok (.newarray .int, 2) := by decide +kernel
theorem dX5_init_64 : decode cX5_init 64 = .ok (.putfield 32, 3) := by decide +kernel
theorem dX5_init_67 : decode cX5_init 67 = .ok (.aload_n 0, 1) := by decide +kernel
theorem dX5_init_68 : decode cX5_init 68 = .ok (.invokevirtual 35, 3) := by decide +kernel
theorem dX5_init_71 : decode cX5_init 71 = .ok (.return_, 1) := by decide +kernel
theorem dX5_within_0 : decode cX5_within 0 = .ok (.iload_n 0, 1) := by decide +kernel
theorem dX5_within_1 : decode cX5_within 1 = .ok (.iload_n 1, 1) := by decide +kernel
theorem dX5_within_2 : decode cX5_within 2 = .ok (.if_icmp .lt 12, 3) := by decide +kernel
theorem dX5_within_5 : decode cX5_within 5 = .ok (.iload_n 0, 1) := by decide +kernel
theorem dX5_within_6 : decode cX5_within 6 = .ok (.iload_n 2, 1) := by decide +kernel
theorem dX5_within_7 : decode cX5_within 7 = .ok (.if_icmp .gt 7, 3) := by decide +kernel
theorem dX5_within_10 : decode cX5_within 10 = .ok (.iconst 1, 1) := by decide +kernel
theorem dX5_within_11 : decode cX5_within 11 = .ok (.goto 4, 3) := by decide +kernel
theorem dX5_within_14 : decode cX5_within 14 = .ok (.iconst 0, 1) := by decide +kernel
theorem dX5_within_15 : decode cX5_within 15 = .ok (.ireturn, 1) := by decide +kernel
set_option maxRecDepth 20000 in
theorem ggX5_format_X5_within : GoodIn wsX5_format wsX5_within := goodIn_r _ [9] (by decide +kernel) (by decide +kernel)
set_option maxRecDepth 20000 in
theorem gX5_format_X5_within : GoodIn wsX5_format (va_wsS RX5 38 yX5_within wsX5_within) := goodIn_app (goodIn_of _ (by decide +kernel)) ggX5_format_X5_within
theorem dX5_format_0 : decode cX5_format 0 = .ok (.iconst 0, 1) := by decide +kernel
theorem dX5_format_1 : decode cX5_format 1 = .ok (.istore_n 1, 1) := by decide +kernel
theorem dX5_format_2 : decode cX5_format 2 = .ok (.iload_n 1, 1) := by decide +kernel
theorem dX5_format_3 : decode cX5_format 3 = .ok (.sipush 332, 3) := by decide +kernel
theorem dX5_format_6 : decode cX5_format 6 = .ok (.if_icmp .ge 32, 3) := by decide +kernel
theorem dX5_format_9 : decode cX5_format 9 = .ok (.aload_n 0, 1) := by decide +kernel
theorem dX5_format_10 : decode cX5_format 10 = .ok (.getfield 7, 3) := by decide +kernel
theorem dX5_format_13 : decode cX5_format 13 = .ok (.iload_n 1, 1) := by decide +kernel
theorem dX5_format_14 : decode cX5_format 14 = .ok (.iload_n 1, 1) := by decide +kernel
theorem dX5_format_15 : decode cX5_format 15 = .ok (.bipush 42, 2) := by decide +kernel
theorem dX5_format_17 : decode cX5_format 17 = .ok (.bipush 44, 2) := by decide +kernel
theorem dX5_format_19 : decode cX5_format 19 = .ok (.invokestatic 38, 3) := by decide +kernel
theorem dX5_format_22 : decode cX5_format 22 = .ok (.ifCond .eq 8, 3) := by decide +kernel
theorem dX5_format_25 : decode cX5_format 25 = .ok (.bipush 32, 2) := by decide +kernel
theorem dX5_format_27 : decode cX5_format 27 = .ok (.goto 4, 3) := by decide +kernel
theorem dX5_format_30 : decode cX5_format 30 = .ok (.iconst 0, 1) := by decide +kernel
theorem dX5_format_31 : decode cX5_format 31 = .ok (.iastore, 1) := by decide +kernel
theorem dX5_format_32 : decode cX5_format 32 = .ok (.iinc 1 1, 3) := by decide +kernel
theorem dX5_format_35 : decode cX5_format 35 = .ok (.goto (-33), 3) := by decide +kernel
theorem dX5_format_38 : decode cX5_format 38 = .ok (.iconst 0, 1) := by decide +kernel
theorem dX5_format_39 : decode cX5_format 39 = .ok (.istore_n 1, 1) := by decide +kernel
theorem dX5_format_40 : decode cX5_format 40 = .ok (.iload_n 1, 1) := by decide +kernel
theorem dX5_format_41 : decode cX5_format 41 = .ok (.bipush 110, 2) := by decide +kernel
theorem dX5_format_43 : decode cX5_format 43 = .ok (.if_icmp .ge 21, 3) := by decide +kernel
theorem dX5_format_46 : decode cX5_format 46 = .ok (.aload_n 0, 1) := by decide +kernel
theorem dX5_format_47 : decode cX5_format 47 = .ok (.getfield 13, 3) := by decide +kernel
theorem dX5_format_50 : decode cX5_format 50 = .ok (.iload_n 1, 1) := by decide +kernel
theorem dX5_format_51 : decode cX5_format 51 = .ok (.aload_n 0, 1) := by decide +kernel
theorem dX5_format_52 : decode cX5_format 52 = .ok (.getfield 7, 3) := by decide +kernel
theorem dX5_format_55 : decode cX5_format 55 = .ok (.iload_n 1, 1) := by decide +kernel
theorem dX5_format_56 : decode cX5_format 56 = .ok (.iaload, 1) := by decide +kernel
theorem dX5_format_57 : decode cX5_format 57 = .ok (.iastore, 1) := by decide +kernel
theorem dX5_format_58 : decode cX5_format 58 = .ok (.iinc 1 1, 3) := by decide +kernel
theorem dX5_format_61 : decode cX5_format 61 = .ok (.goto (-21), 3) := by decide +kernel
theorem dX5_format_64 : decode cX5_format 64 = .ok (.aload_n 0, 1) := by decide +kernel
theorem dX5_format_65 : decode cX5_format 65 = .ok (.iconst 1, 1) := by decide +kernel
theorem dX5_format_66 : decode cX5_format 66 = .ok (.putfield 42, 3) := by decide +kernel
theorem dX5_format_69 : decode cX5_format 69 = .ok (.aload_n 0, 1) := by decide +kernel
theorem dX5_format_70 : decode cX5_format 70 = .ok (.iconst (-1), 1) := by decide +kernel
theorem dX5_format_71 : decode cX5_format 71 = .ok (.putfield 46, 3) := by decide +kernel
theorem dX5_format_74 : decode cX5_format 74 = .ok (.iconst 0, 1) := by decide +kernel
theorem dX5_format_75 : decode cX5_format 75 = .ok (.istore_n 1, 1) := by decide +kernel
theorem dX5_format_76 : decode cX5_format 76 = .ok (.iload_n 1, 1) := by decide +kernel
theorem dX5_format_77 : decode cX5_format 77 = .ok (.iconst 4, 1) := by decide +kernel
theorem dX5_format_78 : decode cX5_format 78 = .ok (.if_icmp .ge 16, 3) := by decide +kernel
theorem dX5_format_81 : decode cX5_format 81 = .ok (.aload_n 0, 1) := by decide +kernel
theorem dX5_format_82 : decode cX5_format 82 = .ok (.getfield 16, 3) := by decide +kernel
theorem dX5_format_85 : decode cX5_format 85 = .ok (.iload_n 1, 1) := by decide +kernel
theorem dX5_format_86 : decode cX5_format 86 = .ok (.iconst 0, 1) := by decide +kernel
theorem dX5_format_87 : decode cX5_format 87 = .ok (.iastore, 1) := by decide +kernel
theorem dX5_format_88 : decode cX5_format 88 = .ok (.iinc 1 1, 3) := by decide +kernel
theorem dX5_format_91 : decode cX5_format 91 = .ok (.goto (-15), 3) := by decide +kernel
theorem dX5_format_94 : decode cX5_format 94 = .ok (.return_, 1) := by decide +kernel
theorem dX5_start_0 : decode cX5_start 0 = .ok (.iload_n 0, 1) := by decide +kernel
theorem dX5_start_1 : decode cX5_start 1 = .ok (.iconst 1, 1) := by decide +kernel
theorem dX5_start_2 : decode cX5_start 2 = .ok (.isub, 1) := by decide +kernel
theorem dX5_start_3 : decode cX5_start 3 = .ok (.bipush 32, 2) := by decide +kernel
theorem dX5_start_5 : decode cX5_start 5 = .ok (.irem, 1) := by decide +kernel
theorem dX5_start_6 : decode cX5_start 6 = .ok (.ireturn, 1) := by decide +kernel
theorem dX5_order_0 : decode cX5_order 0 = .ok (.iload_n 0, 1) := by decide +kernel
theorem dX5_order_1 : decode cX5_order 1 = .ok (.iconst 1, 1) := by decide +kernel
theorem dX5_order_2 : decode cX5_order 2 = .ok (.isub, 1) := by decide +kernel
theorem dX5_order_3 : decode cX5_order 3 = .ok (.bipush 32, 2) := by decide +kernel
theorem dX5_order_5 : decode cX5_order 5 = .ok (.idiv, 1) := by decide +kernel
theorem dX5_order_6 : decode cX5_order 6 = .ok (.ireturn, 1) := by decide +kernel
set_option maxRecDepth 20000 in
theorem ggX5_size_X5_order : GoodIn wsX5_size wsX5_order := goodIn_r _ [4] (by decide +kernel) (by decide +kernel)
set_option maxRecDepth 20000 in
theorem gX5_size_X5_order : GoodIn wsX5_size (va_wsS RX5 50 yX5_order wsX5_order) := goodIn_app (goodIn_of _ (by decide +kernel)) ggX5_size_X5_order
theorem dX5_size_0 : decode cX5_size 0 = .ok (.iload_n 0, 1) := by decide +kernel
theorem dX5_size_1 : decode cX5_size 1 = .ok (.ifCond .ne 7, 3) := by decide +kernel
theorem dX5_size_4 : decode cX5_size 4 = .ok (.iconst 0, 1) := by decide +kernel
theorem dX5_size_5 : decode cX5_size 5 = .ok (.goto 9, 3) := by decide +kernel
theorem dX5_size_8 : decode cX5_size 8 = .ok (.iconst 1, 1) := by decide +kernel
theorem dX5_size_9 : decode cX5_size 9 = .ok (.iload_n 0, 1) := by decide +kernel
theorem dX5_size_10 : decode cX5_size 10 = .ok (.invokestatic 50, 3) := by decide +kernel
theorem dX5_size_13 : decode cX5_size 13 = .ok (.ishl, 1) := by decide +kernel
theorem dX5_size_14 : decode cX5_size 14 = .ok (.ireturn, 1) := by decide +kernel
set_option maxRecDepth 20000 in
theorem ggX5_isRun_X5_within : GoodIn wsX5_isRun wsX5_within := goodIn_r _ [4] (by decide +kernel) (by decide +kernel)
set_option maxRecDepth 20000 in
theorem gX5_isRun_X5_within : GoodIn wsX5_isRun (va_wsS RX5 38 yX5_within wsX5_within) := goodIn_app (goodIn_of _ (by decide +kernel)) ggX5_isRun_X5_within
set_option maxRecDepth 20000 in
theorem ggX5_isRun_X5_start : GoodIn wsX5_isRun wsX5_start := goodIn_r _ [7] (by decide +kernel) (by decide +kernel)
set_option maxRecDepth 20000 in
theorem gX5_isRun_X5_start : GoodIn wsX5_isRun (va_wsS RX5 54 yX5_start wsX5_start) := goodIn_app (goodIn_of _ (by decide +kernel)) ggX5_isRun_X5_start
set_option maxRecDepth 20000 in
theorem ggX5_isRun_X5_order : GoodIn wsX5_isRun wsX5_order := goodIn_r _ [10] (by decide +kernel) (by decide +kernel)
set_option maxRecDepth 20000 in
theorem gX5_isRun_X5_order : GoodIn wsX5_isRun (va_wsS RX5 50 yX5_order wsX5_order) := goodIn_app (goodIn_of _ (by decide +kernel)) ggX5_isRun_X5_order
theorem dX5_isRun_0 : decode cX5_isRun 0 = .ok (.iload_n 0, 1) := by decide +kernel
theorem dX5_isRun_1 : decode cX5_isRun 1 = .ok (.iconst 1, 1) := by decide +kernel
theorem dX5_isRun_2 : decode cX5_isRun 2 = .ok (.sipush 192, 3) := by decide +kernel
theorem dX5_isRun_5 : decode cX5_isRun 5 = .ok (.invokestatic 38, 3) := by decide +kernel
theorem dX5_isRun_8 : decode cX5_isRun 8 = .ok (.ifCond .eq 37, 3) := by decide +kernel
theorem dX5_isRun_11 : decode cX5_isRun 11 = .ok (.iload_n 0, 1) := by decide +kernel
theorem dX5_isRun_12 : decode cX5_isRun 12 = .ok (.invokestatic 54, 3) := by decide +kernel
theorem dX5_isRun_15 : decode cX5_isRun 15 = .ok (.iconst 1, 1) := by decide +kernel
theorem dX5_isRun_16 : decode cX5_isRun 16 = .ok (.iload_n 0, 1) := by decide +kernel
theorem dX5_isRun_17 : decode cX5_isRun 17 = .ok (.invokestatic 50, 3) := by decide +kernel
theorem dX5_isRun_20 : decode cX5_isRun 20 = .ok (.ishl, 1) := by decide +kernel
theorem dX5_isRun_21 : decode cX5_isRun 21 = .ok (.irem, 1) := by decide +kernel
theorem dX5_isRun_22 : decode cX5_isRun 22 = .ok (.ifCond .ne 23, 3) := by decide +kernel
theorem dX5_isRun_25 : decode cX5_isRun 25 = .ok (.iload_n 0, 1) := by decide +kernel
theorem dX5_isRun_26 : decode cX5_isRun 26 = .ok (.invokestatic 54, 3) := by decide +kernel
theorem dX5_isRun_29 : decode cX5_isRun 29 = .ok (.iconst 1, 1) := by decide +kernel
theorem dX5_isRun_30 : decode cX5_isRun 30 = .ok (.iload_n 0, 1) := by decide +kernel
theorem dX5_isRun_31 : decode cX5_isRun 31 = .ok (.invokestatic 50, 3) := by decide +kernel
theorem dX5_isRun_34 : decode cX5_isRun 34 = .ok (.ishl, 1) := by decide +kernel
theorem dX5_isRun_35 : decode cX5_isRun 35 = .ok (.iadd, 1) := by decide +kernel
theorem dX5_isRun_36 : decode cX5_isRun 36 = .ok (.bipush 32, 2) := by decide +kernel
theorem dX5_isRun_38 : decode cX5_isRun 38 = .ok (.if_icmp .gt 7, 3) := by decide +kernel
theorem dX5_isRun_41 : decode cX5_isRun 41 = .ok (.iconst 1, 1) := by decide +kernel
theorem dX5_isRun_42 : decode cX5_isRun 42 = .ok (.goto 4, 3) := by decide +kernel
theorem dX5_isRun_45 : decode cX5_isRun 45 = .ok (.iconst 0, 1) := by decide +kernel
theorem dX5_isRun_46 : decode cX5_isRun 46 = .ok (.ireturn, 1) := by decide +kernel
theorem dX5_allFree_0 : decode cX5_allFree 0 = .ok (.iconst 1, 1) := by decide +kernel
theorem dX5_allFree_1 : decode cX5_allFree 1 = .ok (.istore_n 3, 1) := by decide +kernel
theorem dX5_allFree_2 : decode cX5_allFree 2 = .ok (.iload_n 1, 1) := by decide +kernel
theorem dX5_allFree_3 : decode cX5_allFree 3 = .ok (.istore 4, 2) := by decide +kernel
theorem dX5_allFree_5 : decode cX5_allFree 5 = .ok (.iload 4, 2) := by decide +kernel
theorem dX5_allFree_7 : decode cX5_allFree 7 = .ok (.iload_n 1, 1) := by decide +kernel
theorem dX5_allFree_8 : decode cX5_allFree 8 = .ok (.iconst 1, 1) := by decide +kernel
theorem dX5_allFree_9 : decode cX5_allFree 9 = .ok (.iload_n 2, 1) := by decide +kernel
theorem dX5_allFree_10 : decode cX5_allFree 10 = .ok (.ishl, 1) := by decide +kernel
theorem dX5_allFree_11 : decode cX5_allFree 11 = .ok (.iadd, 1) := by decide +kernel
theorem dX5_allFree_12 : decode cX5_allFree 12 = .ok (.if_icmp .ge 28, 3) := by decide +kernel
theorem dX5_allFree_15 : decode cX5_allFree 15 = .ok (.iload_n 3, 1) := by decide +kernel
theorem dX5_allFree_16 : decode cX5_allFree 16 = .ok (.ifCond .eq 16, 3) := by decide +kernel
theorem dX5_allFree_19 : decode cX5_allFree 19 = .ok (.iload_n 0, 1) := by decide +kernel
theorem dX5_allFree_20 : decode cX5_allFree 20 = .ok (.iload 4, 2) := by decide +kernel
theorem dX5_allFree_22 : decode cX5_allFree 22 = .ok (.iushr, 1) := by decide +kernel
theorem dX5_allFree_23 : decode cX5_allFree 23 = .ok (.iconst 1, 1) := by decide +kernel
theorem dX5_allFree_24 : decode cX5_allFree 24 = .ok (.iand, 1) := by decide +kernel
theorem dX5_allFree_25 : decode cX5_allFree 25 = .ok (.ifCond .ne 7, 3) := by decide +kernel
theorem dX5_allFree_28 : decode cX5_allFree 28 = .ok (.iconst 1, 1) := by decide +kernel
theorem dX5_allFree_29 : decode cX5_allFree 29 = .ok (.goto 4, 3) := by decide +kernel
theorem dX5_allFree_32 : decode cX5_allFree 32 = .ok (.iconst 0, 1) := by decide +kernel
theorem dX5_allFree_33 : decode cX5_allFree 33 = .ok (.istore_n 3, 1) := by decide +kernel
theorem dX5_allFree_34 : decode cX5_allFree 34 = .ok (.iinc 4 1, 3) := by decide +kernel
theorem dX5_allFree_37 : decode cX5_allFree 37 = .ok (.goto (-32), 3) := by decide +kernel
theorem dX5_allFree_40 : decode cX5_allFree 40 = .ok (.iload_n 3, 1) := by decide +kernel
theorem dX5_allFree_41 : decode cX5_allFree 41 = .ok (.ireturn, 1) := by decide +kernel
set_option maxRecDepth 20000 in
theorem ggX5_isFree_X5_allFree : GoodIn wsX5_isFree wsX5_allFree := goodIn_r _ [4] (by decide +kernel) (by decide +kernel)
set_option maxRecDepth 20000 in
theorem gX5_isFree_X5_allFree : GoodIn wsX5_isFree (va_wsS RX5 57 yX5_allFree wsX5_allFree) := goodIn_app (goodIn_of _ (by decide +kernel)) ggX5_isFree_X5_allFree
theorem dX5_isFree_0 : decode cX5_isFree 0 = .ok (.iconst 2, 1) := by decide +kernel
theorem dX5_isFree_1 : decode cX5_isFree 1 = .ok (.iload_n 2, 1) := by decide +kernel
theorem dX5_isFree_2 : decode cX5_isFree 2 = .ok (.ishl, 1) := by decide +kernel
theorem dX5_isFree_3 : decode cX5_isFree 3 = .ok (.istore_n 3, 1) := by decide +kernel
theorem dX5_isFree_4 : decode cX5_isFree 4 = .ok (.iload_n 0, 1) := by decide +kernel
theorem dX5_isFree_5 : decode cX5_isFree 5 = .ok (.iload_n 1, 1) := by decide +kernel
theorem dX5_isFree_6 : decode cX5_isFree 6 = .ok (.iload_n 2, 1) := by decide +kernel
theorem dX5_isFree_7 : decode cX5_isFree 7 = .ok (.invokestatic 57, 3) := by decide +kernel
theorem dX5_isFree_10 : decode cX5_isFree 10 = .ok (.ifCond .eq 27, 3) := by decide +kernel
theorem dX5_isFree_13 : decode cX5_isFree 13 = .ok (.iload_n 2, 1) := by decide +kernel
theorem dX5_isFree_14 : decode cX5_isFree 14 = .ok (.iconst 5, 1) := by decide +kernel
theorem dX5_isFree_15 : decode cX5_isFree 15 = .ok (.if_icmp .eq 18, 3) := by decide +kernel
theorem dX5_isFree_18 : decode cX5_isFree 18 = .ok (.iload_n 0, 1) := by decide +kernel
theorem dX5_isFree_19 : decode cX5_isFree 19 = .ok (.iload_n 1, 1) := by decide +kernel
theorem dX5_isFree_20 : decode cX5_isFree 20 = .ok (.iload_n 3, 1) := by decide +kernel
theorem dX5_isFree_21 : decode cX5_isFree 21 = .ok (.idiv, 1) := by decide +kernel
theorem dX5_isFree_22 : decode cX5_isFree 22 = .ok (.iload_n 3, 1) := by decide +kernel
theorem dX5_isFree_23 : decode cX5_isFree 23 = .ok (.imul, 1) := by decide +kernel
theorem dX5_isFree_24 : decode cX5_isFree 24 = .ok (.iload_n 2, 1) := by decide +kernel
theorem dX5_isFree_25 : decode cX5_isFree 25 = .ok (.iconst 1, 1) := by decide +kernel
theorem dX5_isFree_26 : decode cX5_isFree 26 = .ok (.iadd, 1) := by decide +kernel
theorem dX5_isFree_27 : decode cX5_isFree 27 = .ok (.invokestatic 57, 3) := by decide +kernel
theorem dX5_isFree_30 : decode cX5_isFree 30 = .ok (.ifCond .ne 7, 3) := by decide +kernel
theorem dX5_isFree_33 : decode cX5_isFree 33 = .ok (.iconst 1, 1) := by decide +kernel
theorem dX5_isFree_34 : decode cX5_isFree 34 = .ok (.goto 4, 3) := by decide +kernel
theorem dX5_isFree_37 : decode cX5_isFree 37 = .ok (.iconst 0, 1) := by decide +kernel
theorem dX5_isFree_38 : decode cX5_isFree 38 = .ok (.ireturn, 1) := by decide +kernel
set_option maxRecDepth 20000 in
theorem ggX5_countFree_X5_isFree : GoodIn wsX5_countFree wsX5_isFree := goodIn_r _ [4, 5, 6, 3, 7] (by decide +kernel) (by decide +kernel)
set_option maxRecDepth 20000 in
theorem gX5_countFree_X5_isFree : GoodIn wsX5_countFree (va_wsS RX5 60 yX5_isFree wsX5_isFree) := goodIn_app (goodIn_of _ (by decide +kernel)) ggX5_countFree_X5_isFree
theorem dX5_countFree_0 : decode cX5_countFree 0 = .ok (.iconst 0, 1) := by decide +kernel
theorem dX5_countFree_1 : decode cX5_countFree 1 = .ok (.istore_n 2, 1) := by decide +kernel
theorem dX5_countFree_2 : decode cX5_countFree 2 = .ok (.iconst 0, 1) := by decide +kernel
theorem dX5_countFree_3 : decode cX5_countFree 3 = .ok (.istore_n 3, 1) := by decide +kernel
theorem dX5_countFree_4 : decode cX5_countFree 4 = .ok (.iload_n 3, 1) := by decide +kernel
theorem dX5_countFree_5 : decode cX5_countFree 5 = .ok (.bipush 32, 2) := by decide +kernel
theorem dX5_countFree_7 : decode cX5_countFree 7 = .ok (.if_icmp .ge 29, 3) := by decide +kernel
theorem dX5_countFree_10 : decode cX5_countFree 10 = .ok (.iload_n 0, 1) := by decide +kernel
theorem dX5_countFree_11 : decode cX5_countFree 11 = .ok (.iload_n 3, 1) := by decide +kernel
theorem dX5_countFree_12 : decode cX5_countFree 12 = .ok (.iload_n 1, 1) := by decide +kernel
theorem dX5_countFree_13 : decode cX5_countFree 13 = .ok (.invokestatic 60, 3) := by decide +kernel
theorem dX5_countFree_16 : decode cX5_countFree 16 = .ok (.ifCond .eq 9, 3) := by decide +kernel
theorem dX5_countFree_19 : decode cX5_countFree 19 = .ok (.iload_n 2, 1) := by decide +kernel
theorem dX5_countFree_20 : decode cX5_countFree 20 = .ok (.iconst 1, 1) := by decide +kernel
theorem dX5_countFree_21 : decode cX5_countFree 21 = .ok (.iadd, 1) := by decide +kernel
theorem dX5_countFree_22 : decode cX5_countFree 22 = .ok (.goto 4, 3) := by decide +kernel
theorem dX5_countFree_25 : decode cX5_countFree 25 = .ok (.iload_n 2, 1) := by decide +kernel
theorem dX5_countFree_26 : decode cX5_countFree 26 = .ok (.istore_n 2, 1) := by decide +kernel
theorem dX5_countFree_27 : decode cX5_countFree 27 = .ok (.iload_n 3, 1) := by decide +kernel
theorem dX5_countFree_28 : decode cX5_countFree 28 = .ok (.iconst 1, 1) := by decide +kernel
theorem dX5_countFree_29 : decode cX5_countFree 29 = .ok (.iload_n 1, 1) := by decide +kernel
theorem dX5_countFree_30 : decode cX5_countFree 30 = .ok (.ishl, 1) := by decide +kernel
theorem dX5_countFree_31 : decode cX5_countFree 31 = .ok (.iadd, 1) := by decide +kernel
theorem dX5_countFree_32 : decode cX5_countFree 32 = .ok (.istore_n 3, 1) := by decide +kernel
theorem dX5_countFree_33 : decode cX5_countFree 33 = .ok (.goto (-29), 3) := by decide +kernel
theorem dX5_countFree_36 : decode cX5_countFree 36 = .ok (.iload_n 2, 1) := by decide +kernel
theorem dX5_countFree_37 : decode cX5_countFree 37 = .ok (.ireturn, 1) := by decide +kernel
set_option maxRecDepth 20000 in
theorem ggX5_place_X5_isFree : GoodIn wsX5_place wsX5_isFree := goodIn_r _ [4, 5, 6, 3, 7] (by decide +kernel) (by decide +kernel)
set_option maxRecDepth 20000 in
theorem gX5_place_X5_isFree : GoodIn wsX5_place (va_wsS RX5 60 yX5_isFree wsX5_isFree) := goodIn_app (goodIn_of _ (by decide +kernel)) ggX5_place_X5_isFree
theorem dX5_place_0 : decode cX5_place 0 = .ok (.iload_n 1, 1) := by decide +kernel
theorem dX5_place_1 : decode cX5_place 1 = .ok (.istore_n 2, 1) := by decide +kernel
theorem dX5_place_2 : decode cX5_place 2 = .ok (.iload_n 2, 1) := by decide +kernel
theorem dX5_place_3 : decode cX5_place 3 = .ok (.iconst 5, 1) := by decide +kernel
theorem dX5_place_4 : decode cX5_place 4 = .ok (.if_icmp .gt 37, 3) := by decide +kernel
theorem dX5_place_7 : decode cX5_place 7 = .ok (.iconst 0, 1) := by decide +kernel
theorem dX5_place_8 : decode cX5_place 8 = .ok (.istore_n 3, 1) := by decide +kernel
theorem dX5_place_9 : decode cX5_place 9 = .ok (.iload_n 3, 1) := by decide +kernel
theorem dX5_place_10 : decode cX5_place 10 = .ok (.bipush 32, 2) := by decide +kernel
theorem dX5_place_12 : decode cX5_place 12 = .ok (.if_icmp .ge 23, 3) := by decide +kernel
theorem dX5_place_15 : decode cX5_place 15 = .ok (.iload_n 0, 1) := by decide +kernel
theorem dX5_place_16 : decode cX5_place 16 = .ok (.iload_n 3, 1) := by decide +kernel
theorem dX5_place_17 : decode cX5_place 17 = .ok (.iload_n 2, 1) := by decide +kernel
theorem dX5_place_18 : decode cX5_place 18 = .ok (.invokestatic 60, 3) := by decide +kernel
theorem dX5_place_21 : decode cX5_place 21 = .ok (.ifCond .eq 5, 3) := by decide +kernel
theorem dX5_place_24 : decode cX5_place 24 = .ok (.iload_n 3, 1) := by decide +kernel
theorem dX5_place_25 : decode cX5_place 25 = .ok (.ireturn, 1) := by decide +kernel
theorem dX5_place_26 : decode cX5_place 26 = .ok (.iload_n 3, 1) := by decide +kernel
theorem dX5_place_27 : decode cX5_place 27 = .ok (.iconst 1, 1) := by decide +kernel
theorem dX5_place_28 : decode cX5_place 28 = .ok (.iload_n 2, 1) := by decide +kernel
theorem dX5_place_29 : decode cX5_place 29 = .ok (.ishl, 1) := by decide +kernel
theorem dX5_place_30 : decode cX5_place 30 = .ok (.iadd, 1) := by decide +kernel
theorem dX5_place_31 : decode cX5_place 31 = .ok (.istore_n 3, 1) := by decide +kernel
theorem dX5_place_32 : decode cX5_place 32 = .ok (.goto (-23), 3) := by decide +kernel
theorem dX5_place_35 : decode cX5_place 35 = .ok (.iinc 2 1, 3) := by decide +kernel
theorem dX5_place_38 : decode cX5_place 38 = .ok (.goto (-36), 3) := by decide +kernel
theorem dX5_place_41 : decode cX5_place 41 = .ok (.iconst (-1), 1) := by decide +kernel
theorem dX5_place_42 : decode cX5_place 42 = .ok (.ireturn, 1) := by decide +kernel
theorem dX5_bits_0 : decode cX5_bits 0 = .ok (.iconst 0, 1) := by decide +kernel
theorem dX5_bits_1 : decode cX5_bits 1 = .ok (.istore_n 2, 1) := by decide +kernel
theorem dX5_bits_2 : decode cX5_bits 2 = .ok (.iload_n 0, 1) := by decide +kernel
theorem dX5_bits_3 : decode cX5_bits 3 = .ok (.istore_n 3, 1) := by decide +kernel
theorem dX5_bits_4 : decode cX5_bits 4 = .ok (.iload_n 3, 1) := by decide +kernel
theorem dX5_bits_5 : decode cX5_bits 5 = .ok (.iload_n 0, 1) := by decide +kernel
theorem dX5_bits_6 : decode cX5_bits 6 = .ok (.iconst 1, 1) := by decide +kernel
theorem dX5_bits_7 : decode cX5_bits 7 = .ok (.iload_n 1, 1) := by decide +kernel
theorem dX5_bits_8 : decode cX5_bits 8 = .ok (.ishl, 1) := by decide +kernel
theorem dX5_bits_9 : decode cX5_bits 9 = .ok (.iadd, 1) := by decide +kernel
theorem dX5_bits_10 : decode cX5_bits 10 = .ok (.if_icmp .ge 15, 3) := by decide +kernel
theorem dX5_bits_13 : decode cX5_bits 13 = .ok (.iload_n 2, 1) := by decide +kernel
theorem dX5_bits_14 : decode cX5_bits 14 = .ok (.iconst 1, 1) := by decide +kernel
theorem dX5_bits_15 : decode cX5_bits 15 = .ok (.iload_n 3, 1) := by decide +kernel
theorem dX5_bits_16 : decode cX5_bits 16 = .ok (.ishl, 1) := by decide +kernel
theorem dX5_bits_17 : decode cX5_bits 17 = .ok (.ior, 1) := by decide +kernel
theorem dX5_bits_18 : decode cX5_bits 18 = .ok (.istore_n 2, 1) := by decide +kernel
theorem dX5_bits_19 : decode cX5_bits 19 = .ok (.iinc 3 1, 3) := by decide +kernel
theorem dX5_bits_22 : decode cX5_bits 22 = .ok (.goto (-18), 3) := by decide +kernel
theorem dX5_bits_25 : decode cX5_bits 25 = .ok (.iload_n 2, 1) := by decide +kernel
theorem dX5_bits_26 : decode cX5_bits 26 = .ok (.ireturn, 1) := by decide +kernel
theorem dX5_extentOf_0 : decode cX5_extentOf 0 = .ok (.aload_n 0, 1) := by decide +kernel
theorem dX5_extentOf_1 : decode cX5_extentOf 1 = .ok (.getfield 13, 3) := by decide +kernel
theorem dX5_extentOf_4 : decode cX5_extentOf 4 = .ok (.bipush 7, 2) := by decide +kernel
theorem dX5_extentOf_6 : decode cX5_extentOf 6 = .ok (.iload_n 1, 1) := by decide +kernel
theorem dX5_extentOf_7 : decode cX5_extentOf 7 = .ok (.imul, 1) := by decide +kernel
theorem dX5_extentOf_8 : decode cX5_extentOf 8 = .ok (.iconst 3, 1) := by decide +kernel
theorem dX5_extentOf_9 : decode cX5_extentOf 9 = .ok (.iadd, 1) := by decide +kernel
theorem dX5_extentOf_10 : decode cX5_extentOf 10 = .ok (.iload_n 2, 1) := by decide +kernel
theorem dX5_extentOf_11 : decode cX5_extentOf 11 = .ok (.iadd, 1) := by decide +kernel
theorem dX5_extentOf_12 : decode cX5_extentOf 12 = .ok (.iaload, 1) := by decide +kernel
theorem dX5_extentOf_13 : decode cX5_extentOf 13 = .ok (.ireturn, 1) := by decide +kernel
set_option maxRecDepth 20000 in
theorem ggX5_blocks_X5_extentOf : GoodIn wsX5_blocks wsX5_extentOf := goodIn_r _ [5, 6, 13, 14, 15, 16, 17, 18, 19, 20, 21, 22, 23, 24] (by decide +kernel) (by decide +kernel)
set_option maxRecDepth 20000 in
theorem gX5_blocks_X5_extentOf : GoodIn wsX5_blocks (wsV RX5 63 RX5 yX5_extentOf wsX5_extentOf) := goodIn_app (goodIn_of _ (by decide +kernel)) ggX5_blocks_X5_extentOf
set_option maxRecDepth 20000 in
theorem ggX5_blocks_X5_size : GoodIn wsX5_blocks wsX5_size := goodIn_r _ [9, 10, 11, 4, 12] (by decide +kernel) (by decide +kernel)
set_option maxRecDepth 20000 in
theorem gX5_blocks_X5_size : GoodIn wsX5_blocks (va_wsS RX5 67 yX5_size wsX5_size) := goodIn_app (goodIn_of _ (by decide +kernel)) ggX5_blocks_X5_size
theorem dX5_blocks_0 : decode cX5_blocks 0 = .ok (.iconst 0, 1) := by decide +kernel
theorem dX5_blocks_1 : decode cX5_blocks 1 = .ok (.istore_n 2, 1) := by decide +kernel
theorem dX5_blocks_2 : decode cX5_blocks 2 = .ok (.iconst 0, 1) := by decide +kernel
theorem dX5_blocks_3 : decode cX5_blocks 3 = .ok (.istore_n 3, 1) := by decide +kernel
theorem dX5_blocks_4 : decode cX5_blocks 4 = .ok (.iload_n 3, 1) := by decide +kernel
theorem dX5_blocks_5 : decode cX5_blocks 5 = .ok (.iconst 4, 1) := by decide +kernel
theorem dX5_blocks_6 : decode cX5_blocks 6 = .ok (.if_icmp .ge 21, 3) := by decide +kernel
theorem dX5_blocks_9 : decode cX5_blocks 9 = .ok (.iload_n 2, 1) := by decide +kernel
theorem dX5_blocks_10 : decode cX5_blocks 10 = .ok (.aload_n 0, 1) := by decide +kernel
theorem dX5_blocks_11 : decode cX5_blocks 11 = .ok (.iload_n 1, 1) := by decide +kernel
theorem dX5_blocks_12 : decode cX5_blocks 12 = .ok (.iload_n 3, 1) := by decide +kernel
theorem dX5_blocks_13 : decode cX5_blocks 13 = .ok (.invokevirtual 63, 3) := by decide +kernel
theorem dX5_blocks_16 : decode cX5_blocks 16 = .ok (.invokestatic 67, 3) := by decide +kernel
theorem dX5_blocks_19 : decode cX5_blocks 19 = .ok (.iadd, 1) := by decide +kernel
theorem dX5_blocks_20 : decode cX5_blocks 20 = .ok (.istore_n 2, 1) := by decide +kernel
theorem dX5_blocks_21 : decode cX5_blocks 21 = .ok (.iinc 3 1, 3) := by decide +kernel
theorem dX5_blocks_24 : decode cX5_blocks 24 = .ok (.goto (-20), 3) := by decide +kernel
theorem dX5_blocks_27 : decode cX5_blocks 27 = .ok (.iload_n 2, 1) := by decide +kernel
theorem dX5_blocks_28 : decode cX5_blocks 28 = .ok (.ireturn, 1) := by decide +kernel
set_option maxRecDepth 20000 in
theorem ggX5_runs_X5_extentOf : GoodIn wsX5_runs wsX5_extentOf := goodIn_r _ [5, 6, 7, 8, 9, 10, 11, 12, 13, 14, 15, 16, 17, 18] (by decide +kernel) (by decide +kernel)
set_option maxRecDepth 20000 in
theorem gX5_runs_X5_extentOf : GoodIn wsX5_runs (wsV RX5 63 RX5 yX5_extentOf wsX5_extentOf) := goodIn_app (goodIn_of _ (by decide +kernel)) ggX5_runs_X5_extentOf
theorem dX5_runs_0 : decode cX5_runs 0 = .ok (.iconst 0, 1) := by decide +kernel
theorem dX5_runs_1 : decode cX5_runs 1 = .ok (.istore_n 2, 1) := by decide +kernel
theorem dX5_runs_2 : decode cX5_runs 2 = .ok (.iload_n 2, 1) := by decide +kernel
theorem dX5_runs_3 : decode cX5_runs 3 = .ok (.iconst 4, 1) := by decide +kernel
theorem dX5_runs_4 : decode cX5_runs 4 = .ok (.if_icmp .ge 18, 3) := by decide +kernel
theorem dX5_runs_7 : decode cX5_runs 7 = .ok (.aload_n 0, 1) := by decide +kernel
theorem dX5_runs_8 : decode cX5_runs 8 = .ok (.iload_n 1, 1) := by decide +kernel
theorem dX5_runs_9 : decode cX5_runs 9 = .ok (.iload_n 2, 1) := by decide +kernel
theorem dX5_runs_10 : decode cX5_runs 10 = .ok (.invokevirtual 63, 3) := by decide +kernel
theorem dX5_runs_13 : decode cX5_runs 13 = .ok (.ifCond .le 9, 3) := by decide +kernel
theorem dX5_runs_16 : decode cX5_runs 16 = .ok (.iinc 2 1, 3) := by decide +kernel
theorem dX5_runs_19 : decode cX5_runs 19 = .ok (.goto (-17), 3) := by decide +kernel
theorem dX5_runs_22 : decode cX5_runs 22 = .ok (.iload_n 2, 1) := by decide +kernel
theorem dX5_runs_23 : decode cX5_runs 23 = .ok (.ireturn, 1) := by decide +kernel
set_option maxRecDepth 20000 in
theorem ggX5_used_X5_blocks : GoodIn wsX5_used wsX5_blocks := goodIn_r _ [6, 7, 8, 9, 5, 10, 1, 11, 12, 13, 14, 15, 16, 17, 18, 19, 20, 21, 22, 23, 24, 25, 26, 27, 28] (by decide +kernel) (by decide +kernel)
set_option maxRecDepth 20000 in
theorem gX5_used_X5_blocks : GoodIn wsX5_used (wsV RX5 70 RX5 yX5_blocks wsX5_blocks) := goodIn_app (goodIn_of _ (by decide +kernel)) ggX5_used_X5_blocks
theorem dX5_used_0 : decode cX5_used 0 = .ok (.iconst 0, 1) := by decide +kernel
theorem dX5_used_1 : decode cX5_used 1 = .ok (.istore_n 2, 1) := by decide +kernel
theorem dX5_used_2 : decode cX5_used 2 = .ok (.iconst 0, 1) := by decide +kernel
theorem dX5_used_3 : decode cX5_used 3 = .ok (.istore_n 3, 1) := by decide +kernel
theorem dX5_used_4 : decode cX5_used 4 = .ok (.iload_n 3, 1) := by decide +kernel
theorem dX5_used_5 : decode cX5_used 5 = .ok (.bipush 6, 2) := by decide +kernel
theorem dX5_used_7 : decode cX5_used 7 = .ok (.if_icmp .ge 48, 3) := by decide +kernel
theorem dX5_used_10 : decode cX5_used 10 = .ok (.aload_n 0, 1) := by decide +kernel
theorem dX5_used_11 : decode cX5_used 11 = .ok (.getfield 13, 3) := by decide +kernel
theorem dX5_used_14 : decode cX5_used 14 = .ok (.bipush 7, 2) := by decide +kernel
theorem dX5_used_16 : decode cX5_used 16 = .ok (.iload_n 3, 1) := by decide +kernel
theorem dX5_used_17 : decode cX5_used 17 = .ok (.imul, 1) := by decide +kernel
theorem dX5_used_18 : decode cX5_used 18 = .ok (.iaload, 1) := by decide +kernel
theorem dX5_used_19 : decode cX5_used 19 = .ok (.ifCond .le 28, 3) := by decide +kernel
theorem dX5_used_22 : decode cX5_used 22 = .ok (.aload_n 0, 1) := by decide +kernel
theorem dX5_used_23 : decode cX5_used 23 = .ok (.getfield 13, 3) := by decide +kernel
theorem dX5_used_26 : decode cX5_used 26 = .ok (.bipush 7, 2) := by decide +kernel
theorem dX5_used_28 : decode cX5_used 28 = .ok (.iload_n 3, 1) := by decide +kernel
theorem dX5_used_29 : decode cX5_used 29 = .ok (.imul, 1) := by decide +kernel
theorem dX5_used_30 : decode cX5_used 30 = .ok (.iconst 1, 1) := by decide +kernel
theorem dX5_used_31 : decode cX5_used 31 = .ok (.iadd, 1) := by decide +kernel
theorem dX5_used_32 : decode cX5_used 32 = .ok (.iaload, 1) := by decide +kernel
theorem dX5_used_33 : decode cX5_used 33 = .ok (.iload_n 1, 1) := by decide +kernel
theorem dX5_used_34 : decode cX5_used 34 = .ok (.if_icmp .ne 13, 3) := by decide +kernel
theorem dX5_used_37 : decode cX5_used 37 = .ok (.iload_n 2, 1) := by decide +kernel
theorem dX5_used_38 : decode cX5_used 38 = .ok (.aload_n 0, 1) := by decide +kernel
theorem dX5_used_39 : decode cX5_used 39 = .ok (.iload_n 3, 1) := by decide +kernel
theorem dX5_used_40 : decode cX5_used 40 = .ok (.invokevirtual 70, 3) := by decide +kernel
theorem dX5_used_43 : decode cX5_used 43 = .ok (.iadd, 1) := by decide +kernel
theorem dX5_used_44 : decode cX5_used 44 = .ok (.goto 4, 3) := by decide +kernel
theorem dX5_used_47 : decode cX5_used 47 = .ok (.iload_n 2, 1) := by decide +kernel
theorem dX5_used_48 : decode cX5_used 48 = .ok (.istore_n 2, 1) := by decide +kernel
theorem dX5_used_49 : decode cX5_used 49 = .ok (.iinc 3 1, 3) := by decide +kernel
theorem dX5_used_52 : decode cX5_used 52 = .ok (.goto (-48), 3) := by decide +kernel
theorem dX5_used_55 : decode cX5_used 55 = .ok (.iload_n 2, 1) := by decide +kernel
theorem dX5_used_56 : decode cX5_used 56 = .ok (.ireturn, 1) := by decide +kernel
theorem dX5_slotOf_0 : decode cX5_slotOf 0 = .ok (.iconst 0, 1) := by decide +kernel
theorem dX5_slotOf_1 : decode cX5_slotOf 1 = .ok (.istore_n 2, 1) := by decide +kernel
theorem dX5_slotOf_2 : decode cX5_slotOf 2 = .ok (.iload_n 2, 1) := by decide +kernel
theorem dX5_slotOf_3 : decode cX5_slotOf 3 = .ok (.bipush 6, 2) := by decide +kernel
theorem dX5_slotOf_5 : decode cX5_slotOf 5 = .ok (.if_icmp .ge 28, 3) := by decide +kernel
theorem dX5_slotOf_8 : decode cX5_slotOf 8 = .ok (.iload_n 1, 1) := by decide +kernel
theorem dX5_slotOf_9 : decode cX5_slotOf 9 = .ok (.ifCond .le 18, 3) := by decide +kernel
theorem dX5_slotOf_12 : decode cX5_slotOf 12 = .ok (.aload_n 0, 1) := by decide +kernel
theorem dX5_slotOf_13 : decode cX5_slotOf 13 = .ok (.getfield 13, 3) := by decide +kernel
theorem dX5_slotOf_16 : decode cX5_slotOf 16 = .ok (.bipush 7, 2) := by decide +kernel
theorem dX5_slotOf_18 : decode cX5_slotOf 18 = .ok (.iload_n 2, 1) := by decide +kernel
theorem dX5_slotOf_19 : decode cX5_slotOf 19 = .ok (.imul, 1) := by decide +kernel
theorem dX5_slotOf_20 : decode cX5_slotOf 20 = .ok (.iaload, 1) := by decide +kernel
theorem dX5_slotOf_21 : decode cX5_slotOf 21 = .ok (.iload_n 1, 1) := by decide +kernel
theorem dX5_slotOf_22 : decode cX5_slotOf 22 = .ok (.if_icmp .ne 5, 3) := by decide +kernel
theorem dX5_slotOf_25 : decode cX5_slotOf 25 = .ok (.iload_n 2, 1) := by decide +kernel
theorem dX5_slotOf_26 : decode cX5_slotOf 26 = .ok (.ireturn, 1) := by decide +kernel
theorem dX5_slotOf_27 : decode cX5_slotOf 27 = .ok (.iinc 2 1, 3) := by decide +kernel
theorem dX5_slotOf_30 : decode cX5_slotOf 30 = .ok (.goto (-28), 3) := by decide +kernel
theorem dX5_slotOf_33 : decode cX5_slotOf 33 = .ok (.iconst (-1), 1) := by decide +kernel
theorem dX5_slotOf_34 : decode cX5_slotOf 34 = .ok (.ireturn, 1) := by decide +kernel
set_option maxRecDepth 20000 in
theorem ggX5_wordCell_X5_extentOf : GoodIn wsX5_wordCell wsX5_extentOf := goodIn_r _ [5, 6, 16, 17, 18, 19, 20, 21, 22, 23, 24, 25, 26, 27] (by decide +kernel) (by decide +kernel)
set_option maxRecDepth 20000 in
theorem gX5_wordCell_X5_extentOf : GoodIn wsX5_wordCell (wsV RX5 63 RX5 yX5_extentOf wsX5_extentOf) := goodIn_app (goodIn_of _ (by decide +kernel)) ggX5_wordCell_X5_extentOf
set_option maxRecDepth 20000 in
theorem ggX5_wordCell_X5_size : GoodIn wsX5_wordCell wsX5_size := goodIn_r _ [9, 10, 11, 4, 12] (by decide +kernel) (by decide +kernel)
set_option maxRecDepth 20000 in
theorem gX5_wordCell_X5_size : GoodIn wsX5_wordCell (va_wsS RX5 67 yX5_size wsX5_size) := goodIn_app (goodIn_of _ (by decide +kernel)) ggX5_wordCell_X5_size
set_option maxRecDepth 20000 in
theorem ggX5_wordCell_X5_start : GoodIn wsX5_wordCell wsX5_start := goodIn_r _ [15] (by decide +kernel) (by decide +kernel)
set_option maxRecDepth 20000 in
theorem gX5_wordCell_X5_start : GoodIn wsX5_wordCell (va_wsS RX5 54 yX5_start wsX5_start) := goodIn_app (goodIn_of _ (by decide +kernel)) ggX5_wordCell_X5_start
theorem dX5_wordCell_0 : decode cX5_wordCell 0 = .ok (.iload_n 2, 1) := by decide +kernel
theorem dX5_wordCell_1 : decode cX5_wordCell 1 = .ok (.istore_n 3, 1) := by decide +kernel
theorem dX5_wordCell_2 : decode cX5_wordCell 2 = .ok (.iconst 0, 1) := by decide +kernel
theorem dX5_wordCell_3 : decode cX5_wordCell 3 = .ok (.istore 4, 2) := by decide +kernel
theorem dX5_wordCell_5 : decode cX5_wordCell 5 = .ok (.iload 4, 2) := by decide +kernel
theorem dX5_wordCell_7 : decode cX5_wordCell 7 = .ok (.iconst 4, 1) := by decide +kernel
theorem dX5_wordCell_8 : decode cX5_wordCell 8 = .ok (.if_icmp .ge 51, 3) := by decide +kernel
theorem dX5_wordCell_11 : decode cX5_wordCell 11 = .ok (.aload_n 0, 1) := by decide +kernel
theorem dX5_wordCell_12 : decode cX5_wordCell 12 = .ok (.iload_n 1, 1) := by decide +kernel
theorem dX5_wordCell_13 : decode cX5_wordCell 13 = .ok (.iload 4, 2) := by decide +kernel
theorem dX5_wordCell_15 : decode cX5_wordCell 15 = .ok (.invokevirtual 63, 3) := by decide +kernel
theorem dX5_wordCell_18 : decode cX5_wordCell 18 = .ok (.istore 5, 2) := by decide +kernel
theorem dX5_wordCell_20 : decode cX5_wordCell 20 = .ok (.iconst 2, 1) := by decide +kernel
theorem dX5_wordCell_21 : decode cX5_wordCell 21 = .ok (.iload 5, 2) := by decide +kernel
theorem dX5_wordCell_23 : decode cX5_wordCell 23 = .ok (.invokestatic 67, 3) := by decide +kernel
theorem dX5_wordCell_26 : decode cX5_wordCell 26 = .ok (.imul, 1) := by decide +kernel
theorem dX5_wordCell_27 : decode cX5_wordCell 27 = .ok (.istore 6, 2) := by decide +kernel
theorem dX5_wordCell_29 : decode cX5_wordCell 29 = .ok (.iload_n 3, 1) := by decide +kernel
theorem dX5_wordCell_30 : decode cX5_wordCell 30 = .ok (.iload 6, 2) := by decide +kernel
theorem dX5_wordCell_32 : decode cX5_wordCell 32 = .ok (.if_icmp .ge 16, 3) := by decide +kernel
theorem dX5_wordCell_35 : decode cX5_wordCell 35 = .ok (.bipush 46, 2) := by decide +kernel
theorem dX5_wordCell_37 : decode cX5_wordCell 37 = .ok (.iconst 2, 1) := by decide +kernel
theorem dX5_wordCell_38 : decode cX5_wordCell 38 = .ok (.iload 5, 2) := by decide +kernel
theorem dX5_wordCell_40 : decode cX5_wordCell 40 = .ok (.invokestatic 54, 3) := by decide +kernel
theorem dX5_wordCell_43 : decode cX5_wordCell 43 = .ok (.imul, 1) := by decide +kernel
theorem dX5_wordCell_44 : decode cX5_wordCell 44 = .ok (.iadd, 1) := by decide +kernel
theorem dX5_wordCell_45 : decode cX5_wordCell 45 = .ok (.iload_n 3, 1) := by decide +kernel
theorem dX5_wordCell_46 : decode cX5_wordCell 46 = .ok (.iadd, 1) := by decide +kernel
theorem dX5_wordCell_47 : decode cX5_wordCell 47 = .ok (.ireturn, 1) := by decide +kernel
theorem dX5_wordCell_48 : decode cX5_wordCell 48 = .ok (.iload_n 3, 1) := by decide +kernel
theorem dX5_wordCell_49 : decode cX5_wordCell 49 = .ok (.iload 6, 2) := by decide +kernel
theorem dX5_wordCell_51 : decode cX5_wordCell 51 = .ok (.isub, 1) := by decide +kernel
theorem dX5_wordCell_52 : decode cX5_wordCell 52 = .ok (.istore_n 3, 1) := by decide +kernel
theorem dX5_wordCell_53 : decode cX5_wordCell 53 = .ok (.iinc 4 1, 3) := by decide +kernel
theorem dX5_wordCell_56 : decode cX5_wordCell 56 = .ok (.goto (-51), 3) := by decide +kernel
theorem dX5_wordCell_59 : decode cX5_wordCell 59 = .ok (.bipush 46, 2) := by decide +kernel
theorem dX5_wordCell_61 : decode cX5_wordCell 61 = .ok (.ireturn, 1) := by decide +kernel
set_option maxRecDepth 20000 in
theorem ggX5_tryGrow_X5_blocks : GoodIn wsX5_tryGrow wsX5_blocks := goodIn_r _ [9, 10, 11, 12, 8, 13, 1, 14, 15, 16, 17, 18, 19, 40, 41, 42, 43, 44, 45, 46, 47, 48, 49, 50, 51] (by decide +kernel) (by decide +kernel)
set_option maxRecDepth 20000 in
theorem gX5_tryGrow_X5_blocks : GoodIn wsX5_tryGrow (wsV RX5 70 RX5 yX5_blocks wsX5_blocks) := goodIn_app (goodIn_of _ (by decide +kernel)) ggX5_tryGrow_X5_blocks
set_option maxRecDepth 20000 in
theorem ggX5_tryGrow_X5_runs : GoodIn wsX5_tryGrow wsX5_runs := goodIn_r _ [23, 10, 11, 12, 8, 13, 1, 40, 41, 42, 43, 44, 45, 46, 47, 48, 49, 50, 51] (by decide +kernel) (by decide +kernel)
set_option maxRecDepth 20000 in
theorem gX5_tryGrow_X5_runs : GoodIn wsX5_tryGrow (wsV RX5 76 RX5 yX5_runs wsX5_runs) := goodIn_app (goodIn_of _ (by decide +kernel)) ggX5_tryGrow_X5_runs
set_option maxRecDepth 20000 in
theorem ggX5_tryGrow_X5_extentOf : GoodIn wsX5_tryGrow wsX5_extentOf := goodIn_r _ [13, 1, 40, 41, 42, 43, 44, 45, 46, 47, 48, 49, 50, 51] (by decide +kernel) (by decide +kernel)
set_option maxRecDepth 20000 in
theorem gX5_tryGrow_X5_extentOf : GoodIn wsX5_tryGrow (wsV RX5 63 RX5 yX5_extentOf wsX5_extentOf) := goodIn_app (goodIn_of _ (by decide +kernel)) ggX5_tryGrow_X5_extentOf
set_option maxRecDepth 20000 in
theorem ggX5_tryGrow_X5_place : GoodIn wsX5_tryGrow wsX5_place := goodIn_r _ [26, 27, 28, 8, 29, 30, 31, 32] (by decide +kernel) (by decide +kernel)
set_option maxRecDepth 20000 in
theorem gX5_tryGrow_X5_place : GoodIn wsX5_tryGrow (va_wsS RX5 82 yX5_place wsX5_place) := goodIn_app (goodIn_of _ (by decide +kernel)) ggX5_tryGrow_X5_place
set_option maxRecDepth 20000 in
theorem ggX5_tryGrow_X5_bits : GoodIn wsX5_tryGrow wsX5_bits := goodIn_r _ [35] (by decide +kernel) (by decide +kernel)
set_option maxRecDepth 20000 in
theorem gX5_tryGrow_X5_bits : GoodIn wsX5_tryGrow (va_wsS RX5 85 yX5_bits wsX5_bits) := goodIn_app (goodIn_of _ (by decide +kernel)) ggX5_tryGrow_X5_bits
set_option maxRecDepth 20000 in
theorem ggX5_tryGrow_X5_used : GoodIn wsX5_tryGrow wsX5_used := goodIn_r _ [39, 1, 5, 6, 7, 8, 9, 10, 11, 12, 13, 14, 15, 16, 17, 18, 19, 40, 41, 42, 43, 44, 45, 46, 47, 48, 49, 50, 51] (by decide +kernel) (by decide +kernel)
set_option maxRecDepth 20000 in
theorem gX5_tryGrow_X5_used : GoodIn wsX5_tryGrow (wsV RX5 88 RX5 yX5_used wsX5_used) := goodIn_app (goodIn_of _ (by decide +kernel)) ggX5_tryGrow_X5_used
theorem dX5_tryGrow_0 : decode cX5_tryGrow 0 = .ok (.iload_n 2, 1) := by decide +kernel
theorem dX5_tryGrow_1 : decode cX5_tryGrow 1 = .ok (.iconst 1, 1) := by decide +kernel
theorem dX5_tryGrow_2 : decode cX5_tryGrow 2 = .ok (.iadd, 1) := by decide +kernel
theorem dX5_tryGrow_3 : decode cX5_tryGrow 3 = .ok (.iconst 2, 1) := by decide +kernel
theorem dX5_tryGrow_4 : decode cX5_tryGrow 4 = .ok (.idiv, 1) := by decide +kernel
theorem dX5_tryGrow_5 : decode cX5_tryGrow 5 = .ok (.istore_n 3, 1) := by decide +kernel
theorem dX5_tryGrow_6 : decode cX5_tryGrow 6 = .ok (.aload_n 0, 1) := by decide +kernel
theorem dX5_tryGrow_7 : decode cX5_tryGrow 7 = .ok (.iload_n 1, 1) := by decide +kernel
theorem dX5_tryGrow_8 : decode cX5_tryGrow 8 = .ok (.invokevirtual 70, 3) := by decide +kernel
theorem dX5_tryGrow_11 : decode cX5_tryGrow 11 = .ok (.istore 4, 2) := by decide +kernel
theorem dX5_tryGrow_13 : decode cX5_tryGrow 13 = .ok (.aload_n 0, 1) := by decide +kernel
theorem dX5_tryGrow_14 : decode cX5_tryGrow 14 = .ok (.aload_n 0, 1) := by decide +kernel
theorem dX5_tryGrow_15 : decode cX5_tryGrow 15 = .ok (.getfield 13, 3) := by decide +kernel
theorem dX5_tryGrow_18 : decode cX5_tryGrow 18 = .ok (.bipush 45, 2) := by decide +kernel
theorem dX5_tryGrow_20 : decode cX5_tryGrow 20 = .ok (.iaload, 1) := by decide +kernel
theorem dX5_tryGrow_21 : decode cX5_tryGrow 21 = .ok (.putfield 73, 3) := by decide +kernel
theorem dX5_tryGrow_24 : decode cX5_tryGrow 24 = .ok (.aload_n 0, 1) := by decide +kernel
theorem dX5_tryGrow_25 : decode cX5_tryGrow 25 = .ok (.aload_n 0, 1) := by decide +kernel
theorem dX5_tryGrow_26 : decode cX5_tryGrow 26 = .ok (.iload_n 1, 1) := by decide +kernel
theorem dX5_tryGrow_27 : decode cX5_tryGrow 27 = .ok (.invokevirtual 76, 3) := by decide +kernel
theorem dX5_tryGrow_30 : decode cX5_tryGrow 30 = .ok (.putfield 79, 3) := by decide +kernel
theorem dX5_tryGrow_33 : decode cX5_tryGrow 33 = .ok (.iconst 0, 1) := by decide +kernel
theorem dX5_tryGrow_34 : decode cX5_tryGrow 34 = .ok (.istore 5, 2) := by decide +kernel
theorem dX5_tryGrow_36 : decode cX5_tryGrow 36 = .ok (.iload 5, 2) := by decide +kernel
theorem dX5_tryGrow_38 : decode cX5_tryGrow 38 = .ok (.iconst 4, 1) := by decide +kernel
theorem dX5_tryGrow_39 : decode cX5_tryGrow 39 = .ok (.if_icmp .ge 23, 3) := by decide +kernel
theorem dX5_tryGrow_42 : decode cX5_tryGrow 42 = .ok (.aload_n 0, 1) := by decide +kernel
theorem dX5_tryGrow_43 : decode cX5_tryGrow 43 = .ok (.getfield 29, 3) := by decide +kernel
theorem dX5_tryGrow_46 : decode cX5_tryGrow 46 = .ok (.iload 5, 2) := by decide +kernel
theorem dX5_tryGrow_48 : decode cX5_tryGrow 48 = .ok (.aload_n 0, 1) := by decide +kernel
theorem dX5_tryGrow_49 : decode cX5_tryGrow 49 = .ok (.iload_n 1, 1) := by decide +kernel
theorem dX5_tryGrow_50 : decode cX5_tryGrow 50 = .ok (.iload 5, 2) := by decide +kernel
theorem dX5_tryGrow_52 : decode cX5_tryGrow 52 = .ok (.invokevirtual 63, 3) := by decide +kernel
theorem dX5_tryGrow_55 : decode cX5_tryGrow 55 = .ok (.iastore, 1) := by decide +kernel
theorem dX5_tryGrow_56 : decode cX5_tryGrow 56 = .ok (.iinc 5 1, 3) := by decide +kernel
theorem dX5_tryGrow_59 : decode cX5_tryGrow 59 = .ok (.goto (-23), 3) := by decide +kernel
theorem dX5_tryGrow_62 : decode cX5_tryGrow 62 = .ok (.iload 4, 2) := by decide +kernel
theorem dX5_tryGrow_64 : decode cX5_tryGrow 64 = .ok (.iload_n 3, 1) := by decide +kernel
theorem dX5_tryGrow_65 : decode cX5_tryGrow 65 = .ok (.if_icmp .ge 130, 3) := by decide +kernel
theorem dX5_tryGrow_68 : decode cX5_tryGrow 68 = .ok (.iconst 0, 1) := by decide +kernel
theorem dX5_tryGrow_69 : decode cX5_tryGrow 69 = .ok (.istore 5, 2) := by decide +kernel
theorem dX5_tryGrow_71 : decode cX5_tryGrow 71 = .ok (.iconst 1, 1) := by decide +kernel
theorem dX5_tryGrow_72 : decode cX5_tryGrow 72 = .ok (.iload 5, 2) := by decide +kernel
theorem dX5_tryGrow_74 : decode cX5_tryGrow 74 = .ok (.ishl, 1) := by decide +kernel
theorem dX5_tryGrow_75 : decode cX5_tryGrow 75 = .ok (.iload_n 3, 1) := by decide +kernel
theorem dX5_tryGrow_76 : decode cX5_tryGrow 76 = .ok (.iload 4, 2) := by decide +kernel
theorem dX5_tryGrow_78 : decode cX5_tryGrow 78 = .ok (.isub, 1) := by decide +kernel
theorem dX5_tryGrow_79 : decode cX5_tryGrow 79 = .ok (.if_icmp .ge 9, 3) := by decide +kernel
theorem dX5_tryGrow_82 : decode cX5_tryGrow 82 = .ok (.iinc 5 1, 3) := by decide +kernel
theorem dX5_tryGrow_85 : decode cX5_tryGrow 85 = .ok (.goto (-14), 3) := by decide +kernel
theorem dX5_tryGrow_88 : decode cX5_tryGrow 88 = .ok (.iload 5, 2) := by decide +kernel
theorem dX5_tryGrow_90 : decode cX5_tryGrow 90 = .ok (.ifCond .lt 21, 3) := by decide +kernel
theorem dX5_tryGrow_93 : decode cX5_tryGrow 93 = .ok (.aload_n 0, 1) := by decide +kernel
theorem dX5_tryGrow_94 : decode cX5_tryGrow 94 = .ok (.getfield 73, 3) := by decide +kernel
theorem dX5_tryGrow_97 : decode cX5_tryGrow 97 = .ok (.iload 5, 2) := by decide +kernel
theorem dX5_tryGrow_99 : decode cX5_tryGrow 99 = .ok (.invokestatic 82, 3) := by decide +kernel
theorem dX5_tryGrow_102 : decode cX5_tryGrow 102 = .ok (.ifCond .ge 9, 3) := by decide +kernel
theorem dX5_tryGrow_105 : decode cX5_tryGrow 105 = .ok (.iinc 5 (-1), 3) := by decide +kernel
theorem dX5_tryGrow_108 : decode cX5_tryGrow 108 = .ok (.goto (-20), 3) := by decide +kernel
theorem dX5_tryGrow_111 : decode cX5_tryGrow 111 = .ok (.aload_n 0, 1) := by decide +kernel
theorem dX5_tryGrow_112 : decode cX5_tryGrow 112 = .ok (.getfield 79, 3) := by decide +kernel
theorem dX5_tryGrow_115 : decode cX5_tryGrow 115 = .ok (.iconst 4, 1) := by decide +kernel
theorem dX5_tryGrow_116 : decode cX5_tryGrow 116 = .ok (.if_icmp .eq 8, 3) := by decide +kernel
theorem dX5_tryGrow_119 : decode cX5_tryGrow 119 = .ok (.iload 5, 2) := by decide +kernel
theorem dX5_tryGrow_121 : decode cX5_tryGrow 121 = .ok (.ifCond .ge 6, 3) := by decide +kernel
theorem dX5_tryGrow_124 : decode cX5_tryGrow 124 = .ok (.bipush (-8), 2) := by decide +kernel
theorem dX5_tryGrow_126 : decode cX5_tryGrow 126 = .ok (.ireturn, 1) := by decide +kernel
theorem dX5_tryGrow_127 : decode cX5_tryGrow 127 = .ok (.aload_n 0, 1) := by decide +kernel
theorem dX5_tryGrow_128 : decode cX5_tryGrow 128 = .ok (.getfield 73, 3) := by decide +kernel
theorem dX5_tryGrow_131 : decode cX5_tryGrow 131 = .ok (.iload 5, 2) := by decide +kernel
theorem dX5_tryGrow_133 : decode cX5_tryGrow 133 = .ok (.invokestatic 82, 3) := by decide +kernel
theorem dX5_tryGrow_136 : decode cX5_tryGrow 136 = .ok (.istore 6, 2) := by decide +kernel
theorem dX5_tryGrow_138 : decode cX5_tryGrow 138 = .ok (.aload_n 0, 1) := by decide +kernel
theorem dX5_tryGrow_139 : decode cX5_tryGrow 139 = .ok (.getfield 29, 3) := by decide +kernel
theorem dX5_tryGrow_142 : decode cX5_tryGrow 142 = .ok (.aload_n 0, 1) := by decide +kernel
theorem dX5_tryGrow_143 : decode cX5_tryGrow 143 = .ok (.getfield 79, 3) := by decide +kernel
theorem dX5_tryGrow_146 : decode cX5_tryGrow 146 = .ok (.iconst 1, 1) := by decide +kernel
theorem dX5_tryGrow_147 : decode cX5_tryGrow 147 = .ok (.iload 6, 2) := by decide +kernel
theorem dX5_tryGrow_149 : decode cX5_tryGrow 149 = .ok (.iadd, 1) := by decide +kernel
theorem dX5_tryGrow_150 : decode cX5_tryGrow 150 = .ok (.bipush 32, 2) := by decide +kernel
theorem dX5_tryGrow_152 : decode cX5_tryGrow 152 = .ok (.iload 5, 2) := by decide +kernel
theorem dX5_tryGrow_154 : decode cX5_tryGrow 154 = .ok (.imul, 1) := by decide +kernel
theorem dX5_tryGrow_155 : decode cX5_tryGrow 155 = .ok (.iadd, 1) := by decide +kernel
theorem dX5_tryGrow_156 : decode cX5_tryGrow 156 = .ok (.iastore, 1) := by decide +kernel
theorem dX5_tryGrow_157 : decode cX5_tryGrow 157 = .ok (.aload_n 0, 1) := by decide +kernel
theorem dX5_tryGrow_158 : decode cX5_tryGrow 158 = .ok (.dup, 1) := by decide +kernel
theorem dX5_tryGrow_159 : decode cX5_tryGrow 159 = .ok (.getfield 79, 3) := by decide +kernel
theorem dX5_tryGrow_162 : decode cX5_tryGrow 162 = .ok (.iconst 1, 1) := by decide +kernel
theorem dX5_tryGrow_163 : decode cX5_tryGrow 163 = .ok (.iadd, 1) := by decide +kernel
theorem dX5_tryGrow_164 : decode cX5_tryGrow 164 = .ok (.putfield 79, 3) := by decide +kernel
theorem dX5_tryGrow_167 : decode cX5_tryGrow 167 = .ok (.aload_n 0, 1) := by decide +kernel
theorem dX5_tryGrow_168 : decode cX5_tryGrow 168 = .ok (.aload_n 0, 1) := by decide +kernel
theorem dX5_tryGrow_169 : decode cX5_tryGrow 169 = .ok (.getfield 73, 3) := by decide +kernel
theorem dX5_tryGrow_172 : decode cX5_tryGrow 172 = .ok (.iload 6, 2) := by decide +kernel
theorem dX5_tryGrow_174 : decode cX5_tryGrow 174 = .ok (.iload 5, 2) := by decide +kernel
theorem dX5_tryGrow_176 : decode cX5_tryGrow 176 = .ok (.invokestatic 85, 3) := by decide +kernel
theorem dX5_tryGrow_179 : decode cX5_tryGrow 179 = .ok (.ior, 1) := by decide +kernel
theorem dX5_tryGrow_180 : decode cX5_tryGrow 180 = .ok (.putfield 73, 3) := by decide +kernel
theorem dX5_tryGrow_183 : decode cX5_tryGrow 183 = .ok (.iload 4, 2) := by decide +kernel
theorem dX5_tryGrow_185 : decode cX5_tryGrow 185 = .ok (.iconst 1, 1) := by decide +kernel
theorem dX5_tryGrow_186 : decode cX5_tryGrow 186 = .ok (.iload 5, 2) := by decide +kernel
theorem dX5_tryGrow_188 : decode cX5_tryGrow 188 = .ok (.ishl, 1) := by decide +kernel
theorem dX5_tryGrow_189 : decode cX5_tryGrow 189 = .ok (.iadd, 1) := by decide +kernel
theorem dX5_tryGrow_190 : decode cX5_tryGrow 190 = .ok (.istore 4, 2) := by decide +kernel
theorem dX5_tryGrow_192 : decode cX5_tryGrow 192 = .ok (.goto (-130), 3) := by decide +kernel
theorem dX5_tryGrow_195 : decode cX5_tryGrow 195 = .ok (.aload_n 0, 1) := by decide +kernel
theorem dX5_tryGrow_196 : decode cX5_tryGrow 196 = .ok (.getfield 13, 3) := by decide +kernel
theorem dX5_tryGrow_199 : decode cX5_tryGrow 199 = .ok (.bipush 7, 2) := by decide +kernel
theorem dX5_tryGrow_201 : decode cX5_tryGrow 201 = .ok (.iload_n 1, 1) := by decide +kernel
theorem dX5_tryGrow_202 : decode cX5_tryGrow 202 = .ok (.imul, 1) := by decide +kernel
theorem dX5_tryGrow_203 : decode cX5_tryGrow 203 = .ok (.iconst 1, 1) := by decide +kernel
theorem dX5_tryGrow_204 : decode cX5_tryGrow 204 = .ok (.iadd, 1) := by decide +kernel
theorem dX5_tryGrow_205 : decode cX5_tryGrow 205 = .ok (.iaload, 1) := by decide +kernel
theorem dX5_tryGrow_206 : decode cX5_tryGrow 206 = .ok (.istore 5, 2) := by decide +kernel
theorem dX5_tryGrow_208 : decode cX5_tryGrow 208 = .ok (.aload_n 0, 1) := by decide +kernel
theorem dX5_tryGrow_209 : decode cX5_tryGrow 209 = .ok (.iload 5, 2) := by decide +kernel
theorem dX5_tryGrow_211 : decode cX5_tryGrow 211 = .ok (.invokevirtual 88, 3) := by decide +kernel
theorem dX5_tryGrow_214 : decode cX5_tryGrow 214 = .ok (.aload_n 0, 1) := by decide +kernel
theorem dX5_tryGrow_215 : decode cX5_tryGrow 215 = .ok (.iload_n 1, 1) := by decide +kernel
theorem dX5_tryGrow_216 : decode cX5_tryGrow 216 = .ok (.invokevirtual 70, 3) := by decide +kernel
theorem dX5_tryGrow_219 : decode cX5_tryGrow 219 = .ok (.isub, 1) := by decide +kernel
theorem dX5_tryGrow_220 : decode cX5_tryGrow 220 = .ok (.iload 4, 2) := by decide +kernel
theorem dX5_tryGrow_222 : decode cX5_tryGrow 222 = .ok (.iadd, 1) := by decide +kernel
theorem dX5_tryGrow_223 : decode cX5_tryGrow 223 = .ok (.aload_n 0, 1) := by decide +kernel
theorem dX5_tryGrow_224 : decode cX5_tryGrow 224 = .ok (.getfield 13, 3) := by decide +kernel
theorem dX5_tryGrow_227 : decode cX5_tryGrow 227 = .ok (.bipush 42, 2) := by decide +kernel
theorem dX5_tryGrow_229 : decode cX5_tryGrow 229 = .ok (.iload 5, 2) := by decide +kernel
theorem dX5_tryGrow_231 : decode cX5_tryGrow 231 = .ok (.iadd, 1) := by decide +kernel
theorem dX5_tryGrow_232 : decode cX5_tryGrow 232 = .ok (.iaload, 1) := by decide +kernel
theorem dX5_tryGrow_233 : decode cX5_tryGrow 233 = .ok (.if_icmp .le 8, 3) := by decide +kernel
theorem dX5_tryGrow_236 : decode cX5_tryGrow 236 = .ok (.bipush (-9), 2) := by decide +kernel
theorem dX5_tryGrow_238 : decode cX5_tryGrow 238 = .ok (.goto 4, 3) := by decide +kernel
theorem dX5_tryGrow_241 : decode cX5_tryGrow 241 = .ok (.iconst 0, 1) := by decide +kernel
theorem dX5_tryGrow_242 : decode cX5_tryGrow 242 = .ok (.ireturn, 1) := by decide +kernel
set_option maxRecDepth 20000 in
theorem ggX5_grow_X5_tryGrow : GoodIn wsX5_grow wsX5_tryGrow := goodIn_r _ [8, 1, 3, 9, 2, 10, 11, 12, 7, 13, 14, 15, 16, 17, 18, 19, 20, 21, 22, 23, 24, 25, 26, 27, 28, 29, 30, 31, 32, 33, 34, 35, 36, 37, 38, 39, 40, 41, 42, 43, 44, 45, 46, 47, 48, 49, 50, 51, 52, 53, 54, 55] (by decide +kernel) (by decide +kernel)
set_option maxRecDepth 20000 in
theorem gX5_grow_X5_tryGrow : GoodIn wsX5_grow (wsV RX5 91 RX5 yX5_tryGrow wsX5_tryGrow) := goodIn_app (goodIn_of _ (by decide +kernel)) ggX5_grow_X5_tryGrow
theorem dX5_grow_0 : decode cX5_grow 0 = .ok (.aload_n 0, 1) := by decide +kernel
theorem dX5_grow_1 : decode cX5_grow 1 = .ok (.iload_n 1, 1) := by decide +kernel
theorem dX5_grow_2 : decode cX5_grow 2 = .ok (.iload_n 2, 1) := by decide +kernel
theorem dX5_grow_3 : decode cX5_grow 3 = .ok (.invokevirtual 91, 3) := by decide +kernel
theorem dX5_grow_6 : decode cX5_grow 6 = .ok (.istore_n 3, 1) := by decide +kernel
theorem dX5_grow_7 : decode cX5_grow 7 = .ok (.iload_n 3, 1) := by decide +kernel
theorem dX5_grow_8 : decode cX5_grow 8 = .ok (.ifCond .ne 62, 3) := by decide +kernel
theorem dX5_grow_11 : decode cX5_grow 11 = .ok (.iconst 0, 1) := by decide +kernel
theorem dX5_grow_12 : decode cX5_grow 12 = .ok (.istore 4, 2) := by decide +kernel
theorem dX5_grow_14 : decode cX5_grow 14 = .ok (.iload 4, 2) := by decide +kernel
theorem dX5_grow_16 : decode cX5_grow 16 = .ok (.iconst 4, 1) := by decide +kernel
theorem dX5_grow_17 : decode cX5_grow 17 = .ok (.if_icmp .ge 30, 3) := by decide +kernel
theorem dX5_grow_20 : decode cX5_grow 20 = .ok (.aload_n 0, 1) := by decide +kernel
theorem dX5_grow_21 : decode cX5_grow 21 = .ok (.getfield 13, 3) := by decide +kernel
theorem dX5_grow_24 : decode cX5_grow 24 = .ok (.bipush 7, 2) := by decide +kernel
theorem dX5_grow_26 : decode cX5_grow 26 = .ok (.iload_n 1, 1) := by decide +kernel
theorem dX5_grow_27 : decode cX5_grow 27 = .ok (.imul, 1) := by decide +kernel
theorem dX5_grow_28 : decode cX5_grow 28 = .ok (.iconst 3, 1) := by decide +kernel
theorem dX5_grow_29 : decode cX5_grow 29 = .ok (.iadd, 1) := by decide +kernel
theorem dX5_grow_30 : decode cX5_grow 30 = .ok (.iload 4, 2) := by decide +kernel
theorem dX5_grow_32 : decode cX5_grow 32 = .ok (.iadd, 1) := by decide +kernel
theorem dX5_grow_33 : decode cX5_grow 33 = .ok (.aload_n 0, 1) := by decide +kernel
theorem dX5_grow_34 : decode cX5_grow 34 = .ok (.getfield 29, 3) := by decide +kernel
theorem dX5_grow_37 : decode cX5_grow 37 = .ok (.iload 4, 2) := by decide +kernel
theorem dX5_grow_39 : decode cX5_grow 39 = .ok (.iaload, 1) := by decide +kernel
theorem dX5_grow_40 : decode cX5_grow 40 = .ok (.iastore, 1) := by decide +kernel
theorem dX5_grow_41 : decode cX5_grow 41 = .ok (.iinc 4 1, 3) := by decide +kernel
theorem dX5_grow_44 : decode cX5_grow 44 = .ok (.goto (-30), 3) := by decide +kernel
theorem dX5_grow_47 : decode cX5_grow 47 = .ok (.aload_n 0, 1) := by decide +kernel
theorem dX5_grow_48 : decode cX5_grow 48 = .ok (.getfield 13, 3) := by decide +kernel
theorem dX5_grow_51 : decode cX5_grow 51 = .ok (.bipush 45, 2) := by decide +kernel
theorem dX5_grow_53 : decode cX5_grow 53 = .ok (.aload_n 0, 1) := by decide +kernel
theorem dX5_grow_54 : decode cX5_grow 54 = .ok (.getfield 73, 3) := by decide +kernel
theorem dX5_grow_57 : decode cX5_grow 57 = .ok (.iastore, 1) := by decide +kernel
theorem dX5_grow_58 : decode cX5_grow 58 = .ok (.aload_n 0, 1) := by decide +kernel
theorem dX5_grow_59 : decode cX5_grow 59 = .ok (.getfield 13, 3) := by decide +kernel
theorem dX5_grow_62 : decode cX5_grow 62 = .ok (.bipush 7, 2) := by decide +kernel
theorem dX5_grow_64 : decode cX5_grow 64 = .ok (.iload_n 1, 1) := by decide +kernel
theorem dX5_grow_65 : decode cX5_grow 65 = .ok (.imul, 1) := by decide +kernel
theorem dX5_grow_66 : decode cX5_grow 66 = .ok (.iconst 2, 1) := by decide +kernel
theorem dX5_grow_67 : decode cX5_grow 67 = .ok (.iadd, 1) := by decide +kernel
theorem dX5_grow_68 : decode cX5_grow 68 = .ok (.iload_n 2, 1) := by decide +kernel
theorem dX5_grow_69 : decode cX5_grow 69 = .ok (.iastore, 1) := by decide +kernel
theorem dX5_grow_70 : decode cX5_grow 70 = .ok (.iload_n 3, 1) := by decide +kernel
theorem dX5_grow_71 : decode cX5_grow 71 = .ok (.ireturn, 1) := by decide +kernel
set_option maxRecDepth 20000 in
theorem ggX5_giveBack_X5_runs : GoodIn wsX5_giveBack wsX5_runs := goodIn_r _ [6, 7, 8, 9, 5, 10, 1, 23, 24, 25, 26, 27, 28, 29, 30, 31, 32, 33, 34] (by decide +kernel) (by decide +kernel)
set_option maxRecDepth 20000 in
theorem gX5_giveBack_X5_runs : GoodIn wsX5_giveBack (wsV RX5 76 RX5 yX5_runs wsX5_runs) := goodIn_app (goodIn_of _ (by decide +kernel)) ggX5_giveBack_X5_runs
set_option maxRecDepth 20000 in
theorem ggX5_giveBack_X5_start : GoodIn wsX5_giveBack wsX5_start := goodIn_r _ [13] (by decide +kernel) (by decide +kernel)
set_option maxRecDepth 20000 in
theorem gX5_giveBack_X5_start : GoodIn wsX5_giveBack (va_wsS RX5 54 yX5_start wsX5_start) := goodIn_app (goodIn_of _ (by decide +kernel)) ggX5_giveBack_X5_start
set_option maxRecDepth 20000 in
theorem ggX5_giveBack_X5_size : GoodIn wsX5_giveBack wsX5_size := goodIn_r _ [16, 17, 18, 5, 19] (by decide +kernel) (by decide +kernel)
set_option maxRecDepth 20000 in
theorem gX5_giveBack_X5_size : GoodIn wsX5_giveBack (va_wsS RX5 67 yX5_size wsX5_size) := goodIn_app (goodIn_of _ (by decide +kernel)) ggX5_giveBack_X5_size
set_option maxRecDepth 20000 in
theorem ggX5_giveBack_X5_order : GoodIn wsX5_giveBack wsX5_order := goodIn_r _ [19] (by decide +kernel) (by decide +kernel)
set_option maxRecDepth 20000 in
theorem gX5_giveBack_X5_order : GoodIn wsX5_giveBack (va_wsS RX5 50 yX5_order wsX5_order) := goodIn_app (goodIn_of _ (by decide +kernel)) ggX5_giveBack_X5_order
set_option maxRecDepth 20000 in
theorem ggX5_giveBack_X5_bits : GoodIn wsX5_giveBack wsX5_bits := goodIn_r _ [22] (by decide +kernel) (by decide +kernel)
set_option maxRecDepth 20000 in
theorem gX5_giveBack_X5_bits : GoodIn wsX5_giveBack (va_wsS RX5 85 yX5_bits wsX5_bits) := goodIn_app (goodIn_of _ (by decide +kernel)) ggX5_giveBack_X5_bits
theorem dX5_giveBack_0 : decode cX5_giveBack 0 = .ok (.bipush 7, 2) := by decide +kernel
theorem dX5_giveBack_2 : decode cX5_giveBack 2 = .ok (.iload_n 1, 1) := by decide +kernel
theorem dX5_giveBack_3 : decode cX5_giveBack 3 = .ok (.imul, 1) := by decide +kernel
theorem dX5_giveBack_4 : decode cX5_giveBack 4 = .ok (.iconst 2, 1) := by decide +kernel
theorem dX5_giveBack_5 : decode cX5_giveBack 5 = .ok (.iadd, 1) := by decide +kernel
theorem dX5_giveBack_6 : decode cX5_giveBack 6 = .ok (.aload_n 0, 1) := by decide +kernel
theorem dX5_giveBack_7 : decode cX5_giveBack 7 = .ok (.iload_n 1, 1) := by decide +kernel
theorem dX5_giveBack_8 : decode cX5_giveBack 8 = .ok (.invokevirtual 76, 3) := by decide +kernel
theorem dX5_giveBack_11 : decode cX5_giveBack 11 = .ok (.iadd, 1) := by decide +kernel
theorem dX5_giveBack_12 : decode cX5_giveBack 12 = .ok (.istore_n 2, 1) := by decide +kernel
theorem dX5_giveBack_13 : decode cX5_giveBack 13 = .ok (.aload_n 0, 1) := by decide +kernel
theorem dX5_giveBack_14 : decode cX5_giveBack 14 = .ok (.getfield 13, 3) := by decide +kernel
theorem dX5_giveBack_17 : decode cX5_giveBack 17 = .ok (.iload_n 2, 1) := by decide +kernel
theorem dX5_giveBack_18 : decode cX5_giveBack 18 = .ok (.iaload, 1) := by decide +kernel
theorem dX5_giveBack_19 : decode cX5_giveBack 19 = .ok (.istore_n 3, 1) := by decide +kernel
theorem dX5_giveBack_20 : decode cX5_giveBack 20 = .ok (.iconst 2, 1) := by decide +kernel
theorem dX5_giveBack_21 : decode cX5_giveBack 21 = .ok (.iload_n 3, 1) := by decide +kernel
theorem dX5_giveBack_22 : decode cX5_giveBack 22 = .ok (.invokestatic 54, 3) := by decide +kernel
theorem dX5_giveBack_25 : decode cX5_giveBack 25 = .ok (.imul, 1) := by decide +kernel
theorem dX5_giveBack_26 : decode cX5_giveBack 26 = .ok (.istore 4, 2) := by decide +kernel
theorem dX5_giveBack_28 : decode cX5_giveBack 28 = .ok (.iload 4, 2) := by decide +kernel
theorem dX5_giveBack_30 : decode cX5_giveBack 30 = .ok (.iconst 2, 1) := by decide +kernel
theorem dX5_giveBack_31 : decode cX5_giveBack 31 = .ok (.iload_n 3, 1) := by decide +kernel
theorem dX5_giveBack_32 : decode cX5_giveBack 32 = .ok (.invokestatic 54, 3) := by decide +kernel
theorem dX5_giveBack_35 : decode cX5_giveBack 35 = .ok (.iload_n 3, 1) := by decide +kernel
theorem dX5_giveBack_36 : decode cX5_giveBack 36 = .ok (.invokestatic 67, 3) := by decide +kernel
theorem dX5_giveBack_39 : decode cX5_giveBack 39 = .ok (.iadd, 1) := by decide +kernel
theorem dX5_giveBack_40 : decode cX5_giveBack 40 = .ok (.imul, 1) := by decide +kernel
theorem dX5_giveBack_41 : decode cX5_giveBack 41 = .ok (.if_icmp .ge 20, 3) := by decide +kernel
theorem dX5_giveBack_44 : decode cX5_giveBack 44 = .ok (.aload_n 0, 1) := by decide +kernel
theorem dX5_giveBack_45 : decode cX5_giveBack 45 = .ok (.getfield 13, 3) := by decide +kernel
theorem dX5_giveBack_48 : decode cX5_giveBack 48 = .ok (.bipush 46, 2) := by decide +kernel
theorem dX5_giveBack_50 : decode cX5_giveBack 50 = .ok (.iload 4, 2) := by decide +kernel
theorem dX5_giveBack_52 : decode cX5_giveBack 52 = .ok (.iadd, 1) := by decide +kernel
theorem dX5_giveBack_53 : decode cX5_giveBack 53 = .ok (.iconst 0, 1) := by decide +kernel
theorem dX5_giveBack_54 : decode cX5_giveBack 54 = .ok (.iastore, 1) := by decide +kernel
theorem dX5_giveBack_55 : decode cX5_giveBack 55 = .ok (.iinc 4 1, 3) := by decide +kernel
theorem dX5_giveBack_58 : decode cX5_giveBack 58 = .ok (.goto (-30), 3) := by decide +kernel
theorem dX5_giveBack_61 : decode cX5_giveBack 61 = .ok (.aload_n 0, 1) := by decide +kernel
theorem dX5_giveBack_62 : decode cX5_giveBack 62 = .ok (.getfield 13, 3) := by decide +kernel
theorem dX5_giveBack_65 : decode cX5_giveBack 65 = .ok (.bipush 45, 2) := by decide +kernel
theorem dX5_giveBack_67 : decode cX5_giveBack 67 = .ok (.aload_n 0, 1) := by decide +kernel
theorem dX5_giveBack_68 : decode cX5_giveBack 68 = .ok (.getfield 13, 3) := by decide +kernel
theorem dX5_giveBack_71 : decode cX5_giveBack 71 = .ok (.bipush 45, 2) := by decide +kernel
theorem dX5_giveBack_73 : decode cX5_giveBack 73 = .ok (.iaload, 1) := by decide +kernel
theorem dX5_giveBack_74 : decode cX5_giveBack 74 = .ok (.iload_n 3, 1) := by decide +kernel
theorem dX5_giveBack_75 : decode cX5_giveBack 75 = .ok (.invokestatic 54, 3) := by decide +kernel
theorem dX5_giveBack_78 : decode cX5_giveBack 78 = .ok (.iload_n 3, 1) := by decide +kernel
theorem dX5_giveBack_79 : decode cX5_giveBack 79 = .ok (.invokestatic 50, 3) := by decide +kernel
theorem dX5_giveBack_82 : decode cX5_giveBack 82 = .ok (.invokestatic 85, 3) := by decide +kernel
theorem dX5_giveBack_85 : decode cX5_giveBack 85 = .ok (.iconst (-1), 1) := by decide +kernel
theorem dX5_giveBack_86 : decode cX5_giveBack 86 = .ok (.ixor, 1) := by decide +kernel
theorem dX5_giveBack_87 : decode cX5_giveBack 87 = .ok (.iand, 1) := by decide +kernel
theorem dX5_giveBack_88 : decode cX5_giveBack 88 = .ok (.iastore, 1) := by decide +kernel
theorem dX5_giveBack_89 : decode cX5_giveBack 89 = .ok (.aload_n 0, 1) := by decide +kernel
theorem dX5_giveBack_90 : decode cX5_giveBack 90 = .ok (.getfield 13, 3) := by decide +kernel
theorem dX5_giveBack_93 : decode cX5_giveBack 93 = .ok (.iload_n 2, 1) := by decide +kernel
theorem dX5_giveBack_94 : decode cX5_giveBack 94 = .ok (.iconst 0, 1) := by decide +kernel
theorem dX5_giveBack_95 : decode cX5_giveBack 95 = .ok (.iastore, 1) := by decide +kernel
theorem dX5_giveBack_96 : decode cX5_giveBack 96 = .ok (.return_, 1) := by decide +kernel
set_option maxRecDepth 20000 in
theorem ggX5_shrink_X5_runs : GoodIn wsX5_shrink wsX5_runs := goodIn_r _ [6, 7, 8, 9, 5, 10, 1, 35, 36, 37, 38, 39, 40, 41, 42, 43, 44, 45, 46] (by decide +kernel) (by decide +kernel)
set_option maxRecDepth 20000 in
theorem gX5_shrink_X5_runs : GoodIn wsX5_shrink (wsV RX5 76 RX5 yX5_runs wsX5_runs) := goodIn_app (goodIn_of _ (by decide +kernel)) ggX5_shrink_X5_runs
set_option maxRecDepth 20000 in
theorem ggX5_shrink_X5_blocks : GoodIn wsX5_shrink wsX5_blocks := goodIn_r _ [14, 7, 8, 9, 5, 10, 1, 15, 16, 17, 18, 19, 20, 35, 36, 37, 38, 39, 40, 41, 42, 43, 44, 45, 46] (by decide +kernel) (by decide +kernel)
set_option maxRecDepth 20000 in
theorem gX5_shrink_X5_blocks : GoodIn wsX5_shrink (wsV RX5 70 RX5 yX5_blocks wsX5_blocks) := goodIn_app (goodIn_of _ (by decide +kernel)) ggX5_shrink_X5_blocks
set_option maxRecDepth 20000 in
theorem ggX5_shrink_X5_extentOf : GoodIn wsX5_shrink wsX5_extentOf := goodIn_r _ [10, 1, 35, 36, 37, 38, 39, 40, 41, 42, 43, 44, 45, 46] (by decide +kernel) (by decide +kernel)
set_option maxRecDepth 20000 in
theorem gX5_shrink_X5_extentOf : GoodIn wsX5_shrink (wsV RX5 63 RX5 yX5_extentOf wsX5_extentOf) := goodIn_app (goodIn_of _ (by decide +kernel)) ggX5_shrink_X5_extentOf
set_option maxRecDepth 20000 in
theorem ggX5_shrink_X5_size : GoodIn wsX5_shrink wsX5_size := goodIn_r _ [17, 18, 19, 5, 20] (by decide +kernel) (by decide +kernel)
set_option maxRecDepth 20000 in
theorem gX5_shrink_X5_size : GoodIn wsX5_shrink (va_wsS RX5 67 yX5_size wsX5_size) := goodIn_app (goodIn_of _ (by decide +kernel)) ggX5_shrink_X5_size
set_option maxRecDepth 20000 in
theorem ggX5_shrink_X5_giveBack : GoodIn wsX5_shrink wsX5_giveBack := goodIn_r _ [24, 1, 2, 3, 4, 5, 6, 7, 8, 9, 10, 25, 26, 27, 15, 16, 17, 18, 19, 20, 28, 29, 30, 35, 36, 37, 38, 39, 40, 41, 42, 43, 44, 45, 46] (by decide +kernel) (by decide +kernel)
set_option maxRecDepth 20000 in
theorem gX5_shrink_X5_giveBack : GoodIn wsX5_shrink (wsV RX5 94 RX5 yX5_giveBack wsX5_giveBack) := goodIn_app (goodIn_of _ (by decide +kernel)) ggX5_shrink_X5_giveBack
set_option maxRecDepth 20000 in
theorem ggX5_shrink_X5_wordCell : GoodIn wsX5_shrink wsX5_wordCell := goodIn_r _ [34, 7, 8, 9, 5, 10, 1, 15, 16, 17, 18, 19, 20, 25, 26, 27, 35, 36, 37, 38, 39, 40, 41, 42, 43, 44, 45, 46] (by decide +kernel) (by decide +kernel)
set_option maxRecDepth 20000 in
theorem gX5_shrink_X5_wordCell : GoodIn wsX5_shrink (wsV RX5 98 RX5 yX5_wordCell wsX5_wordCell) := goodIn_app (goodIn_of _ (by decide +kernel)) ggX5_shrink_X5_wordCell
theorem dX5_shrink_0 : decode cX5_shrink 0 = .ok (.iload_n 2, 1) := by decide +kernel
theorem dX5_shrink_1 : decode cX5_shrink 1 = .ok (.iconst 1, 1) := by decide +kernel
theorem dX5_shrink_2 : decode cX5_shrink 2 = .ok (.iadd, 1) := by decide +kernel
theorem dX5_shrink_3 : decode cX5_shrink 3 = .ok (.iconst 2, 1) := by decide +kernel
theorem dX5_shrink_4 : decode cX5_shrink 4 = .ok (.idiv, 1) := by decide +kernel
theorem dX5_shrink_5 : decode cX5_shrink 5 = .ok (.istore_n 3, 1) := by decide +kernel
theorem dX5_shrink_6 : decode cX5_shrink 6 = .ok (.aload_n 0, 1) := by decide +kernel
theorem dX5_shrink_7 : decode cX5_shrink 7 = .ok (.iload_n 1, 1) := by decide +kernel
theorem dX5_shrink_8 : decode cX5_shrink 8 = .ok (.invokevirtual 76, 3) := by decide +kernel
theorem dX5_shrink_11 : decode cX5_shrink 11 = .ok (.ifCond .le 36, 3) := by decide +kernel
theorem dX5_shrink_14 : decode cX5_shrink 14 = .ok (.aload_n 0, 1) := by decide +kernel
theorem dX5_shrink_15 : decode cX5_shrink 15 = .ok (.iload_n 1, 1) := by decide +kernel
theorem dX5_shrink_16 : decode cX5_shrink 16 = .ok (.invokevirtual 70, 3) := by decide +kernel
theorem dX5_shrink_19 : decode cX5_shrink 19 = .ok (.aload_n 0, 1) := by decide +kernel
theorem dX5_shrink_20 : decode cX5_shrink 20 = .ok (.iload_n 1, 1) := by decide +kernel
theorem dX5_shrink_21 : decode cX5_shrink 21 = .ok (.aload_n 0, 1) := by decide +kernel
theorem dX5_shrink_22 : decode cX5_shrink 22 = .ok (.iload_n 1, 1) := by decide +kernel
theorem dX5_shrink_23 : decode cX5_shrink 23 = .ok (.invokevirtual 76, 3) := by decide +kernel
theorem dX5_shrink_26 : decode cX5_shrink 26 = .ok (.iconst 1, 1) := by decide +kernel
theorem dX5_shrink_27 : decode cX5_shrink 27 = .ok (.isub, 1) := by decide +kernel
theorem dX5_shrink_28 : decode cX5_shrink 28 = .ok (.invokevirtual 63, 3) := by decide +kernel
theorem dX5_shrink_31 : decode cX5_shrink 31 = .ok (.invokestatic 67, 3) := by decide +kernel
theorem dX5_shrink_34 : decode cX5_shrink 34 = .ok (.isub, 1) := by decide +kernel
theorem dX5_shrink_35 : decode cX5_shrink 35 = .ok (.iload_n 3, 1) := by decide +kernel
theorem dX5_shrink_36 : decode cX5_shrink 36 = .ok (.if_icmp .lt 11, 3) := by decide +kernel
theorem dX5_shrink_39 : decode cX5_shrink 39 = .ok (.aload_n 0, 1) := by decide +kernel
theorem dX5_shrink_40 : decode cX5_shrink 40 = .ok (.iload_n 1, 1) := by decide +kernel
theorem dX5_shrink_41 : decode cX5_shrink 41 = .ok (.invokevirtual 94, 3) := by decide +kernel
theorem dX5_shrink_44 : decode cX5_shrink 44 = .ok (.goto (-38), 3) := by decide +kernel
theorem dX5_shrink_47 : decode cX5_shrink 47 = .ok (.aload_n 0, 1) := by decide +kernel
theorem dX5_shrink_48 : decode cX5_shrink 48 = .ok (.getfield 13, 3) := by decide +kernel
theorem dX5_shrink_51 : decode cX5_shrink 51 = .ok (.bipush 7, 2) := by decide +kernel
theorem dX5_shrink_53 : decode cX5_shrink 53 = .ok (.iload_n 1, 1) := by decide +kernel
theorem dX5_shrink_54 : decode cX5_shrink 54 = .ok (.imul, 1) := by decide +kernel
theorem dX5_shrink_55 : decode cX5_shrink 55 = .ok (.iconst 2, 1) := by decide +kernel
theorem dX5_shrink_56 : decode cX5_shrink 56 = .ok (.iadd, 1) := by decide +kernel
theorem dX5_shrink_57 : decode cX5_shrink 57 = .ok (.iload_n 2, 1) := by decide +kernel
theorem dX5_shrink_58 : decode cX5_shrink 58 = .ok (.iastore, 1) := by decide +kernel
theorem dX5_shrink_59 : decode cX5_shrink 59 = .ok (.iload_n 2, 1) := by decide +kernel
theorem dX5_shrink_60 : decode cX5_shrink 60 = .ok (.istore 4, 2) := by decide +kernel
theorem dX5_shrink_62 : decode cX5_shrink 62 = .ok (.iload 4, 2) := by decide +kernel
theorem dX5_shrink_64 : decode cX5_shrink 64 = .ok (.iconst 2, 1) := by decide +kernel
theorem dX5_shrink_65 : decode cX5_shrink 65 = .ok (.aload_n 0, 1) := by decide +kernel
theorem dX5_shrink_66 : decode cX5_shrink 66 = .ok (.iload_n 1, 1) := by decide +kernel
theorem dX5_shrink_67 : decode cX5_shrink 67 = .ok (.invokevirtual 70, 3) := by decide +kernel
theorem dX5_shrink_70 : decode cX5_shrink 70 = .ok (.imul, 1) := by decide +kernel
theorem dX5_shrink_71 : decode cX5_shrink 71 = .ok (.if_icmp .ge 22, 3) := by decide +kernel
theorem dX5_shrink_74 : decode cX5_shrink 74 = .ok (.aload_n 0, 1) := by decide +kernel
theorem dX5_shrink_75 : decode cX5_shrink 75 = .ok (.getfield 13, 3) := by decide +kernel
theorem dX5_shrink_78 : decode cX5_shrink 78 = .ok (.aload_n 0, 1) := by decide +kernel
theorem dX5_shrink_79 : decode cX5_shrink 79 = .ok (.iload_n 1, 1) := by decide +kernel
theorem dX5_shrink_80 : decode cX5_shrink 80 = .ok (.iload 4, 2) := by decide +kernel
theorem dX5_shrink_82 : decode cX5_shrink 82 = .ok (.invokevirtual 98, 3) := by decide +kernel
theorem dX5_shrink_85 : decode cX5_shrink 85 = .ok (.iconst 0, 1) := by decide +kernel
theorem dX5_shrink_86 : decode cX5_shrink 86 = .ok (.iastore, 1) := by decide +kernel
theorem dX5_shrink_87 : decode cX5_shrink 87 = .ok (.iinc 4 1, 3) := by decide +kernel
theorem dX5_shrink_90 : decode cX5_shrink 90 = .ok (.goto (-28), 3) := by decide +kernel
theorem dX5_shrink_93 : decode cX5_shrink 93 = .ok (.return_, 1) := by decide +kernel
set_option maxRecDepth 20000 in
theorem ggX5_takeAway_X5_runs : GoodIn wsX5_takeAway wsX5_runs := goodIn_r _ [6, 7, 8, 9, 5, 10, 1, 27, 28, 29, 30, 31, 32, 33, 34, 35, 36, 37, 38] (by decide +kernel) (by decide +kernel)
set_option maxRecDepth 20000 in
theorem gX5_takeAway_X5_runs : GoodIn wsX5_takeAway (wsV RX5 76 RX5 yX5_runs wsX5_runs) := goodIn_app (goodIn_of _ (by decide +kernel)) ggX5_takeAway_X5_runs
set_option maxRecDepth 20000 in
theorem ggX5_takeAway_X5_giveBack : GoodIn wsX5_takeAway wsX5_giveBack := goodIn_r _ [14, 1, 2, 3, 4, 5, 6, 7, 8, 9, 10, 15, 16, 17, 18, 19, 20, 21, 22, 23, 24, 25, 26, 27, 28, 29, 30, 31, 32, 33, 34, 35, 36, 37, 38] (by decide +kernel) (by decide +kernel)
set_option maxRecDepth 20000 in
theorem gX5_takeAway_X5_giveBack : GoodIn wsX5_takeAway (wsV RX5 94 RX5 yX5_giveBack wsX5_giveBack) := goodIn_app (goodIn_of _ (by decide +kernel)) ggX5_takeAway_X5_giveBack
theorem dX5_takeAway_0 : decode cX5_takeAway 0 = .ok (.aload_n 0, 1) := by decide +kernel
theorem dX5_takeAway_1 : decode cX5_takeAway 1 = .ok (.iload_n 1, 1) := by decide +kernel
theorem dX5_takeAway_2 : decode cX5_takeAway 2 = .ok (.invokevirtual 76, 3) := by decide +kernel
theorem dX5_takeAway_5 : decode cX5_takeAway 5 = .ok (.ifCond .le 11, 3) := by decide +kernel
theorem dX5_takeAway_8 : decode cX5_takeAway 8 = .ok (.aload_n 0, 1) := by decide +kernel
theorem dX5_takeAway_9 : decode cX5_takeAway 9 = .ok (.iload_n 1, 1) := by decide +kernel
theorem dX5_takeAway_10 : decode cX5_takeAway 10 = .ok (.invokevirtual 94, 3) := by decide +kernel
theorem dX5_takeAway_13 : decode cX5_takeAway 13 = .ok (.goto (-13), 3) := by decide +kernel
theorem dX5_takeAway_16 : decode cX5_takeAway 16 = .ok (.bipush 7, 2) := by decide +kernel
theorem dX5_takeAway_18 : decode cX5_takeAway 18 = .ok (.iload_n 1, 1) := by decide +kernel
theorem dX5_takeAway_19 : decode cX5_takeAway 19 = .ok (.imul, 1) := by decide +kernel
theorem dX5_takeAway_20 : decode cX5_takeAway 20 = .ok (.istore_n 2, 1) := by decide +kernel
theorem dX5_takeAway_21 : decode cX5_takeAway 21 = .ok (.iload_n 2, 1) := by decide +kernel
theorem dX5_takeAway_22 : decode cX5_takeAway 22 = .ok (.bipush 7, 2) := by decide +kernel
theorem dX5_takeAway_24 : decode cX5_takeAway 24 = .ok (.iload_n 1, 1) := by decide +kernel
theorem dX5_takeAway_25 : decode cX5_takeAway 25 = .ok (.imul, 1) := by decide +kernel
theorem dX5_takeAway_26 : decode cX5_takeAway 26 = .ok (.bipush 7, 2) := by decide +kernel
theorem dX5_takeAway_28 : decode cX5_takeAway 28 = .ok (.iadd, 1) := by decide +kernel
theorem dX5_takeAway_29 : decode cX5_takeAway 29 = .ok (.if_icmp .ge 16, 3) := by decide +kernel
theorem dX5_takeAway_32 : decode cX5_takeAway 32 = .ok (.aload_n 0, 1) := by decide +kernel
theorem dX5_takeAway_33 : decode cX5_takeAway 33 = .ok (.getfield 13, 3) := by decide +kernel
theorem dX5_takeAway_36 : decode cX5_takeAway 36 = .ok (.iload_n 2, 1) := by decide +kernel
theorem dX5_takeAway_37 : decode cX5_takeAway 37 = .ok (.iconst 0, 1) := by decide +kernel
theorem dX5_takeAway_38 : decode cX5_takeAway 38 = .ok (.iastore, 1) := by decide +kernel
theorem dX5_takeAway_39 : decode cX5_takeAway 39 = .ok (.iinc 2 1, 3) := by decide +kernel
theorem dX5_takeAway_42 : decode cX5_takeAway 42 = .ok (.goto (-21), 3) := by decide +kernel
theorem dX5_takeAway_45 : decode cX5_takeAway 45 = .ok (.return_, 1) := by decide +kernel
theorem dX5_isOpen_0 : decode cX5_isOpen 0 = .ok (.iconst 0, 1) := by decide +kernel
theorem dX5_isOpen_1 : decode cX5_isOpen 1 = .ok (.istore_n 2, 1) := by decide +kernel
theorem dX5_isOpen_2 : decode cX5_isOpen 2 = .ok (.iconst 0, 1) := by decide +kernel
theorem dX5_isOpen_3 : decode cX5_isOpen 3 = .ok (.istore_n 3, 1) := by decide +kernel
theorem dX5_isOpen_4 : decode cX5_isOpen 4 = .ok (.iload_n 3, 1) := by decide +kernel
theorem dX5_isOpen_5 : decode cX5_isOpen 5 = .ok (.iconst 4, 1) := by decide +kernel
theorem dX5_isOpen_6 : decode cX5_isOpen 6 = .ok (.if_icmp .ge 31, 3) := by decide +kernel
theorem dX5_isOpen_9 : decode cX5_isOpen 9 = .ok (.iload_n 2, 1) := by decide +kernel
theorem dX5_isOpen_10 : decode cX5_isOpen 10 = .ok (.ifCond .ne 15, 3) := by decide +kernel
theorem dX5_isOpen_13 : decode cX5_isOpen 13 = .ok (.aload_n 0, 1) := by decide +kernel
theorem dX5_isOpen_14 : decode cX5_isOpen 14 = .ok (.getfield 16, 3) := by decide +kernel
theorem dX5_isOpen_17 : decode cX5_isOpen 17 = .ok (.iload_n 3, 1) := by decide +kernel
theorem dX5_isOpen_18 : decode cX5_isOpen 18 = .ok (.iaload, 1) := by decide +kernel
theorem dX5_isOpen_19 : decode cX5_isOpen 19 = .ok (.iload_n 1, 1) := by decide +kernel
theorem dX5_isOpen_20 : decode cX5_isOpen 20 = .ok (.iconst 1, 1) := by decide +kernel
theorem dX5_isOpen_21 : decode cX5_isOpen 21 = .ok (.iadd, 1) := by decide +kernel
theorem dX5_isOpen_22 : decode cX5_isOpen 22 = .ok (.if_icmp .ne 7, 3) := by decide +kernel
theorem dX5_isOpen_25 : decode cX5_isOpen 25 = .ok (.iconst 1, 1) := by decide +kernel
theorem dX5_isOpen_26 : decode cX5_isOpen 26 = .ok (.goto 4, 3) := by decide +kernel
theorem dX5_isOpen_29 : decode cX5_isOpen 29 = .ok (.iconst 0, 1) := by decide +kernel
theorem dX5_isOpen_30 : decode cX5_isOpen 30 = .ok (.istore_n 2, 1) := by decide +kernel
theorem dX5_isOpen_31 : decode cX5_isOpen 31 = .ok (.iinc 3 1, 3) := by decide +kernel
theorem dX5_isOpen_34 : decode cX5_isOpen 34 = .ok (.goto (-30), 3) := by decide +kernel
theorem dX5_isOpen_37 : decode cX5_isOpen 37 = .ok (.iload_n 2, 1) := by decide +kernel
theorem dX5_isOpen_38 : decode cX5_isOpen 38 = .ok (.ireturn, 1) := by decide +kernel
