set_option maxRecDepth 20000 in
theorem ggX5_create_X5_within : GoodIn wsX5_create wsX5_within := goodIn_r _ [6] (by decide +kernel) (by decide +kernel)
set_option maxRecDepth 20000 in
theorem gX5_create_X5_within : GoodIn wsX5_create (va_wsS RX5 38 yX5_within wsX5_within) := goodIn_app (goodIn_of _ (by decide +kernel)) ggX5_create_X5_within
set_option maxRecDepth 20000 in
theorem ggX5_create_X5_slotOf : GoodIn wsX5_create wsX5_slotOf := goodIn_r _ [10, 2, 11, 12, 13, 14, 15, 16, 17, 18, 19, 20, 21, 22] (by decide +kernel) (by decide +kernel)
set_option maxRecDepth 20000 in
theorem gX5_create_X5_slotOf : GoodIn wsX5_create (wsV RX5 101 RX5 yX5_slotOf wsX5_slotOf) := goodIn_app (goodIn_of _ (by decide +kernel)) ggX5_create_X5_slotOf
theorem dX5_create_0 : decode cX5_create 0 = .ok (.aload_n 0, 1) := by decide +kernel
theorem dX5_create_1 : decode cX5_create 1 = .ok (.getfield 42, 3) := by decide +kernel
theorem dX5_create_4 : decode cX5_create 4 = .ok (.ifCond .ne 6, 3) := by decide +kernel
theorem dX5_create_7 : decode cX5_create 7 = .ok (.bipush (-11), 2) := by decide +kernel
theorem dX5_create_9 : decode cX5_create 9 = .ok (.ireturn, 1) := by decide +kernel
theorem dX5_create_10 : decode cX5_create 10 = .ok (.iload_n 1, 1) := by decide +kernel
theorem dX5_create_11 : decode cX5_create 11 = .ok (.iconst 1, 1) := by decide +kernel
theorem dX5_create_12 : decode cX5_create 12 = .ok (.bipush 99, 2) := by decide +kernel
theorem dX5_create_14 : decode cX5_create 14 = .ok (.invokestatic 38, 3) := by decide +kernel
theorem dX5_create_17 : decode cX5_create 17 = .ok (.ifCond .eq 12, 3) := by decide +kernel
theorem dX5_create_20 : decode cX5_create 20 = .ok (.iload_n 2, 1) := by decide +kernel
theorem dX5_create_21 : decode cX5_create 21 = .ok (.iconst 0, 1) := by decide +kernel
theorem dX5_create_22 : decode cX5_create 22 = .ok (.iconst 2, 1) := by decide +kernel
theorem dX5_create_23 : decode cX5_create 23 = .ok (.invokestatic 38, 3) := by decide +kernel
theorem dX5_create_26 : decode cX5_create 26 = .ok (.ifCond .ne 6, 3) := by decide +kernel
theorem dX5_create_29 : decode cX5_create 29 = .ok (.bipush (-12), 2) := by decide +kernel
theorem dX5_create_31 : decode cX5_create 31 = .ok (.ireturn, 1) := by decide +kernel
theorem dX5_create_32 : decode cX5_create 32 = .ok (.aload_n 0, 1) := by decide +kernel
theorem dX5_create_33 : decode cX5_create 33 = .ok (.iload_n 1, 1) := by decide +kernel
theorem dX5_create_34 : decode cX5_create 34 = .ok (.invokevirtual 101, 3) := by decide +kernel
theorem dX5_create_37 : decode cX5_create 37 = .ok (.ifCond .lt 5, 3) := by decide +kernel
theorem dX5_create_40 : decode cX5_create 40 = .ok (.iconst (-1), 1) := by decide +kernel
theorem dX5_create_41 : decode cX5_create 41 = .ok (.ireturn, 1) := by decide +kernel
theorem dX5_create_42 : decode cX5_create 42 = .ok (.iconst 0, 1) := by decide +kernel
theorem dX5_create_43 : decode cX5_create 43 = .ok (.istore_n 3, 1) := by decide +kernel
theorem dX5_create_44 : decode cX5_create 44 = .ok (.iload_n 3, 1) := by decide +kernel
theorem dX5_create_45 : decode cX5_create 45 = .ok (.bipush 6, 2) := by decide +kernel
theorem dX5_create_47 : decode cX5_create 47 = .ok (.if_icmp .ge 45, 3) := by decide +kernel
theorem dX5_create_50 : decode cX5_create 50 = .ok (.aload_n 0, 1) := by decide +kernel
theorem dX5_create_51 : decode cX5_create 51 = .ok (.getfield 13, 3) := by decide +kernel
theorem dX5_create_54 : decode cX5_create 54 = .ok (.bipush 7, 2) := by decide +kernel
theorem dX5_create_56 : decode cX5_create 56 = .ok (.iload_n 3, 1) := by decide +kernel
theorem dX5_create_57 : decode cX5_create 57 = .ok (.imul, 1) := by decide +kernel
theorem dX5_create_58 : decode cX5_create 58 = .ok (.iaload, 1) := by decide +kernel
theorem dX5_create_59 : decode cX5_create 59 = .ok (.ifCond .ne 27, 3) := by decide +kernel
theorem dX5_create_62 : decode cX5_create 62 = .ok (.aload_n 0, 1) := by decide +kernel
theorem dX5_create_63 : decode cX5_create 63 = .ok (.getfield 13, 3) := by decide +kernel
theorem dX5_create_66 : decode cX5_create 66 = .ok (.bipush 7, 2) := by decide +kernel
theorem dX5_create_68 : decode cX5_create 68 = .ok (.iload_n 3, 1) := by decide +kernel
theorem dX5_create_69 : decode cX5_create 69 = .ok (.imul, 1) := by decide +kernel
theorem dX5_create_70 : decode cX5_create 70 = .ok (.iload_n 1, 1) := by decide +kernel
theorem dX5_create_71 : decode cX5_create 71 = .ok (.iastore, 1) := by decide +kernel
theorem dX5_create_72 : decode cX5_create 72 = .ok (.aload_n 0, 1) := by decide +kernel
theorem dX5_create_73 : decode cX5_create 73 = .ok (.getfield 13, 3) := by decide +kernel
theorem dX5_create_76 : decode cX5_create 76 = .ok (.bipush 7, 2) := by decide +kernel
theorem dX5_create_78 : decode cX5_create 78 = .ok (.iload_n 3, 1) := by decide +kernel
theorem dX5_create_79 : decode cX5_create 79 = .ok (.imul, 1) := by decide +kernel
theorem dX5_create_80 : decode cX5_create 80 = .ok (.iconst 1, 1) := by decide +kernel
theorem dX5_create_81 : decode cX5_create 81 = .ok (.iadd, 1) := by decide +kernel
theorem dX5_create_82 : decode cX5_create 82 = .ok (.iload_n 2, 1) := by decide +kernel
theorem dX5_create_83 : decode cX5_create 83 = .ok (.iastore, 1) := by decide +kernel
theorem dX5_create_84 : decode cX5_create 84 = .ok (.iload_n 3, 1) := by decide +kernel
theorem dX5_create_85 : decode cX5_create 85 = .ok (.ireturn, 1) := by decide +kernel
theorem dX5_create_86 : decode cX5_create 86 = .ok (.iinc 3 1, 3) := by decide +kernel
theorem dX5_create_89 : decode cX5_create 89 = .ok (.goto (-45), 3) := by decide +kernel
theorem dX5_create_92 : decode cX5_create 92 = .ok (.bipush (-2), 2) := by decide +kernel
theorem dX5_create_94 : decode cX5_create 94 = .ok (.ireturn, 1) := by decide +kernel
set_option maxRecDepth 20000 in
theorem ggX5_unlink_X5_slotOf : GoodIn wsX5_unlink wsX5_slotOf := goodIn_r _ [6, 7, 41, 42, 43, 44, 45, 46, 47, 48, 49, 50, 51, 52] (by decide +kernel) (by decide +kernel)
set_option maxRecDepth 20000 in
theorem gX5_unlink_X5_slotOf : GoodIn wsX5_unlink (wsV RX5 101 RX5 yX5_slotOf wsX5_slotOf) := goodIn_app (goodIn_of _ (by decide +kernel)) ggX5_unlink_X5_slotOf
set_option maxRecDepth 20000 in
theorem ggX5_unlink_X5_isOpen : GoodIn wsX5_unlink wsX5_isOpen := goodIn_r _ [11, 12, 41, 42, 43, 44, 45, 46, 47, 48, 49, 50, 51, 52] (by decide +kernel) (by decide +kernel)
set_option maxRecDepth 20000 in
theorem gX5_unlink_X5_isOpen : GoodIn wsX5_unlink (wsV RX5 104 RX5 yX5_isOpen wsX5_isOpen) := goodIn_app (goodIn_of _ (by decide +kernel)) ggX5_unlink_X5_isOpen
set_option maxRecDepth 20000 in
theorem ggX5_unlink_X5_takeAway : GoodIn wsX5_unlink wsX5_takeAway := goodIn_r _ [16, 7, 17, 18, 19, 5, 20, 21, 22, 23, 24, 25, 26, 27, 28, 29, 30, 31, 32, 33, 34, 35, 36, 37, 38, 39, 40, 41, 42, 43, 44, 45, 46, 47, 48, 49, 50, 51, 52] (by decide +kernel) (by decide +kernel)
set_option maxRecDepth 20000 in
theorem gX5_unlink_X5_takeAway : GoodIn wsX5_unlink (wsV RX5 108 RX5 yX5_takeAway wsX5_takeAway) := goodIn_app (goodIn_of _ (by decide +kernel)) ggX5_unlink_X5_takeAway
theorem dX5_unlink_0 : decode cX5_unlink 0 = .ok (.aload_n 0, 1) := by decide +kernel
theorem dX5_unlink_1 : decode cX5_unlink 1 = .ok (.getfield 42, 3) := by decide +kernel
theorem dX5_unlink_4 : decode cX5_unlink 4 = .ok (.ifCond .ne 6, 3) := by decide +kernel
theorem dX5_unlink_7 : decode cX5_unlink 7 = .ok (.bipush (-11), 2) := by decide +kernel
theorem dX5_unlink_9 : decode cX5_unlink 9 = .ok (.ireturn, 1) := by decide +kernel
theorem dX5_unlink_10 : decode cX5_unlink 10 = .ok (.aload_n 0, 1) := by decide +kernel
theorem dX5_unlink_11 : decode cX5_unlink 11 = .ok (.iload_n 1, 1) := by decide +kernel
theorem dX5_unlink_12 : decode cX5_unlink 12 = .ok (.invokevirtual 101, 3) := by decide +kernel
theorem dX5_unlink_15 : decode cX5_unlink 15 = .ok (.istore_n 2, 1) := by decide +kernel
theorem dX5_unlink_16 : decode cX5_unlink 16 = .ok (.iload_n 2, 1) := by decide +kernel
theorem dX5_unlink_17 : decode cX5_unlink 17 = .ok (.ifCond .ge 6, 3) := by decide +kernel
theorem dX5_unlink_20 : decode cX5_unlink 20 = .ok (.bipush (-3), 2) := by decide +kernel
theorem dX5_unlink_22 : decode cX5_unlink 22 = .ok (.ireturn, 1) := by decide +kernel
theorem dX5_unlink_23 : decode cX5_unlink 23 = .ok (.aload_n 0, 1) := by decide +kernel
theorem dX5_unlink_24 : decode cX5_unlink 24 = .ok (.iload_n 2, 1) := by decide +kernel
theorem dX5_unlink_25 : decode cX5_unlink 25 = .ok (.invokevirtual 104, 3) := by decide +kernel
theorem dX5_unlink_28 : decode cX5_unlink 28 = .ok (.ifCond .eq 6, 3) := by decide +kernel
theorem dX5_unlink_31 : decode cX5_unlink 31 = .ok (.bipush (-4), 2) := by decide +kernel
theorem dX5_unlink_33 : decode cX5_unlink 33 = .ok (.ireturn, 1) := by decide +kernel
theorem dX5_unlink_34 : decode cX5_unlink 34 = .ok (.aload_n 0, 1) := by decide +kernel
theorem dX5_unlink_35 : decode cX5_unlink 35 = .ok (.iload_n 2, 1) := by decide +kernel
theorem dX5_unlink_36 : decode cX5_unlink 36 = .ok (.invokevirtual 108, 3) := by decide +kernel
theorem dX5_unlink_39 : decode cX5_unlink 39 = .ok (.iconst 0, 1) := by decide +kernel
theorem dX5_unlink_40 : decode cX5_unlink 40 = .ok (.ireturn, 1) := by decide +kernel
set_option maxRecDepth 20000 in
theorem ggX5_rename_X5_slotOf : GoodIn wsX5_rename wsX5_slotOf := goodIn_r _ [7, 2, 44, 45, 46, 47, 48, 49, 50, 51, 52, 53, 54, 55] (by decide +kernel) (by decide +kernel)
set_option maxRecDepth 20000 in
theorem gX5_rename_X5_slotOf : GoodIn wsX5_rename (wsV RX5 101 RX5 yX5_slotOf wsX5_slotOf) := goodIn_app (goodIn_of _ (by decide +kernel)) ggX5_rename_X5_slotOf
set_option maxRecDepth 20000 in
theorem ggX5_rename_X5_within : GoodIn wsX5_rename wsX5_within := goodIn_r _ [10] (by decide +kernel) (by decide +kernel)
set_option maxRecDepth 20000 in
theorem gX5_rename_X5_within : GoodIn wsX5_rename (va_wsS RX5 38 yX5_within wsX5_within) := goodIn_app (goodIn_of _ (by decide +kernel)) ggX5_rename_X5_within
set_option maxRecDepth 20000 in
theorem ggX5_rename_X5_isOpen : GoodIn wsX5_rename wsX5_isOpen := goodIn_r _ [14, 15, 44, 45, 46, 47, 48, 49, 50, 51, 52, 53, 54, 55] (by decide +kernel) (by decide +kernel)
set_option maxRecDepth 20000 in
theorem gX5_rename_X5_isOpen : GoodIn wsX5_rename (wsV RX5 104 RX5 yX5_isOpen wsX5_isOpen) := goodIn_app (goodIn_of _ (by decide +kernel)) ggX5_rename_X5_isOpen
set_option maxRecDepth 20000 in
theorem ggX5_rename_X5_takeAway : GoodIn wsX5_rename wsX5_takeAway := goodIn_r _ [19, 2, 20, 21, 22, 6, 23, 24, 25, 26, 27, 28, 29, 30, 31, 32, 33, 34, 35, 36, 37, 38, 39, 40, 41, 42, 43, 44, 45, 46, 47, 48, 49, 50, 51, 52, 53, 54, 55] (by decide +kernel) (by decide +kernel)
set_option maxRecDepth 20000 in
theorem gX5_rename_X5_takeAway : GoodIn wsX5_rename (wsV RX5 108 RX5 yX5_takeAway wsX5_takeAway) := goodIn_app (goodIn_of _ (by decide +kernel)) ggX5_rename_X5_takeAway
theorem dX5_rename_0 : decode cX5_rename 0 = .ok (.aload_n 0, 1) := by decide +kernel
theorem dX5_rename_1 : decode cX5_rename 1 = .ok (.getfield 42, 3) := by decide +kernel
theorem dX5_rename_4 : decode cX5_rename 4 = .ok (.ifCond .ne 6, 3) := by decide +kernel
theorem dX5_rename_7 : decode cX5_rename 7 = .ok (.bipush (-11), 2) := by decide +kernel
theorem dX5_rename_9 : decode cX5_rename 9 = .ok (.ireturn, 1) := by decide +kernel
theorem dX5_rename_10 : decode cX5_rename 10 = .ok (.aload_n 0, 1) := by decide +kernel
theorem dX5_rename_11 : decode cX5_rename 11 = .ok (.iload_n 1, 1) := by decide +kernel
theorem dX5_rename_12 : decode cX5_rename 12 = .ok (.invokevirtual 101, 3) := by decide +kernel
theorem dX5_rename_15 : decode cX5_rename 15 = .ok (.istore_n 3, 1) := by decide +kernel
theorem dX5_rename_16 : decode cX5_rename 16 = .ok (.iload_n 3, 1) := by decide +kernel
theorem dX5_rename_17 : decode cX5_rename 17 = .ok (.ifCond .ge 6, 3) := by decide +kernel
theorem dX5_rename_20 : decode cX5_rename 20 = .ok (.bipush (-3), 2) := by decide +kernel
theorem dX5_rename_22 : decode cX5_rename 22 = .ok (.ireturn, 1) := by decide +kernel
theorem dX5_rename_23 : decode cX5_rename 23 = .ok (.iload_n 2, 1) := by decide +kernel
theorem dX5_rename_24 : decode cX5_rename 24 = .ok (.iconst 1, 1) := by decide +kernel
theorem dX5_rename_25 : decode cX5_rename 25 = .ok (.bipush 99, 2) := by decide +kernel
theorem dX5_rename_27 : decode cX5_rename 27 = .ok (.invokestatic 38, 3) := by decide +kernel
theorem dX5_rename_30 : decode cX5_rename 30 = .ok (.ifCond .ne 6, 3) := by decide +kernel
theorem dX5_rename_33 : decode cX5_rename 33 = .ok (.bipush (-12), 2) := by decide +kernel
theorem dX5_rename_35 : decode cX5_rename 35 = .ok (.ireturn, 1) := by decide +kernel
theorem dX5_rename_36 : decode cX5_rename 36 = .ok (.aload_n 0, 1) := by decide +kernel
theorem dX5_rename_37 : decode cX5_rename 37 = .ok (.iload_n 2, 1) := by decide +kernel
theorem dX5_rename_38 : decode cX5_rename 38 = .ok (.invokevirtual 101, 3) := by decide +kernel
theorem dX5_rename_41 : decode cX5_rename 41 = .ok (.istore 4, 2) := by decide +kernel
theorem dX5_rename_43 : decode cX5_rename 43 = .ok (.iload 4, 2) := by decide +kernel
theorem dX5_rename_45 : decode cX5_rename 45 = .ok (.ifCond .lt 27, 3) := by decide +kernel
theorem dX5_rename_48 : decode cX5_rename 48 = .ok (.iload 4, 2) := by decide +kernel
theorem dX5_rename_50 : decode cX5_rename 50 = .ok (.iload_n 3, 1) := by decide +kernel
theorem dX5_rename_51 : decode cX5_rename 51 = .ok (.if_icmp .eq 21, 3) := by decide +kernel
theorem dX5_rename_54 : decode cX5_rename 54 = .ok (.aload_n 0, 1) := by decide +kernel
theorem dX5_rename_55 : decode cX5_rename 55 = .ok (.iload 4, 2) := by decide +kernel
theorem dX5_rename_57 : decode cX5_rename 57 = .ok (.invokevirtual 104, 3) := by decide +kernel
theorem dX5_rename_60 : decode cX5_rename 60 = .ok (.ifCond .eq 6, 3) := by decide +kernel
theorem dX5_rename_63 : decode cX5_rename 63 = .ok (.bipush (-4), 2) := by decide +kernel
theorem dX5_rename_65 : decode cX5_rename 65 = .ok (.ireturn, 1) := by decide +kernel
theorem dX5_rename_66 : decode cX5_rename 66 = .ok (.aload_n 0, 1) := by decide +kernel
theorem dX5_rename_67 : decode cX5_rename 67 = .ok (.iload 4, 2) := by decide +kernel
theorem dX5_rename_69 : decode cX5_rename 69 = .ok (.invokevirtual 108, 3) := by decide +kernel
theorem dX5_rename_72 : decode cX5_rename 72 = .ok (.aload_n 0, 1) := by decide +kernel
theorem dX5_rename_73 : decode cX5_rename 73 = .ok (.getfield 13, 3) := by decide +kernel
theorem dX5_rename_76 : decode cX5_rename 76 = .ok (.bipush 7, 2) := by decide +kernel
theorem dX5_rename_78 : decode cX5_rename 78 = .ok (.iload_n 3, 1) := by decide +kernel
theorem dX5_rename_79 : decode cX5_rename 79 = .ok (.imul, 1) := by decide +kernel
theorem dX5_rename_80 : decode cX5_rename 80 = .ok (.iload_n 2, 1) := by decide +kernel
theorem dX5_rename_81 : decode cX5_rename 81 = .ok (.iastore, 1) := by decide +kernel
theorem dX5_rename_82 : decode cX5_rename 82 = .ok (.iconst 0, 1) := by decide +kernel
theorem dX5_rename_83 : decode cX5_rename 83 = .ok (.ireturn, 1) := by decide +kernel
set_option maxRecDepth 20000 in
theorem ggX5_open_X5_slotOf : GoodIn wsX5_open wsX5_slotOf := goodIn_r _ [7, 8, 9, 10, 11, 12, 13, 14, 15, 16, 17, 18, 19, 20] (by decide +kernel) (by decide +kernel)
set_option maxRecDepth 20000 in
theorem gX5_open_X5_slotOf : GoodIn wsX5_open (wsV RX5 101 RX5 yX5_slotOf wsX5_slotOf) := goodIn_app (goodIn_of _ (by decide +kernel)) ggX5_open_X5_slotOf
theorem dX5_open_0 : decode cX5_open 0 = .ok (.aload_n 0, 1) := by decide +kernel
theorem dX5_open_1 : decode cX5_open 1 = .ok (.getfield 42, 3) := by decide +kernel
theorem dX5_open_4 : decode cX5_open 4 = .ok (.ifCond .ne 6, 3) := by decide +kernel
theorem dX5_open_7 : decode cX5_open 7 = .ok (.bipush (-11), 2) := by decide +kernel
theorem dX5_open_9 : decode cX5_open 9 = .ok (.ireturn, 1) := by decide +kernel
theorem dX5_open_10 : decode cX5_open 10 = .ok (.aload_n 0, 1) := by decide +kernel
theorem dX5_open_11 : decode cX5_open 11 = .ok (.iload_n 1, 1) := by decide +kernel
theorem dX5_open_12 : decode cX5_open 12 = .ok (.invokevirtual 101, 3) := by decide +kernel
theorem dX5_open_15 : decode cX5_open 15 = .ok (.istore_n 2, 1) := by decide +kernel
theorem dX5_open_16 : decode cX5_open 16 = .ok (.iload_n 2, 1) := by decide +kernel
theorem dX5_open_17 : decode cX5_open 17 = .ok (.ifCond .ge 6, 3) := by decide +kernel
theorem dX5_open_20 : decode cX5_open 20 = .ok (.bipush (-3), 2) := by decide +kernel
theorem dX5_open_22 : decode cX5_open 22 = .ok (.ireturn, 1) := by decide +kernel
theorem dX5_open_23 : decode cX5_open 23 = .ok (.iconst 0, 1) := by decide +kernel
theorem dX5_open_24 : decode cX5_open 24 = .ok (.istore_n 3, 1) := by decide +kernel
theorem dX5_open_25 : decode cX5_open 25 = .ok (.iload_n 3, 1) := by decide +kernel
theorem dX5_open_26 : decode cX5_open 26 = .ok (.iconst 4, 1) := by decide +kernel
theorem dX5_open_27 : decode cX5_open 27 = .ok (.if_icmp .ge 29, 3) := by decide +kernel
theorem dX5_open_30 : decode cX5_open 30 = .ok (.aload_n 0, 1) := by decide +kernel
theorem dX5_open_31 : decode cX5_open 31 = .ok (.getfield 16, 3) := by decide +kernel
theorem dX5_open_34 : decode cX5_open 34 = .ok (.iload_n 3, 1) := by decide +kernel
theorem dX5_open_35 : decode cX5_open 35 = .ok (.iaload, 1) := by decide +kernel
theorem dX5_open_36 : decode cX5_open 36 = .ok (.ifCond .ne 14, 3) := by decide +kernel
theorem dX5_open_39 : decode cX5_open 39 = .ok (.aload_n 0, 1) := by decide +kernel
theorem dX5_open_40 : decode cX5_open 40 = .ok (.getfield 16, 3) := by decide +kernel
theorem dX5_open_43 : decode cX5_open 43 = .ok (.iload_n 3, 1) := by decide +kernel
theorem dX5_open_44 : decode cX5_open 44 = .ok (.iload_n 2, 1) := by decide +kernel
theorem dX5_open_45 : decode cX5_open 45 = .ok (.iconst 1, 1) := by decide +kernel
theorem dX5_open_46 : decode cX5_open 46 = .ok (.iadd, 1) := by decide +kernel
theorem dX5_open_47 : decode cX5_open 47 = .ok (.iastore, 1) := by decide +kernel
theorem dX5_open_48 : decode cX5_open 48 = .ok (.iload_n 3, 1) := by decide +kernel
theorem dX5_open_49 : decode cX5_open 49 = .ok (.ireturn, 1) := by decide +kernel
theorem dX5_open_50 : decode cX5_open 50 = .ok (.iinc 3 1, 3) := by decide +kernel
theorem dX5_open_53 : decode cX5_open 53 = .ok (.goto (-28), 3) := by decide +kernel
theorem dX5_open_56 : decode cX5_open 56 = .ok (.bipush (-5), 2) := by decide +kernel
theorem dX5_open_58 : decode cX5_open 58 = .ok (.ireturn, 1) := by decide +kernel
set_option maxRecDepth 20000 in
theorem ggX5_slotAt_X5_within : GoodIn wsX5_slotAt wsX5_within := goodIn_r _ [6] (by decide +kernel) (by decide +kernel)
set_option maxRecDepth 20000 in
theorem gX5_slotAt_X5_within : GoodIn wsX5_slotAt (va_wsS RX5 38 yX5_within wsX5_within) := goodIn_app (goodIn_of _ (by decide +kernel)) ggX5_slotAt_X5_within
theorem dX5_slotAt_0 : decode cX5_slotAt 0 = .ok (.aload_n 0, 1) := by decide +kernel
theorem dX5_slotAt_1 : decode cX5_slotAt 1 = .ok (.getfield 42, 3) := by decide +kernel
theorem dX5_slotAt_4 : decode cX5_slotAt 4 = .ok (.ifCond .ne 6, 3) := by decide +kernel
theorem dX5_slotAt_7 : decode cX5_slotAt 7 = .ok (.bipush (-11), 2) := by decide +kernel
theorem dX5_slotAt_9 : decode cX5_slotAt 9 = .ok (.ireturn, 1) := by decide +kernel
theorem dX5_slotAt_10 : decode cX5_slotAt 10 = .ok (.iload_n 1, 1) := by decide +kernel
theorem dX5_slotAt_11 : decode cX5_slotAt 11 = .ok (.iconst 0, 1) := by decide +kernel
theorem dX5_slotAt_12 : decode cX5_slotAt 12 = .ok (.iconst 3, 1) := by decide +kernel
theorem dX5_slotAt_13 : decode cX5_slotAt 13 = .ok (.invokestatic 38, 3) := by decide +kernel
theorem dX5_slotAt_16 : decode cX5_slotAt 16 = .ok (.ifCond .eq 23, 3) := by decide +kernel
theorem dX5_slotAt_19 : decode cX5_slotAt 19 = .ok (.aload_n 0, 1) := by decide +kernel
theorem dX5_slotAt_20 : decode cX5_slotAt 20 = .ok (.getfield 16, 3) := by decide +kernel
theorem dX5_slotAt_23 : decode cX5_slotAt 23 = .ok (.iload_n 1, 1) := by decide +kernel
theorem dX5_slotAt_24 : decode cX5_slotAt 24 = .ok (.iaload, 1) := by decide +kernel
theorem dX5_slotAt_25 : decode cX5_slotAt 25 = .ok (.ifCond .le 14, 3) := by decide +kernel
theorem dX5_slotAt_28 : decode cX5_slotAt 28 = .ok (.aload_n 0, 1) := by decide +kernel
theorem dX5_slotAt_29 : decode cX5_slotAt 29 = .ok (.getfield 16, 3) := by decide +kernel
theorem dX5_slotAt_32 : decode cX5_slotAt 32 = .ok (.iload_n 1, 1) := by decide +kernel
theorem dX5_slotAt_33 : decode cX5_slotAt 33 = .ok (.iaload, 1) := by decide +kernel
theorem dX5_slotAt_34 : decode cX5_slotAt 34 = .ok (.iconst 1, 1) := by decide +kernel
theorem dX5_slotAt_35 : decode cX5_slotAt 35 = .ok (.isub, 1) := by decide +kernel
theorem dX5_slotAt_36 : decode cX5_slotAt 36 = .ok (.goto 5, 3) := by decide +kernel
theorem dX5_slotAt_39 : decode cX5_slotAt 39 = .ok (.bipush (-6), 2) := by decide +kernel
theorem dX5_slotAt_41 : decode cX5_slotAt 41 = .ok (.ireturn, 1) := by decide +kernel
set_option maxRecDepth 20000 in
theorem ggX5_close_X5_slotAt : GoodIn wsX5_close wsX5_slotAt := goodIn_r _ [6, 7, 1, 8, 9, 5, 10, 11, 12, 13, 14, 15, 16, 17, 18, 19, 20, 21, 22] (by decide +kernel) (by decide +kernel)
set_option maxRecDepth 20000 in
theorem gX5_close_X5_slotAt : GoodIn wsX5_close (wsV RX5 111 RX5 yX5_slotAt wsX5_slotAt) := goodIn_app (goodIn_of _ (by decide +kernel)) ggX5_close_X5_slotAt
theorem dX5_close_0 : decode cX5_close 0 = .ok (.aload_n 0, 1) := by decide +kernel
theorem dX5_close_1 : decode cX5_close 1 = .ok (.iload_n 1, 1) := by decide +kernel
theorem dX5_close_2 : decode cX5_close 2 = .ok (.invokevirtual 111, 3) := by decide +kernel
theorem dX5_close_5 : decode cX5_close 5 = .ok (.istore_n 2, 1) := by decide +kernel
theorem dX5_close_6 : decode cX5_close 6 = .ok (.iload_n 2, 1) := by decide +kernel
theorem dX5_close_7 : decode cX5_close 7 = .ok (.ifCond .ge 5, 3) := by decide +kernel
theorem dX5_close_10 : decode cX5_close 10 = .ok (.iload_n 2, 1) := by decide +kernel
theorem dX5_close_11 : decode cX5_close 11 = .ok (.ireturn, 1) := by decide +kernel
theorem dX5_close_12 : decode cX5_close 12 = .ok (.aload_n 0, 1) := by decide +kernel
theorem dX5_close_13 : decode cX5_close 13 = .ok (.getfield 16, 3) := by decide +kernel
theorem dX5_close_16 : decode cX5_close 16 = .ok (.iload_n 1, 1) := by decide +kernel
theorem dX5_close_17 : decode cX5_close 17 = .ok (.iconst 0, 1) := by decide +kernel
theorem dX5_close_18 : decode cX5_close 18 = .ok (.iastore, 1) := by decide +kernel
theorem dX5_close_19 : decode cX5_close 19 = .ok (.iconst 0, 1) := by decide +kernel
theorem dX5_close_20 : decode cX5_close 20 = .ok (.ireturn, 1) := by decide +kernel
set_option maxRecDepth 20000 in
theorem ggX5_write_X5_slotAt : GoodIn wsX5_write wsX5_slotAt := goodIn_r _ [6, 7, 8, 9, 10, 5, 11, 64, 65, 66, 67, 68, 69, 70, 71, 72, 73, 74, 75] (by decide +kernel) (by decide +kernel)
set_option maxRecDepth 20000 in
theorem gX5_write_X5_slotAt : GoodIn wsX5_write (wsV RX5 111 RX5 yX5_slotAt wsX5_slotAt) := goodIn_app (goodIn_of _ (by decide +kernel)) ggX5_write_X5_slotAt
set_option maxRecDepth 20000 in
theorem ggX5_write_X5_within : GoodIn wsX5_write wsX5_within := goodIn_r _ [11] (by decide +kernel) (by decide +kernel)
set_option maxRecDepth 20000 in
theorem gX5_write_X5_within : GoodIn wsX5_write (va_wsS RX5 38 yX5_within wsX5_within) := goodIn_app (goodIn_of _ (by decide +kernel)) ggX5_write_X5_within
set_option maxRecDepth 20000 in
theorem ggX5_write_X5_grow : GoodIn wsX5_write wsX5_grow := goodIn_r _ [15, 1, 16, 17, 18, 19, 20, 5, 21, 22, 23, 24, 25, 26, 27, 28, 29, 30, 31, 32, 33, 34, 35, 36, 37, 38, 39, 40, 41, 42, 43, 44, 45, 46, 47, 48, 49, 50, 51, 52, 53, 54, 55, 56, 64, 65, 66, 67, 68, 69, 70, 71, 72, 73, 74, 75] (by decide +kernel) (by decide +kernel)
set_option maxRecDepth 20000 in
theorem gX5_write_X5_grow : GoodIn wsX5_write (wsV RX5 114 RX5 yX5_grow wsX5_grow) := goodIn_app (goodIn_of _ (by decide +kernel)) ggX5_write_X5_grow
set_option maxRecDepth 20000 in
theorem ggX5_write_X5_wordCell : GoodIn wsX5_write wsX5_wordCell := goodIn_r _ [60, 27, 28, 29, 5, 30, 1, 31, 32, 33, 34, 35, 36, 61, 62, 63, 64, 65, 66, 67, 68, 69, 70, 71, 72, 73, 74, 75] (by decide +kernel) (by decide +kernel)
set_option maxRecDepth 20000 in
theorem gX5_write_X5_wordCell : GoodIn wsX5_write (wsV RX5 98 RX5 yX5_wordCell wsX5_wordCell) := goodIn_app (goodIn_of _ (by decide +kernel)) ggX5_write_X5_wordCell
theorem dX5_write_0 : decode cX5_write 0 = .ok (.aload_n 0, 1) := by decide +kernel
theorem dX5_write_1 : decode cX5_write 1 = .ok (.iload_n 1, 1) := by decide +kernel
theorem dX5_write_2 : decode cX5_write 2 = .ok (.invokevirtual 111, 3) := by decide +kernel
theorem dX5_write_5 : decode cX5_write 5 = .ok (.istore 4, 2) := by decide +kernel
theorem dX5_write_7 : decode cX5_write 7 = .ok (.iload 4, 2) := by decide +kernel
theorem dX5_write_9 : decode cX5_write 9 = .ok (.ifCond .ge 6, 3) := by decide +kernel
theorem dX5_write_12 : decode cX5_write 12 = .ok (.iload 4, 2) := by decide +kernel
theorem dX5_write_14 : decode cX5_write 14 = .ok (.ireturn, 1) := by decide +kernel
theorem dX5_write_15 : decode cX5_write 15 = .ok (.iload_n 2, 1) := by decide +kernel
theorem dX5_write_16 : decode cX5_write 16 = .ok (.iconst 0, 1) := by decide +kernel
theorem dX5_write_17 : decode cX5_write 17 = .ok (.bipush 63, 2) := by decide +kernel
theorem dX5_write_19 : decode cX5_write 19 = .ok (.invokestatic 38, 3) := by decide +kernel
theorem dX5_write_22 : decode cX5_write 22 = .ok (.ifCond .ne 6, 3) := by decide +kernel
theorem dX5_write_25 : decode cX5_write 25 = .ok (.bipush (-7), 2) := by decide +kernel
theorem dX5_write_27 : decode cX5_write 27 = .ok (.ireturn, 1) := by decide +kernel
theorem dX5_write_28 : decode cX5_write 28 = .ok (.iload_n 2, 1) := by decide +kernel
theorem dX5_write_29 : decode cX5_write 29 = .ok (.aload_n 0, 1) := by decide +kernel
theorem dX5_write_30 : decode cX5_write 30 = .ok (.getfield 13, 3) := by decide +kernel
theorem dX5_write_33 : decode cX5_write 33 = .ok (.bipush 7, 2) := by decide +kernel
theorem dX5_write_35 : decode cX5_write 35 = .ok (.iload 4, 2) := by decide +kernel
theorem dX5_write_37 : decode cX5_write 37 = .ok (.imul, 1) := by decide +kernel
theorem dX5_write_38 : decode cX5_write 38 = .ok (.iconst 2, 1) := by decide +kernel
theorem dX5_write_39 : decode cX5_write 39 = .ok (.iadd, 1) := by decide +kernel
theorem dX5_write_40 : decode cX5_write 40 = .ok (.iaload, 1) := by decide +kernel
theorem dX5_write_41 : decode cX5_write 41 = .ok (.if_icmp .lt 22, 3) := by decide +kernel
theorem dX5_write_44 : decode cX5_write 44 = .ok (.aload_n 0, 1) := by decide +kernel
theorem dX5_write_45 : decode cX5_write 45 = .ok (.iload 4, 2) := by decide +kernel
theorem dX5_write_47 : decode cX5_write 47 = .ok (.iload_n 2, 1) := by decide +kernel
theorem dX5_write_48 : decode cX5_write 48 = .ok (.iconst 1, 1) := by decide +kernel
theorem dX5_write_49 : decode cX5_write 49 = .ok (.iadd, 1) := by decide +kernel
theorem dX5_write_50 : decode cX5_write 50 = .ok (.invokevirtual 114, 3) := by decide +kernel
theorem dX5_write_53 : decode cX5_write 53 = .ok (.istore 5, 2) := by decide +kernel
theorem dX5_write_55 : decode cX5_write 55 = .ok (.iload 5, 2) := by decide +kernel
theorem dX5_write_57 : decode cX5_write 57 = .ok (.ifCond .ge 6, 3) := by decide +kernel
theorem dX5_write_60 : decode cX5_write 60 = .ok (.iload 5, 2) := by decide +kernel
theorem dX5_write_62 : decode cX5_write 62 = .ok (.ireturn, 1) := by decide +kernel
theorem dX5_write_63 : decode cX5_write 63 = .ok (.aload_n 0, 1) := by decide +kernel
theorem dX5_write_64 : decode cX5_write 64 = .ok (.getfield 13, 3) := by decide +kernel
theorem dX5_write_67 : decode cX5_write 67 = .ok (.aload_n 0, 1) := by decide +kernel
theorem dX5_write_68 : decode cX5_write 68 = .ok (.iload 4, 2) := by decide +kernel
theorem dX5_write_70 : decode cX5_write 70 = .ok (.iload_n 2, 1) := by decide +kernel
theorem dX5_write_71 : decode cX5_write 71 = .ok (.invokevirtual 98, 3) := by decide +kernel
theorem dX5_write_74 : decode cX5_write 74 = .ok (.iload_n 3, 1) := by decide +kernel
theorem dX5_write_75 : decode cX5_write 75 = .ok (.iastore, 1) := by decide +kernel
theorem dX5_write_76 : decode cX5_write 76 = .ok (.iconst 0, 1) := by decide +kernel
theorem dX5_write_77 : decode cX5_write 77 = .ok (.ireturn, 1) := by decide +kernel
set_option maxRecDepth 20000 in
theorem ggX5_read_X5_slotAt : GoodIn wsX5_read wsX5_slotAt := goodIn_r _ [6, 7, 8, 9, 10, 5, 11, 29, 30, 31, 32, 33, 34, 35, 36, 37, 38, 39, 40] (by decide +kernel) (by decide +kernel)
set_option maxRecDepth 20000 in
theorem gX5_read_X5_slotAt : GoodIn wsX5_read (wsV RX5 111 RX5 yX5_slotAt wsX5_slotAt) := goodIn_app (goodIn_of _ (by decide +kernel)) ggX5_read_X5_slotAt
set_option maxRecDepth 20000 in
theorem ggX5_read_X5_wordCell : GoodIn wsX5_read wsX5_wordCell := goodIn_r _ [15, 16, 17, 18, 5, 19, 1, 20, 21, 22, 23, 24, 25, 26, 27, 28, 29, 30, 31, 32, 33, 34, 35, 36, 37, 38, 39, 40] (by decide +kernel) (by decide +kernel)
set_option maxRecDepth 20000 in
theorem gX5_read_X5_wordCell : GoodIn wsX5_read (wsV RX5 98 RX5 yX5_wordCell wsX5_wordCell) := goodIn_app (goodIn_of _ (by decide +kernel)) ggX5_read_X5_wordCell
theorem dX5_read_0 : decode cX5_read 0 = .ok (.aload_n 0, 1) := by decide +kernel
theorem dX5_read_1 : decode cX5_read 1 = .ok (.iload_n 1, 1) := by decide +kernel
theorem dX5_read_2 : decode cX5_read 2 = .ok (.invokevirtual 111, 3) := by decide +kernel
theorem dX5_read_5 : decode cX5_read 5 = .ok (.istore_n 3, 1) := by decide +kernel
theorem dX5_read_6 : decode cX5_read 6 = .ok (.iload_n 3, 1) := by decide +kernel
theorem dX5_read_7 : decode cX5_read 7 = .ok (.ifCond .lt 22, 3) := by decide +kernel
theorem dX5_read_10 : decode cX5_read 10 = .ok (.iload_n 2, 1) := by decide +kernel
theorem dX5_read_11 : decode cX5_read 11 = .ok (.ifCond .lt 18, 3) := by decide +kernel
theorem dX5_read_14 : decode cX5_read 14 = .ok (.iload_n 2, 1) := by decide +kernel
theorem dX5_read_15 : decode cX5_read 15 = .ok (.aload_n 0, 1) := by decide +kernel
theorem dX5_read_16 : decode cX5_read 16 = .ok (.getfield 13, 3) := by decide +kernel
theorem dX5_read_19 : decode cX5_read 19 = .ok (.bipush 7, 2) := by decide +kernel
theorem dX5_read_21 : decode cX5_read 21 = .ok (.iload_n 3, 1) := by decide +kernel
theorem dX5_read_22 : decode cX5_read 22 = .ok (.imul, 1) := by decide +kernel
theorem dX5_read_23 : decode cX5_read 23 = .ok (.iconst 2, 1) := by decide +kernel
theorem dX5_read_24 : decode cX5_read 24 = .ok (.iadd, 1) := by decide +kernel
theorem dX5_read_25 : decode cX5_read 25 = .ok (.iaload, 1) := by decide +kernel
theorem dX5_read_26 : decode cX5_read 26 = .ok (.if_icmp .lt 7, 3) := by decide +kernel
theorem dX5_read_29 : decode cX5_read 29 = .ok (.iconst 0, 1) := by decide +kernel
theorem dX5_read_30 : decode cX5_read 30 = .ok (.goto 14, 3) := by decide +kernel
theorem dX5_read_33 : decode cX5_read 33 = .ok (.aload_n 0, 1) := by decide +kernel
theorem dX5_read_34 : decode cX5_read 34 = .ok (.getfield 13, 3) := by decide +kernel
theorem dX5_read_37 : decode cX5_read 37 = .ok (.aload_n 0, 1) := by decide +kernel
theorem dX5_read_38 : decode cX5_read 38 = .ok (.iload_n 3, 1) := by decide +kernel
theorem dX5_read_39 : decode cX5_read 39 = .ok (.iload_n 2, 1) := by decide +kernel
theorem dX5_read_40 : decode cX5_read 40 = .ok (.invokevirtual 98, 3) := by decide +kernel
theorem dX5_read_43 : decode cX5_read 43 = .ok (.iaload, 1) := by decide +kernel
theorem dX5_read_44 : decode cX5_read 44 = .ok (.ireturn, 1) := by decide +kernel
set_option maxRecDepth 20000 in
theorem ggX5_truncate_X5_slotAt : GoodIn wsX5_truncate wsX5_slotAt := goodIn_r _ [6, 7, 8, 9, 10, 5, 11, 72, 73, 74, 75, 76, 77, 78, 79, 80, 81, 82, 83] (by decide +kernel) (by decide +kernel)
set_option maxRecDepth 20000 in
theorem gX5_truncate_X5_slotAt : GoodIn wsX5_truncate (wsV RX5 111 RX5 yX5_slotAt wsX5_slotAt) := goodIn_app (goodIn_of _ (by decide +kernel)) ggX5_truncate_X5_slotAt
set_option maxRecDepth 20000 in
theorem ggX5_truncate_X5_within : GoodIn wsX5_truncate wsX5_within := goodIn_r _ [11] (by decide +kernel) (by decide +kernel)
set_option maxRecDepth 20000 in
theorem gX5_truncate_X5_within : GoodIn wsX5_truncate (va_wsS RX5 38 yX5_within wsX5_within) := goodIn_app (goodIn_of _ (by decide +kernel)) ggX5_truncate_X5_within
set_option maxRecDepth 20000 in
theorem ggX5_truncate_X5_grow : GoodIn wsX5_truncate wsX5_grow := goodIn_r _ [15, 1, 16, 17, 18, 19, 20, 5, 21, 22, 23, 24, 25, 26, 27, 28, 29, 30, 31, 32, 33, 34, 35, 36, 37, 38, 39, 40, 41, 42, 43, 44, 45, 46, 47, 48, 49, 50, 51, 52, 53, 54, 55, 56, 72, 73, 74, 75, 76, 77, 78, 79, 80, 81, 82, 83] (by decide +kernel) (by decide +kernel)
set_option maxRecDepth 20000 in
theorem gX5_truncate_X5_grow : GoodIn wsX5_truncate (wsV RX5 114 RX5 yX5_grow wsX5_grow) := goodIn_app (goodIn_of _ (by decide +kernel)) ggX5_truncate_X5_grow
set_option maxRecDepth 20000 in
theorem ggX5_truncate_X5_shrink : GoodIn wsX5_truncate wsX5_shrink := goodIn_r _ [60, 1, 37, 38, 39, 5, 40, 27, 28, 29, 30, 23, 24, 25, 26, 31, 32, 33, 34, 35, 36, 61, 62, 63, 64, 65, 66, 67, 50, 51, 52, 68, 69, 70, 71, 72, 73, 74, 75, 76, 77, 78, 79, 80, 81, 82, 83] (by decide +kernel) (by decide +kernel)
set_option maxRecDepth 20000 in
theorem gX5_truncate_X5_shrink : GoodIn wsX5_truncate (wsV RX5 117 RX5 yX5_shrink wsX5_shrink) := goodIn_app (goodIn_of _ (by decide +kernel)) ggX5_truncate_X5_shrink
theorem dX5_truncate_0 : decode cX5_truncate 0 = .ok (.aload_n 0, 1) := by decide +kernel
theorem dX5_truncate_1 : decode cX5_truncate 1 = .ok (.iload_n 1, 1) := by decide +kernel
theorem dX5_truncate_2 : decode cX5_truncate 2 = .ok (.invokevirtual 111, 3) := by decide +kernel
theorem dX5_truncate_5 : decode cX5_truncate 5 = .ok (.istore_n 3, 1) := by decide +kernel
theorem dX5_truncate_6 : decode cX5_truncate 6 = .ok (.iload_n 3, 1) := by decide +kernel
theorem dX5_truncate_7 : decode cX5_truncate 7 = .ok (.ifCond .ge 5, 3) := by decide +kernel
theorem dX5_truncate_10 : decode cX5_truncate 10 = .ok (.iload_n 3, 1) := by decide +kernel
theorem dX5_truncate_11 : decode cX5_truncate 11 = .ok (.ireturn, 1) := by decide +kernel
theorem dX5_truncate_12 : decode cX5_truncate 12 = .ok (.iload_n 2, 1) := by decide +kernel
theorem dX5_truncate_13 : decode cX5_truncate 13 = .ok (.iconst 0, 1) := by decide +kernel
theorem dX5_truncate_14 : decode cX5_truncate 14 = .ok (.bipush 64, 2) := by decide +kernel
theorem dX5_truncate_16 : decode cX5_truncate 16 = .ok (.invokestatic 38, 3) := by decide +kernel
theorem dX5_truncate_19 : decode cX5_truncate 19 = .ok (.ifCond .ne 6, 3) := by decide +kernel
theorem dX5_truncate_22 : decode cX5_truncate 22 = .ok (.bipush (-7), 2) := by decide +kernel
theorem dX5_truncate_24 : decode cX5_truncate 24 = .ok (.ireturn, 1) := by decide +kernel
theorem dX5_truncate_25 : decode cX5_truncate 25 = .ok (.iload_n 2, 1) := by decide +kernel
theorem dX5_truncate_26 : decode cX5_truncate 26 = .ok (.aload_n 0, 1) := by decide +kernel
theorem dX5_truncate_27 : decode cX5_truncate 27 = .ok (.getfield 13, 3) := by decide +kernel
theorem dX5_truncate_30 : decode cX5_truncate 30 = .ok (.bipush 7, 2) := by decide +kernel
theorem dX5_truncate_32 : decode cX5_truncate 32 = .ok (.iload_n 3, 1) := by decide +kernel
theorem dX5_truncate_33 : decode cX5_truncate 33 = .ok (.imul, 1) := by decide +kernel
theorem dX5_truncate_34 : decode cX5_truncate 34 = .ok (.iconst 2, 1) := by decide +kernel
theorem dX5_truncate_35 : decode cX5_truncate 35 = .ok (.iadd, 1) := by decide +kernel
theorem dX5_truncate_36 : decode cX5_truncate 36 = .ok (.iaload, 1) := by decide +kernel
theorem dX5_truncate_37 : decode cX5_truncate 37 = .ok (.if_icmp .le 10, 3) := by decide +kernel
theorem dX5_truncate_40 : decode cX5_truncate 40 = .ok (.aload_n 0, 1) := by decide +kernel
theorem dX5_truncate_41 : decode cX5_truncate 41 = .ok (.iload_n 3, 1) := by decide +kernel
theorem dX5_truncate_42 : decode cX5_truncate 42 = .ok (.iload_n 2, 1) := by decide +kernel
theorem dX5_truncate_43 : decode cX5_truncate 43 = .ok (.invokevirtual 114, 3) := by decide +kernel
theorem dX5_truncate_46 : decode cX5_truncate 46 = .ok (.ireturn, 1) := by decide +kernel
theorem dX5_truncate_47 : decode cX5_truncate 47 = .ok (.aload_n 0, 1) := by decide +kernel
theorem dX5_truncate_48 : decode cX5_truncate 48 = .ok (.iload_n 3, 1) := by decide +kernel
theorem dX5_truncate_49 : decode cX5_truncate 49 = .ok (.iload_n 2, 1) := by decide +kernel
theorem dX5_truncate_50 : decode cX5_truncate 50 = .ok (.invokevirtual 117, 3) := by decide +kernel
theorem dX5_truncate_53 : decode cX5_truncate 53 = .ok (.iconst 0, 1) := by decide +kernel
theorem dX5_truncate_54 : decode cX5_truncate 54 = .ok (.ireturn, 1) := by decide +kernel
set_option maxRecDepth 20000 in
theorem ggX5_length_X5_slotAt : GoodIn wsX5_length wsX5_slotAt := goodIn_r _ [6, 7, 8, 9, 10, 5, 11, 12, 13, 14, 15, 16, 17, 18, 19, 20, 21, 22, 23] (by decide +kernel) (by decide +kernel)
set_option maxRecDepth 20000 in
theorem gX5_length_X5_slotAt : GoodIn wsX5_length (wsV RX5 111 RX5 yX5_slotAt wsX5_slotAt) := goodIn_app (goodIn_of _ (by decide +kernel)) ggX5_length_X5_slotAt
theorem dX5_length_0 : decode cX5_length 0 = .ok (.aload_n 0, 1) := by decide +kernel
theorem dX5_length_1 : decode cX5_length 1 = .ok (.iload_n 1, 1) := by decide +kernel
theorem dX5_length_2 : decode cX5_length 2 = .ok (.invokevirtual 111, 3) := by decide +kernel
theorem dX5_length_5 : decode cX5_length 5 = .ok (.istore_n 2, 1) := by decide +kernel
theorem dX5_length_6 : decode cX5_length 6 = .ok (.iload_n 2, 1) := by decide +kernel
theorem dX5_length_7 : decode cX5_length 7 = .ok (.ifCond .ge 7, 3) := by decide +kernel
theorem dX5_length_10 : decode cX5_length 10 = .ok (.iload_n 2, 1) := by decide +kernel
theorem dX5_length_11 : decode cX5_length 11 = .ok (.goto 14, 3) := by decide +kernel
theorem dX5_length_14 : decode cX5_length 14 = .ok (.aload_n 0, 1) := by decide +kernel
theorem dX5_length_15 : decode cX5_length 15 = .ok (.getfield 13, 3) := by decide +kernel
theorem dX5_length_18 : decode cX5_length 18 = .ok (.bipush 7, 2) := by decide +kernel
theorem dX5_length_20 : decode cX5_length 20 = .ok (.iload_n 2, 1) := by decide +kernel
theorem dX5_length_21 : decode cX5_length 21 = .ok (.imul, 1) := by decide +kernel
theorem dX5_length_22 : decode cX5_length 22 = .ok (.iconst 2, 1) := by decide +kernel
theorem dX5_length_23 : decode cX5_length 23 = .ok (.iadd, 1) := by decide +kernel
theorem dX5_length_24 : decode cX5_length 24 = .ok (.iaload, 1) := by decide +kernel
theorem dX5_length_25 : decode cX5_length 25 = .ok (.ireturn, 1) := by decide +kernel
set_option maxRecDepth 20000 in
theorem ggX5_extent_X5_slotAt : GoodIn wsX5_extent wsX5_slotAt := goodIn_r _ [5, 6, 7, 8, 9, 4, 10, 16, 17, 18, 19, 20, 21, 22, 23, 24, 25, 26, 27] (by decide +kernel) (by decide +kernel)
set_option maxRecDepth 20000 in
theorem gX5_extent_X5_slotAt : GoodIn wsX5_extent (wsV RX5 111 RX5 yX5_slotAt wsX5_slotAt) := goodIn_app (goodIn_of _ (by decide +kernel)) ggX5_extent_X5_slotAt
set_option maxRecDepth 20000 in
theorem ggX5_extent_X5_within : GoodIn wsX5_extent wsX5_within := goodIn_r _ [10] (by decide +kernel) (by decide +kernel)
set_option maxRecDepth 20000 in
theorem gX5_extent_X5_within : GoodIn wsX5_extent (va_wsS RX5 38 yX5_within wsX5_within) := goodIn_app (goodIn_of _ (by decide +kernel)) ggX5_extent_X5_within
set_option maxRecDepth 20000 in
theorem ggX5_extent_X5_extentOf : GoodIn wsX5_extent wsX5_extentOf := goodIn_r _ [14, 15, 16, 17, 18, 19, 20, 21, 22, 23, 24, 25, 26, 27] (by decide +kernel) (by decide +kernel)
set_option maxRecDepth 20000 in
theorem gX5_extent_X5_extentOf : GoodIn wsX5_extent (wsV RX5 63 RX5 yX5_extentOf wsX5_extentOf) := goodIn_app (goodIn_of _ (by decide +kernel)) ggX5_extent_X5_extentOf
theorem dX5_extent_0 : decode cX5_extent 0 = .ok (.aload_n 0, 1) := by decide +kernel
theorem dX5_extent_1 : decode cX5_extent 1 = .ok (.iload_n 1, 1) := by decide +kernel
theorem dX5_extent_2 : decode cX5_extent 2 = .ok (.invokevirtual 111, 3) := by decide +kernel
theorem dX5_extent_5 : decode cX5_extent 5 = .ok (.istore_n 3, 1) := by decide +kernel
theorem dX5_extent_6 : decode cX5_extent 6 = .ok (.iload_n 3, 1) := by decide +kernel
theorem dX5_extent_7 : decode cX5_extent 7 = .ok (.ifCond .ge 5, 3) := by decide +kernel
theorem dX5_extent_10 : decode cX5_extent 10 = .ok (.iload_n 3, 1) := by decide +kernel
theorem dX5_extent_11 : decode cX5_extent 11 = .ok (.ireturn, 1) := by decide +kernel
theorem dX5_extent_12 : decode cX5_extent 12 = .ok (.iload_n 2, 1) := by decide +kernel
theorem dX5_extent_13 : decode cX5_extent 13 = .ok (.iconst 0, 1) := by decide +kernel
theorem dX5_extent_14 : decode cX5_extent 14 = .ok (.iconst 3, 1) := by decide +kernel
theorem dX5_extent_15 : decode cX5_extent 15 = .ok (.invokestatic 38, 3) := by decide +kernel
theorem dX5_extent_18 : decode cX5_extent 18 = .ok (.ifCond .eq 12, 3) := by decide +kernel
theorem dX5_extent_21 : decode cX5_extent 21 = .ok (.aload_n 0, 1) := by decide +kernel
theorem dX5_extent_22 : decode cX5_extent 22 = .ok (.iload_n 3, 1) := by decide +kernel
theorem dX5_extent_23 : decode cX5_extent 23 = .ok (.iload_n 2, 1) := by decide +kernel
theorem dX5_extent_24 : decode cX5_extent 24 = .ok (.invokevirtual 63, 3) := by decide +kernel
theorem dX5_extent_27 : decode cX5_extent 27 = .ok (.goto 5, 3) := by decide +kernel
theorem dX5_extent_30 : decode cX5_extent 30 = .ok (.bipush (-12), 2) := by decide +kernel
theorem dX5_extent_32 : decode cX5_extent 32 = .ok (.ireturn, 1) := by decide +kernel
set_option maxRecDepth 20000 in
theorem ggX5_setQuota_X5_within : GoodIn wsX5_setQuota wsX5_within := goodIn_r _ [6] (by decide +kernel) (by decide +kernel)
set_option maxRecDepth 20000 in
theorem gX5_setQuota_X5_within : GoodIn wsX5_setQuota (va_wsS RX5 38 yX5_within wsX5_within) := goodIn_app (goodIn_of _ (by decide +kernel)) ggX5_setQuota_X5_within
set_option maxRecDepth 20000 in
theorem ggX5_setQuota_X5_used : GoodIn wsX5_setQuota wsX5_used := goodIn_r _ [10, 2, 11, 12, 13, 5, 14, 15, 16, 17, 18, 19, 20, 21, 22, 23, 24, 25, 26, 27, 28, 29, 30, 31, 32, 33, 34, 35, 36] (by decide +kernel) (by decide +kernel)
set_option maxRecDepth 20000 in
theorem gX5_setQuota_X5_used : GoodIn wsX5_setQuota (wsV RX5 88 RX5 yX5_used wsX5_used) := goodIn_app (goodIn_of _ (by decide +kernel)) ggX5_setQuota_X5_used
theorem dX5_setQuota_0 : decode cX5_setQuota 0 = .ok (.aload_n 0, 1) := by decide +kernel
theorem dX5_setQuota_1 : decode cX5_setQuota 1 = .ok (.getfield 42, 3) := by decide +kernel
theorem dX5_setQuota_4 : decode cX5_setQuota 4 = .ok (.ifCond .ne 6, 3) := by decide +kernel
theorem dX5_setQuota_7 : decode cX5_setQuota 7 = .ok (.bipush (-11), 2) := by decide +kernel
theorem dX5_setQuota_9 : decode cX5_setQuota 9 = .ok (.ireturn, 1) := by decide +kernel
theorem dX5_setQuota_10 : decode cX5_setQuota 10 = .ok (.iload_n 1, 1) := by decide +kernel
theorem dX5_setQuota_11 : decode cX5_setQuota 11 = .ok (.iconst 0, 1) := by decide +kernel
theorem dX5_setQuota_12 : decode cX5_setQuota 12 = .ok (.iconst 2, 1) := by decide +kernel
theorem dX5_setQuota_13 : decode cX5_setQuota 13 = .ok (.invokestatic 38, 3) := by decide +kernel
theorem dX5_setQuota_16 : decode cX5_setQuota 16 = .ok (.ifCond .eq 13, 3) := by decide +kernel
theorem dX5_setQuota_19 : decode cX5_setQuota 19 = .ok (.iload_n 2, 1) := by decide +kernel
theorem dX5_setQuota_20 : decode cX5_setQuota 20 = .ok (.iconst 0, 1) := by decide +kernel
theorem dX5_setQuota_21 : decode cX5_setQuota 21 = .ok (.bipush 32, 2) := by decide +kernel
theorem dX5_setQuota_23 : decode cX5_setQuota 23 = .ok (.invokestatic 38, 3) := by decide +kernel
theorem dX5_setQuota_26 : decode cX5_setQuota 26 = .ok (.ifCond .ne 6, 3) := by decide +kernel
theorem dX5_setQuota_29 : decode cX5_setQuota 29 = .ok (.bipush (-12), 2) := by decide +kernel
theorem dX5_setQuota_31 : decode cX5_setQuota 31 = .ok (.ireturn, 1) := by decide +kernel
theorem dX5_setQuota_32 : decode cX5_setQuota 32 = .ok (.aload_n 0, 1) := by decide +kernel
theorem dX5_setQuota_33 : decode cX5_setQuota 33 = .ok (.iload_n 1, 1) := by decide +kernel
theorem dX5_setQuota_34 : decode cX5_setQuota 34 = .ok (.invokevirtual 88, 3) := by decide +kernel
theorem dX5_setQuota_37 : decode cX5_setQuota 37 = .ok (.iload_n 2, 1) := by decide +kernel
theorem dX5_setQuota_38 : decode cX5_setQuota 38 = .ok (.if_icmp .le 6, 3) := by decide +kernel
theorem dX5_setQuota_41 : decode cX5_setQuota 41 = .ok (.bipush (-10), 2) := by decide +kernel
theorem dX5_setQuota_43 : decode cX5_setQuota 43 = .ok (.ireturn, 1) := by decide +kernel
theorem dX5_setQuota_44 : decode cX5_setQuota 44 = .ok (.aload_n 0, 1) := by decide +kernel
theorem dX5_setQuota_45 : decode cX5_setQuota 45 = .ok (.getfield 13, 3) := by decide +kernel
theorem dX5_setQuota_48 : decode cX5_setQuota 48 = .ok (.bipush 42, 2) := by decide +kernel
theorem dX5_setQuota_50 : decode cX5_setQuota 50 = .ok (.iload_n 1, 1) := by decide +kernel
theorem dX5_setQuota_51 : decode cX5_setQuota 51 = .ok (.iadd, 1) := by decide +kernel
theorem dX5_setQuota_52 : decode cX5_setQuota 52 = .ok (.iload_n 2, 1) := by decide +kernel
theorem dX5_setQuota_53 : decode cX5_setQuota 53 = .ok (.iastore, 1) := by decide +kernel
theorem dX5_setQuota_54 : decode cX5_setQuota 54 = .ok (.iconst 0, 1) := by decide +kernel
theorem dX5_setQuota_55 : decode cX5_setQuota 55 = .ok (.ireturn, 1) := by decide +kernel
set_option maxRecDepth 20000 in
theorem ggX5_usage_X5_within : GoodIn wsX5_usage wsX5_within := goodIn_r _ [5] (by decide +kernel) (by decide +kernel)
set_option maxRecDepth 20000 in
theorem gX5_usage_X5_within : GoodIn wsX5_usage (va_wsS RX5 38 yX5_within wsX5_within) := goodIn_app (goodIn_of _ (by decide +kernel)) ggX5_usage_X5_within
set_option maxRecDepth 20000 in
theorem ggX5_usage_X5_used : GoodIn wsX5_usage wsX5_used := goodIn_r _ [9, 10, 11, 12, 13, 4, 14, 15, 16, 17, 18, 19, 20, 21, 22, 23, 24, 25, 26, 27, 28, 29, 30, 31, 32, 33, 34, 35, 36] (by decide +kernel) (by decide +kernel)
set_option maxRecDepth 20000 in
theorem gX5_usage_X5_used : GoodIn wsX5_usage (wsV RX5 88 RX5 yX5_used wsX5_used) := goodIn_app (goodIn_of _ (by decide +kernel)) ggX5_usage_X5_used
theorem dX5_usage_0 : decode cX5_usage 0 = .ok (.aload_n 0, 1) := by decide +kernel
theorem dX5_usage_1 : decode cX5_usage 1 = .ok (.getfield 42, 3) := by decide +kernel
theorem dX5_usage_4 : decode cX5_usage 4 = .ok (.ifCond .ne 8, 3) := by decide +kernel
theorem dX5_usage_7 : decode cX5_usage 7 = .ok (.bipush (-11), 2) := by decide +kernel
theorem dX5_usage_9 : decode cX5_usage 9 = .ok (.goto 22, 3) := by decide +kernel
theorem dX5_usage_12 : decode cX5_usage 12 = .ok (.iload_n 1, 1) := by decide +kernel
theorem dX5_usage_13 : decode cX5_usage 13 = .ok (.iconst 0, 1) := by decide +kernel
theorem dX5_usage_14 : decode cX5_usage 14 = .ok (.iconst 2, 1) := by decide +kernel
theorem dX5_usage_15 : decode cX5_usage 15 = .ok (.invokestatic 38, 3) := by decide +kernel
theorem dX5_usage_18 : decode cX5_usage 18 = .ok (.ifCond .eq 11, 3) := by decide +kernel
theorem dX5_usage_21 : decode cX5_usage 21 = .ok (.aload_n 0, 1) := by decide +kernel
theorem dX5_usage_22 : decode cX5_usage 22 = .ok (.iload_n 1, 1) := by decide +kernel
theorem dX5_usage_23 : decode cX5_usage 23 = .ok (.invokevirtual 88, 3) := by decide +kernel
theorem dX5_usage_26 : decode cX5_usage 26 = .ok (.goto 5, 3) := by decide +kernel
theorem dX5_usage_29 : decode cX5_usage 29 = .ok (.bipush (-12), 2) := by decide +kernel
theorem dX5_usage_31 : decode cX5_usage 31 = .ok (.ireturn, 1) := by decide +kernel
set_option maxRecDepth 20000 in
theorem ggX5_free_X5_within : GoodIn wsX5_free wsX5_within := goodIn_r _ [6] (by decide +kernel) (by decide +kernel)
set_option maxRecDepth 20000 in
theorem gX5_free_X5_within : GoodIn wsX5_free (va_wsS RX5 38 yX5_within wsX5_within) := goodIn_app (goodIn_of _ (by decide +kernel)) ggX5_free_X5_within
set_option maxRecDepth 20000 in
theorem ggX5_free_X5_countFree : GoodIn wsX5_free wsX5_countFree := goodIn_r _ [9, 10, 11, 5, 12, 13, 14, 15] (by decide +kernel) (by decide +kernel)
set_option maxRecDepth 20000 in
theorem gX5_free_X5_countFree : GoodIn wsX5_free (va_wsS RX5 121 yX5_countFree wsX5_countFree) := goodIn_app (goodIn_of _ (by decide +kernel)) ggX5_free_X5_countFree
theorem dX5_free_0 : decode cX5_free 0 = .ok (.aload_n 0, 1) := by decide +kernel
theorem dX5_free_1 : decode cX5_free 1 = .ok (.getfield 42, 3) := by decide +kernel
theorem dX5_free_4 : decode cX5_free 4 = .ok (.ifCond .ne 8, 3) := by decide +kernel
theorem dX5_free_7 : decode cX5_free 7 = .ok (.bipush (-11), 2) := by decide +kernel
theorem dX5_free_9 : decode cX5_free 9 = .ok (.goto 28, 3) := by decide +kernel
theorem dX5_free_12 : decode cX5_free 12 = .ok (.iload_n 1, 1) := by decide +kernel
theorem dX5_free_13 : decode cX5_free 13 = .ok (.iconst 0, 1) := by decide +kernel
theorem dX5_free_14 : decode cX5_free 14 = .ok (.iconst 5, 1) := by decide +kernel
theorem dX5_free_15 : decode cX5_free 15 = .ok (.invokestatic 38, 3) := by decide +kernel
theorem dX5_free_18 : decode cX5_free 18 = .ok (.ifCond .eq 17, 3) := by decide +kernel
theorem dX5_free_21 : decode cX5_free 21 = .ok (.aload_n 0, 1) := by decide +kernel
theorem dX5_free_22 : decode cX5_free 22 = .ok (.getfield 13, 3) := by decide +kernel
theorem dX5_free_25 : decode cX5_free 25 = .ok (.bipush 45, 2) := by decide +kernel
theorem dX5_free_27 : decode cX5_free 27 = .ok (.iaload, 1) := by decide +kernel
theorem dX5_free_28 : decode cX5_free 28 = .ok (.iload_n 1, 1) := by decide +kernel
theorem dX5_free_29 : decode cX5_free 29 = .ok (.invokestatic 121, 3) := by decide +kernel
theorem dX5_free_32 : decode cX5_free 32 = .ok (.goto 5, 3) := by decide +kernel
theorem dX5_free_35 : decode cX5_free 35 = .ok (.bipush (-12), 2) := by decide +kernel
theorem dX5_free_37 : decode cX5_free 37 = .ok (.ireturn, 1) := by decide +kernel
theorem dX5_put_0 : decode cX5_put 0 = .ok (.aload_n 0, 1) := by decide +kernel
theorem dX5_put_1 : decode cX5_put 1 = .ok (.getfield 46, 3) := by decide +kernel
theorem dX5_put_4 : decode cX5_put 4 = .ok (.ifCond .ne 35, 3) := by decide +kernel
theorem dX5_put_7 : decode cX5_put 7 = .ok (.aload_n 0, 1) := by decide +kernel
theorem dX5_put_8 : decode cX5_put 8 = .ok (.iconst (-1), 1) := by decide +kernel
theorem dX5_put_9 : decode cX5_put 9 = .ok (.putfield 46, 3) := by decide +kernel
theorem dX5_put_12 : decode cX5_put 12 = .ok (.aload_n 0, 1) := by decide +kernel
theorem dX5_put_13 : decode cX5_put 13 = .ok (.iconst 0, 1) := by decide +kernel
theorem dX5_put_14 : decode cX5_put 14 = .ok (.putfield 42, 3) := by decide +kernel
theorem dX5_put_17 : decode cX5_put 17 = .ok (.iconst 0, 1) := by decide +kernel
theorem dX5_put_18 : decode cX5_put 18 = .ok (.istore_n 3, 1) := by decide +kernel
theorem dX5_put_19 : decode cX5_put 19 = .ok (.iload_n 3, 1) := by decide +kernel
theorem dX5_put_20 : decode cX5_put 20 = .ok (.iconst 4, 1) := by decide +kernel
theorem dX5_put_21 : decode cX5_put 21 = .ok (.if_icmp .ge 16, 3) := by decide +kernel
theorem dX5_put_24 : decode cX5_put 24 = .ok (.aload_n 0, 1) := by decide +kernel
theorem dX5_put_25 : decode cX5_put 25 = .ok (.getfield 16, 3) := by decide +kernel
theorem dX5_put_28 : decode cX5_put 28 = .ok (.iload_n 3, 1) := by decide +kernel
theorem dX5_put_29 : decode cX5_put 29 = .ok (.iconst 0, 1) := by decide +kernel
theorem dX5_put_30 : decode cX5_put 30 = .ok (.iastore, 1) := by decide +kernel
theorem dX5_put_31 : decode cX5_put 31 = .ok (.iinc 3 1, 3) := by decide +kernel
theorem dX5_put_34 : decode cX5_put 34 = .ok (.goto (-15), 3) := by decide +kernel
theorem dX5_put_37 : decode cX5_put 37 = .ok (.iconst 0, 1) := by decide +kernel
theorem dX5_put_38 : decode cX5_put 38 = .ok (.ireturn, 1) := by decide +kernel
theorem dX5_put_39 : decode cX5_put 39 = .ok (.aload_n 0, 1) := by decide +kernel
theorem dX5_put_40 : decode cX5_put 40 = .ok (.aload_n 0, 1) := by decide +kernel
theorem dX5_put_41 : decode cX5_put 41 = .ok (.getfield 46, 3) := by decide +kernel
theorem dX5_put_44 : decode cX5_put 44 = .ok (.ifCond .le 12, 3) := by decide +kernel
theorem dX5_put_47 : decode cX5_put 47 = .ok (.aload_n 0, 1) := by decide +kernel
theorem dX5_put_48 : decode cX5_put 48 = .ok (.getfield 46, 3) := by decide +kernel
theorem dX5_put_51 : decode cX5_put 51 = .ok (.iconst 1, 1) := by decide +kernel
theorem dX5_put_52 : decode cX5_put 52 = .ok (.isub, 1) := by decide +kernel
theorem dX5_put_53 : decode cX5_put 53 = .ok (.goto 7, 3) := by decide +kernel
theorem dX5_put_56 : decode cX5_put 56 = .ok (.aload_n 0, 1) := by decide +kernel
theorem dX5_put_57 : decode cX5_put 57 = .ok (.getfield 46, 3) := by decide +kernel
theorem dX5_put_60 : decode cX5_put 60 = .ok (.putfield 46, 3) := by decide +kernel
theorem dX5_put_63 : decode cX5_put 63 = .ok (.aload_n 0, 1) := by decide +kernel
theorem dX5_put_64 : decode cX5_put 64 = .ok (.getfield 7, 3) := by decide +kernel
theorem dX5_put_67 : decode cX5_put 67 = .ok (.iload_n 1, 1) := by decide +kernel
theorem dX5_put_68 : decode cX5_put 68 = .ok (.iload_n 2, 1) := by decide +kernel
theorem dX5_put_69 : decode cX5_put 69 = .ok (.iastore, 1) := by decide +kernel
theorem dX5_put_70 : decode cX5_put 70 = .ok (.iconst 1, 1) := by decide +kernel
theorem dX5_put_71 : decode cX5_put 71 = .ok (.ireturn, 1) := by decide +kernel
set_option maxRecDepth 20000 in
theorem ggX5_sync_X5_put : GoodIn wsX5_sync wsX5_put := goodIn_r _ [9, 10, 1, 11, 2, 12, 13, 14, 15, 16, 17, 18, 19, 20, 21, 22, 23] (by decide +kernel) (by decide +kernel)
set_option maxRecDepth 20000 in
theorem gX5_sync_X5_put : GoodIn wsX5_sync (wsV RX5 124 RX5 yX5_put wsX5_put) := goodIn_app (goodIn_of _ (by decide +kernel)) ggX5_sync_X5_put
theorem dX5_sync_0 : decode cX5_sync 0 = .ok (.aload_n 0, 1) := by decide +kernel
theorem dX5_sync_1 : decode cX5_sync 1 = .ok (.getfield 42, 3) := by decide +kernel
theorem dX5_sync_4 : decode cX5_sync 4 = .ok (.ifCond .ne 6, 3) := by decide +kernel
theorem dX5_sync_7 : decode cX5_sync 7 = .ok (.bipush (-11), 2) := by decide +kernel
theorem dX5_sync_9 : decode cX5_sync 9 = .ok (.ireturn, 1) := by decide +kernel
theorem dX5_sync_10 : decode cX5_sync 10 = .ok (.iconst 0, 1) := by decide +kernel
theorem dX5_sync_11 : decode cX5_sync 11 = .ok (.istore_n 1, 1) := by decide +kernel
theorem dX5_sync_12 : decode cX5_sync 12 = .ok (.iconst 0, 1) := by decide +kernel
theorem dX5_sync_13 : decode cX5_sync 13 = .ok (.istore_n 2, 1) := by decide +kernel
theorem dX5_sync_14 : decode cX5_sync 14 = .ok (.iload_n 2, 1) := by decide +kernel
theorem dX5_sync_15 : decode cX5_sync 15 = .ok (.bipush 110, 2) := by decide +kernel
theorem dX5_sync_17 : decode cX5_sync 17 = .ok (.if_icmp .ge 34, 3) := by decide +kernel
theorem dX5_sync_20 : decode cX5_sync 20 = .ok (.aload_n 0, 1) := by decide +kernel
theorem dX5_sync_21 : decode cX5_sync 21 = .ok (.getfield 7, 3) := by decide +kernel
theorem dX5_sync_24 : decode cX5_sync 24 = .ok (.iload_n 2, 1) := by decide +kernel
theorem dX5_sync_25 : decode cX5_sync 25 = .ok (.iaload, 1) := by decide +kernel
theorem dX5_sync_26 : decode cX5_sync 26 = .ok (.aload_n 0, 1) := by decide +kernel
theorem dX5_sync_27 : decode cX5_sync 27 = .ok (.getfield 13, 3) := by decide +kernel
theorem dX5_sync_30 : decode cX5_sync 30 = .ok (.iload_n 2, 1) := by decide +kernel
theorem dX5_sync_31 : decode cX5_sync 31 = .ok (.iaload, 1) := by decide +kernel
theorem dX5_sync_32 : decode cX5_sync 32 = .ok (.if_icmp .eq 13, 3) := by decide +kernel
theorem dX5_sync_35 : decode cX5_sync 35 = .ok (.aload_n 0, 1) := by decide +kernel
theorem dX5_sync_36 : decode cX5_sync 36 = .ok (.getfield 32, 3) := by decide +kernel
theorem dX5_sync_39 : decode cX5_sync 39 = .ok (.iload_n 1, 1) := by decide +kernel
theorem dX5_sync_40 : decode cX5_sync 40 = .ok (.iload_n 2, 1) := by decide +kernel
theorem dX5_sync_41 : decode cX5_sync 41 = .ok (.iastore, 1) := by decide +kernel
theorem dX5_sync_42 : decode cX5_sync 42 = .ok (.iinc 1 1, 3) := by decide +kernel
theorem dX5_sync_45 : decode cX5_sync 45 = .ok (.iinc 2 1, 3) := by decide +kernel
theorem dX5_sync_48 : decode cX5_sync 48 = .ok (.goto (-34), 3) := by decide +kernel
theorem dX5_sync_51 : decode cX5_sync 51 = .ok (.iload_n 1, 1) := by decide +kernel
theorem dX5_sync_52 : decode cX5_sync 52 = .ok (.ifCond .ne 5, 3) := by decide +kernel
theorem dX5_sync_55 : decode cX5_sync 55 = .ok (.iconst 0, 1) := by decide +kernel
theorem dX5_sync_56 : decode cX5_sync 56 = .ok (.ireturn, 1) := by decide +kernel
theorem dX5_sync_57 : decode cX5_sync 57 = .ok (.iload_n 1, 1) := by decide +kernel
theorem dX5_sync_58 : decode cX5_sync 58 = .ok (.istore_n 2, 1) := by decide +kernel
theorem dX5_sync_59 : decode cX5_sync 59 = .ok (.iconst 1, 1) := by decide +kernel
theorem dX5_sync_60 : decode cX5_sync 60 = .ok (.istore_n 3, 1) := by decide +kernel
theorem dX5_sync_61 : decode cX5_sync 61 = .ok (.iconst 0, 1) := by decide +kernel
theorem dX5_sync_62 : decode cX5_sync 62 = .ok (.istore 4, 2) := by decide +kernel
theorem dX5_sync_64 : decode cX5_sync 64 = .ok (.iload 4, 2) := by decide +kernel
theorem dX5_sync_66 : decode cX5_sync 66 = .ok (.iload_n 1, 1) := by decide +kernel
theorem dX5_sync_67 : decode cX5_sync 67 = .ok (.if_icmp .ge 84, 3) := by decide +kernel
theorem dX5_sync_70 : decode cX5_sync 70 = .ok (.iload_n 3, 1) := by decide +kernel
theorem dX5_sync_71 : decode cX5_sync 71 = .ok (.ifCond .eq 80, 3) := by decide +kernel
theorem dX5_sync_74 : decode cX5_sync 74 = .ok (.aload_n 0, 1) := by decide +kernel
theorem dX5_sync_75 : decode cX5_sync 75 = .ok (.getfield 32, 3) := by decide +kernel
theorem dX5_sync_78 : decode cX5_sync 78 = .ok (.iload 4, 2) := by decide +kernel
theorem dX5_sync_80 : decode cX5_sync 80 = .ok (.iaload, 1) := by decide +kernel
theorem dX5_sync_81 : decode cX5_sync 81 = .ok (.istore 5, 2) := by decide +kernel
theorem dX5_sync_83 : decode cX5_sync 83 = .ok (.iload_n 2, 1) := by decide +kernel
theorem dX5_sync_84 : decode cX5_sync 84 = .ok (.bipush 31, 2) := by decide +kernel
theorem dX5_sync_86 : decode cX5_sync 86 = .ok (.imul, 1) := by decide +kernel
theorem dX5_sync_87 : decode cX5_sync 87 = .ok (.iload 5, 2) := by decide +kernel
theorem dX5_sync_89 : decode cX5_sync 89 = .ok (.iadd, 1) := by decide +kernel
theorem dX5_sync_90 : decode cX5_sync 90 = .ok (.bipush 31, 2) := by decide +kernel
theorem dX5_sync_92 : decode cX5_sync 92 = .ok (.imul, 1) := by decide +kernel
theorem dX5_sync_93 : decode cX5_sync 93 = .ok (.aload_n 0, 1) := by decide +kernel
theorem dX5_sync_94 : decode cX5_sync 94 = .ok (.getfield 13, 3) := by decide +kernel
theorem dX5_sync_97 : decode cX5_sync 97 = .ok (.iload 5, 2) := by decide +kernel
theorem dX5_sync_99 : decode cX5_sync 99 = .ok (.iaload, 1) := by decide +kernel
theorem dX5_sync_100 : decode cX5_sync 100 = .ok (.iadd, 1) := by decide +kernel
theorem dX5_sync_101 : decode cX5_sync 101 = .ok (.istore_n 2, 1) := by decide +kernel
theorem dX5_sync_102 : decode cX5_sync 102 = .ok (.aload_n 0, 1) := by decide +kernel
theorem dX5_sync_103 : decode cX5_sync 103 = .ok (.bipush 112, 2) := by decide +kernel
theorem dX5_sync_105 : decode cX5_sync 105 = .ok (.iconst 2, 1) := by decide +kernel
theorem dX5_sync_106 : decode cX5_sync 106 = .ok (.iload 4, 2) := by decide +kernel
theorem dX5_sync_108 : decode cX5_sync 108 = .ok (.imul, 1) := by decide +kernel
theorem dX5_sync_109 : decode cX5_sync 109 = .ok (.iadd, 1) := by decide +kernel
theorem dX5_sync_110 : decode cX5_sync 110 = .ok (.iload 5, 2) := by decide +kernel
theorem dX5_sync_112 : decode cX5_sync 112 = .ok (.invokevirtual 124, 3) := by decide +kernel
theorem dX5_sync_115 : decode cX5_sync 115 = .ok (.ifCond .eq 28, 3) := by decide +kernel
theorem dX5_sync_118 : decode cX5_sync 118 = .ok (.aload_n 0, 1) := by decide +kernel
theorem dX5_sync_119 : decode cX5_sync 119 = .ok (.bipush 113, 2) := by decide +kernel
theorem dX5_sync_121 : decode cX5_sync 121 = .ok (.iconst 2, 1) := by decide +kernel
theorem dX5_sync_122 : decode cX5_sync 122 = .ok (.iload 4, 2) := by decide +kernel
theorem dX5_sync_124 : decode cX5_sync 124 = .ok (.imul, 1) := by decide +kernel
theorem dX5_sync_125 : decode cX5_sync 125 = .ok (.iadd, 1) := by decide +kernel
theorem dX5_sync_126 : decode cX5_sync 126 = .ok (.aload_n 0, 1) := by decide +kernel
theorem dX5_sync_127 : decode cX5_sync 127 = .ok (.getfield 13, 3) := by decide +kernel
theorem dX5_sync_130 : decode cX5_sync 130 = .ok (.iload 5, 2) := by decide +kernel
theorem dX5_sync_132 : decode cX5_sync 132 = .ok (.iaload, 1) := by decide +kernel
theorem dX5_sync_133 : decode cX5_sync 133 = .ok (.invokevirtual 124, 3) := by decide +kernel
theorem dX5_sync_136 : decode cX5_sync 136 = .ok (.ifCond .eq 7, 3) := by decide +kernel
theorem dX5_sync_139 : decode cX5_sync 139 = .ok (.iconst 1, 1) := by decide +kernel
theorem dX5_sync_140 : decode cX5_sync 140 = .ok (.goto 4, 3) := by decide +kernel
theorem dX5_sync_143 : decode cX5_sync 143 = .ok (.iconst 0, 1) := by decide +kernel
theorem dX5_sync_144 : decode cX5_sync 144 = .ok (.istore_n 3, 1) := by decide +kernel
theorem dX5_sync_145 : decode cX5_sync 145 = .ok (.iinc 4 1, 3) := by decide +kernel
theorem dX5_sync_148 : decode cX5_sync 148 = .ok (.goto (-84), 3) := by decide +kernel
theorem dX5_sync_151 : decode cX5_sync 151 = .ok (.iload_n 3, 1) := by decide +kernel
theorem dX5_sync_152 : decode cX5_sync 152 = .ok (.ifCond .eq 27, 3) := by decide +kernel
theorem dX5_sync_155 : decode cX5_sync 155 = .ok (.aload_n 0, 1) := by decide +kernel
theorem dX5_sync_156 : decode cX5_sync 156 = .ok (.bipush 111, 2) := by decide +kernel
theorem dX5_sync_158 : decode cX5_sync 158 = .ok (.iload_n 2, 1) := by decide +kernel
theorem dX5_sync_159 : decode cX5_sync 159 = .ok (.invokevirtual 124, 3) := by decide +kernel
theorem dX5_sync_162 : decode cX5_sync 162 = .ok (.ifCond .eq 17, 3) := by decide +kernel
theorem dX5_sync_165 : decode cX5_sync 165 = .ok (.aload_n 0, 1) := by decide +kernel
theorem dX5_sync_166 : decode cX5_sync 166 = .ok (.bipush 110, 2) := by decide +kernel
theorem dX5_sync_168 : decode cX5_sync 168 = .ok (.iload_n 1, 1) := by decide +kernel
theorem dX5_sync_169 : decode cX5_sync 169 = .ok (.invokevirtual 124, 3) := by decide +kernel
theorem dX5_sync_172 : decode cX5_sync 172 = .ok (.ifCond .eq 7, 3) := by decide +kernel
theorem dX5_sync_175 : decode cX5_sync 175 = .ok (.iconst 1, 1) := by decide +kernel
theorem dX5_sync_176 : decode cX5_sync 176 = .ok (.goto 4, 3) := by decide +kernel
theorem dX5_sync_179 : decode cX5_sync 179 = .ok (.iconst 0, 1) := by decide +kernel
theorem dX5_sync_180 : decode cX5_sync 180 = .ok (.istore_n 3, 1) := by decide +kernel
theorem dX5_sync_181 : decode cX5_sync 181 = .ok (.iconst 0, 1) := by decide +kernel
theorem dX5_sync_182 : decode cX5_sync 182 = .ok (.istore 4, 2) := by decide +kernel
theorem dX5_sync_184 : decode cX5_sync 184 = .ok (.iload 4, 2) := by decide +kernel
theorem dX5_sync_186 : decode cX5_sync 186 = .ok (.iload_n 1, 1) := by decide +kernel
theorem dX5_sync_187 : decode cX5_sync 187 = .ok (.if_icmp .ge 37, 3) := by decide +kernel
theorem dX5_sync_190 : decode cX5_sync 190 = .ok (.iload_n 3, 1) := by decide +kernel
theorem dX5_sync_191 : decode cX5_sync 191 = .ok (.ifCond .eq 33, 3) := by decide +kernel
theorem dX5_sync_194 : decode cX5_sync 194 = .ok (.aload_n 0, 1) := by decide +kernel
theorem dX5_sync_195 : decode cX5_sync 195 = .ok (.aload_n 0, 1) := by decide +kernel
theorem dX5_sync_196 : decode cX5_sync 196 = .ok (.getfield 32, 3) := by decide +kernel
theorem dX5_sync_199 : decode cX5_sync 199 = .ok (.iload 4, 2) := by decide +kernel
theorem dX5_sync_201 : decode cX5_sync 201 = .ok (.iaload, 1) := by decide +kernel
theorem dX5_sync_202 : decode cX5_sync 202 = .ok (.aload_n 0, 1) := by decide +kernel
theorem dX5_sync_203 : decode cX5_sync 203 = .ok (.getfield 13, 3) := by decide +kernel
theorem dX5_sync_206 : decode cX5_sync 206 = .ok (.aload_n 0, 1) := by decide +kernel
theorem dX5_sync_207 : decode cX5_sync 207 = .ok (.getfield 32, 3) := by decide +kernel
theorem dX5_sync_210 : decode cX5_sync 210 = .ok (.iload 4, 2) := by decide +kernel
theorem dX5_sync_212 : decode cX5_sync 212 = .ok (.iaload, 1) := by decide +kernel
theorem dX5_sync_213 : decode cX5_sync 213 = .ok (.iaload, 1) := by decide +kernel
theorem dX5_sync_214 : decode cX5_sync 214 = .ok (.invokevirtual 124, 3) := by decide +kernel
theorem dX5_sync_217 : decode cX5_sync 217 = .ok (.istore_n 3, 1) := by decide +kernel
theorem dX5_sync_218 : decode cX5_sync 218 = .ok (.iinc 4 1, 3) := by decide +kernel
theorem dX5_sync_221 : decode cX5_sync 221 = .ok (.goto (-37), 3) := by decide +kernel
theorem dX5_sync_224 : decode cX5_sync 224 = .ok (.iload_n 3, 1) := by decide +kernel
theorem dX5_sync_225 : decode cX5_sync 225 = .ok (.ifCond .eq 17, 3) := by decide +kernel
theorem dX5_sync_228 : decode cX5_sync 228 = .ok (.aload_n 0, 1) := by decide +kernel
theorem dX5_sync_229 : decode cX5_sync 229 = .ok (.bipush 110, 2) := by decide +kernel
theorem dX5_sync_231 : decode cX5_sync 231 = .ok (.iconst 0, 1) := by decide +kernel
theorem dX5_sync_232 : decode cX5_sync 232 = .ok (.invokevirtual 124, 3) := by decide +kernel
theorem dX5_sync_235 : decode cX5_sync 235 = .ok (.ifCond .eq 7, 3) := by decide +kernel
theorem dX5_sync_238 : decode cX5_sync 238 = .ok (.iconst 1, 1) := by decide +kernel
theorem dX5_sync_239 : decode cX5_sync 239 = .ok (.goto 4, 3) := by decide +kernel
theorem dX5_sync_242 : decode cX5_sync 242 = .ok (.iconst 0, 1) := by decide +kernel
theorem dX5_sync_243 : decode cX5_sync 243 = .ok (.istore_n 3, 1) := by decide +kernel
theorem dX5_sync_244 : decode cX5_sync 244 = .ok (.iload_n 3, 1) := by decide +kernel
theorem dX5_sync_245 : decode cX5_sync 245 = .ok (.ifCond .eq 7, 3) := by decide +kernel
theorem dX5_sync_248 : decode cX5_sync 248 = .ok (.iload_n 1, 1) := by decide +kernel
theorem dX5_sync_249 : decode cX5_sync 249 = .ok (.goto 5, 3) := by decide +kernel
theorem dX5_sync_252 : decode cX5_sync 252 = .ok (.bipush (-11), 2) := by decide +kernel
theorem dX5_sync_254 : decode cX5_sync 254 = .ok (.ireturn, 1) := by decide +kernel
theorem dX5_crashAfter_0 : decode cX5_crashAfter 0 = .ok (.aload_n 0, 1) := by decide +kernel
theorem dX5_crashAfter_1 : decode cX5_crashAfter 1 = .ok (.getfield 42, 3) := by decide +kernel
theorem dX5_crashAfter_4 : decode cX5_crashAfter 4 = .ok (.ifCond .eq 8, 3) := by decide +kernel
theorem dX5_crashAfter_7 : decode cX5_crashAfter 7 = .ok (.iload_n 1, 1) := by decide +kernel
theorem dX5_crashAfter_8 : decode cX5_crashAfter 8 = .ok (.iconst (-1), 1) := by decide +kernel
theorem dX5_crashAfter_9 : decode cX5_crashAfter 9 = .ok (.if_icmp .ge 5, 3) := by decide +kernel
theorem dX5_crashAfter_12 : decode cX5_crashAfter 12 = .ok (.iconst 0, 1) := by decide +kernel
theorem dX5_crashAfter_13 : decode cX5_crashAfter 13 = .ok (.ireturn, 1) := by decide +kernel
theorem dX5_crashAfter_14 : decode cX5_crashAfter 14 = .ok (.aload_n 0, 1) := by decide +kernel
theorem dX5_crashAfter_15 : decode cX5_crashAfter 15 = .ok (.iload_n 1, 1) := by decide +kernel
theorem dX5_crashAfter_16 : decode cX5_crashAfter 16 = .ok (.putfield 46, 3) := by decide +kernel
theorem dX5_crashAfter_19 : decode cX5_crashAfter 19 = .ok (.iconst 1, 1) := by decide +kernel
theorem dX5_crashAfter_20 : decode cX5_crashAfter 20 = .ok (.ireturn, 1) := by decide +kernel
set_option maxRecDepth 20000 in
theorem ggX5_holds_X5_within : GoodIn wsX5_holds wsX5_within := goodIn_r _ [5] (by decide +kernel) (by decide +kernel)
set_option maxRecDepth 20000 in
theorem gX5_holds_X5_within : GoodIn wsX5_holds (va_wsS RX5 38 yX5_within wsX5_within) := goodIn_app (goodIn_of _ (by decide +kernel)) ggX5_holds_X5_within
theorem dX5_holds_0 : decode cX5_holds 0 = .ok (.aload_n 0, 1) := by decide +kernel
theorem dX5_holds_1 : decode cX5_holds 1 = .ok (.getfield 7, 3) := by decide +kernel
theorem dX5_holds_4 : decode cX5_holds 4 = .ok (.bipush 110, 2) := by decide +kernel
theorem dX5_holds_6 : decode cX5_holds 6 = .ok (.iaload, 1) := by decide +kernel
theorem dX5_holds_7 : decode cX5_holds 7 = .ok (.istore_n 1, 1) := by decide +kernel
theorem dX5_holds_8 : decode cX5_holds 8 = .ok (.iload_n 1, 1) := by decide +kernel
theorem dX5_holds_9 : decode cX5_holds 9 = .ok (.iconst 1, 1) := by decide +kernel
theorem dX5_holds_10 : decode cX5_holds 10 = .ok (.bipush 110, 2) := by decide +kernel
theorem dX5_holds_12 : decode cX5_holds 12 = .ok (.invokestatic 38, 3) := by decide +kernel
theorem dX5_holds_15 : decode cX5_holds 15 = .ok (.ifCond .ne 5, 3) := by decide +kernel
theorem dX5_holds_18 : decode cX5_holds 18 = .ok (.iconst 0, 1) := by decide +kernel
theorem dX5_holds_19 : decode cX5_holds 19 = .ok (.ireturn, 1) := by decide +kernel
theorem dX5_holds_20 : decode cX5_holds 20 = .ok (.iload_n 1, 1) := by decide +kernel
theorem dX5_holds_21 : decode cX5_holds 21 = .ok (.istore_n 2, 1) := by decide +kernel
theorem dX5_holds_22 : decode cX5_holds 22 = .ok (.iconst (-1), 1) := by decide +kernel
theorem dX5_holds_23 : decode cX5_holds 23 = .ok (.istore_n 3, 1) := by decide +kernel
theorem dX5_holds_24 : decode cX5_holds 24 = .ok (.iconst 0, 1) := by decide +kernel
theorem dX5_holds_25 : decode cX5_holds 25 = .ok (.istore 4, 2) := by decide +kernel
theorem dX5_holds_27 : decode cX5_holds 27 = .ok (.iload 4, 2) := by decide +kernel
theorem dX5_holds_29 : decode cX5_holds 29 = .ok (.iload_n 1, 1) := by decide +kernel
theorem dX5_holds_30 : decode cX5_holds 30 = .ok (.if_icmp .ge 65, 3) := by decide +kernel
theorem dX5_holds_33 : decode cX5_holds 33 = .ok (.aload_n 0, 1) := by decide +kernel
theorem dX5_holds_34 : decode cX5_holds 34 = .ok (.getfield 7, 3) := by decide +kernel
theorem dX5_holds_37 : decode cX5_holds 37 = .ok (.bipush 112, 2) := by decide +kernel
theorem dX5_holds_39 : decode cX5_holds 39 = .ok (.iconst 2, 1) := by decide +kernel
theorem dX5_holds_40 : decode cX5_holds 40 = .ok (.iload 4, 2) := by decide +kernel
theorem dX5_holds_42 : decode cX5_holds 42 = .ok (.imul, 1) := by decide +kernel
theorem dX5_holds_43 : decode cX5_holds 43 = .ok (.iadd, 1) := by decide +kernel
theorem dX5_holds_44 : decode cX5_holds 44 = .ok (.iaload, 1) := by decide +kernel
theorem dX5_holds_45 : decode cX5_holds 45 = .ok (.istore 5, 2) := by decide +kernel
theorem dX5_holds_47 : decode cX5_holds 47 = .ok (.iload 5, 2) := by decide +kernel
theorem dX5_holds_49 : decode cX5_holds 49 = .ok (.iload_n 3, 1) := by decide +kernel
theorem dX5_holds_50 : decode cX5_holds 50 = .ok (.iconst 1, 1) := by decide +kernel
theorem dX5_holds_51 : decode cX5_holds 51 = .ok (.iadd, 1) := by decide +kernel
theorem dX5_holds_52 : decode cX5_holds 52 = .ok (.bipush 109, 2) := by decide +kernel
theorem dX5_holds_54 : decode cX5_holds 54 = .ok (.invokestatic 38, 3) := by decide +kernel
theorem dX5_holds_57 : decode cX5_holds 57 = .ok (.ifCond .ne 5, 3) := by decide +kernel
theorem dX5_holds_60 : decode cX5_holds 60 = .ok (.iconst 0, 1) := by decide +kernel
theorem dX5_holds_61 : decode cX5_holds 61 = .ok (.ireturn, 1) := by decide +kernel
theorem dX5_holds_62 : decode cX5_holds 62 = .ok (.iload 5, 2) := by decide +kernel
theorem dX5_holds_64 : decode cX5_holds 64 = .ok (.istore_n 3, 1) := by decide +kernel
theorem dX5_holds_65 : decode cX5_holds 65 = .ok (.iload_n 2, 1) := by decide +kernel
theorem dX5_holds_66 : decode cX5_holds 66 = .ok (.bipush 31, 2) := by decide +kernel
theorem dX5_holds_68 : decode cX5_holds 68 = .ok (.imul, 1) := by decide +kernel
theorem dX5_holds_69 : decode cX5_holds 69 = .ok (.iload 5, 2) := by decide +kernel
theorem dX5_holds_71 : decode cX5_holds 71 = .ok (.iadd, 1) := by decide +kernel
theorem dX5_holds_72 : decode cX5_holds 72 = .ok (.bipush 31, 2) := by decide +kernel
theorem dX5_holds_74 : decode cX5_holds 74 = .ok (.imul, 1) := by decide +kernel
theorem dX5_holds_75 : decode cX5_holds 75 = .ok (.aload_n 0, 1) := by decide +kernel
theorem dX5_holds_76 : decode cX5_holds 76 = .ok (.getfield 7, 3) := by decide +kernel
theorem dX5_holds_79 : decode cX5_holds 79 = .ok (.bipush 113, 2) := by decide +kernel
theorem dX5_holds_81 : decode cX5_holds 81 = .ok (.iconst 2, 1) := by decide +kernel
theorem dX5_holds_82 : decode cX5_holds 82 = .ok (.iload 4, 2) := by decide +kernel
theorem dX5_holds_84 : decode cX5_holds 84 = .ok (.imul, 1) := by decide +kernel
theorem dX5_holds_85 : decode cX5_holds 85 = .ok (.iadd, 1) := by decide +kernel
theorem dX5_holds_86 : decode cX5_holds 86 = .ok (.iaload, 1) := by decide +kernel
theorem dX5_holds_87 : decode cX5_holds 87 = .ok (.iadd, 1) := by decide +kernel
theorem dX5_holds_88 : decode cX5_holds 88 = .ok (.istore_n 2, 1) := by decide +kernel
theorem dX5_holds_89 : decode cX5_holds 89 = .ok (.iinc 4 1, 3) := by decide +kernel
theorem dX5_holds_92 : decode cX5_holds 92 = .ok (.goto (-65), 3) := by decide +kernel
theorem dX5_holds_95 : decode cX5_holds 95 = .ok (.iload_n 2, 1) := by decide +kernel
theorem dX5_holds_96 : decode cX5_holds 96 = .ok (.aload_n 0, 1) := by decide +kernel
theorem dX5_holds_97 : decode cX5_holds 97 = .ok (.getfield 7, 3) := by decide +kernel
theorem dX5_holds_100 : decode cX5_holds 100 = .ok (.bipush 111, 2) := by decide +kernel
theorem dX5_holds_102 : decode cX5_holds 102 = .ok (.iaload, 1) := by decide +kernel
theorem dX5_holds_103 : decode cX5_holds 103 = .ok (.if_icmp .ne 7, 3) := by decide +kernel
theorem dX5_holds_106 : decode cX5_holds 106 = .ok (.iconst 1, 1) := by decide +kernel
theorem dX5_holds_107 : decode cX5_holds 107 = .ok (.goto 4, 3) := by decide +kernel
theorem dX5_holds_110 : decode cX5_holds 110 = .ok (.iconst 0, 1) := by decide +kernel
theorem dX5_holds_111 : decode cX5_holds 111 = .ok (.ireturn, 1) := by decide +kernel
set_option maxRecDepth 20000 in
theorem ggX5_fetch_X5_holds : GoodIn wsX5_fetch wsX5_holds := goodIn_r _ [7, 2, 8, 9, 6, 10, 11, 12, 13, 14, 15, 16, 17, 18, 19, 20, 21, 22] (by decide +kernel) (by decide +kernel)
set_option maxRecDepth 20000 in
theorem gX5_fetch_X5_holds : GoodIn wsX5_fetch (wsV RX5 128 RX5 yX5_holds wsX5_holds) := goodIn_app (goodIn_of _ (by decide +kernel)) ggX5_fetch_X5_holds
theorem dX5_fetch_0 : decode cX5_fetch 0 = .ok (.iconst 0, 1) := by decide +kernel
theorem dX5_fetch_1 : decode cX5_fetch 1 = .ok (.istore_n 1, 1) := by decide +kernel
theorem dX5_fetch_2 : decode cX5_fetch 2 = .ok (.iload_n 1, 1) := by decide +kernel
theorem dX5_fetch_3 : decode cX5_fetch 3 = .ok (.bipush 110, 2) := by decide +kernel
theorem dX5_fetch_5 : decode cX5_fetch 5 = .ok (.if_icmp .ge 21, 3) := by decide +kernel
theorem dX5_fetch_8 : decode cX5_fetch 8 = .ok (.aload_n 0, 1) := by decide +kernel
theorem dX5_fetch_9 : decode cX5_fetch 9 = .ok (.getfield 19, 3) := by decide +kernel
theorem dX5_fetch_12 : decode cX5_fetch 12 = .ok (.iload_n 1, 1) := by decide +kernel
theorem dX5_fetch_13 : decode cX5_fetch 13 = .ok (.aload_n 0, 1) := by decide +kernel
theorem dX5_fetch_14 : decode cX5_fetch 14 = .ok (.getfield 7, 3) := by decide +kernel
theorem dX5_fetch_17 : decode cX5_fetch 17 = .ok (.iload_n 1, 1) := by decide +kernel
theorem dX5_fetch_18 : decode cX5_fetch 18 = .ok (.iaload, 1) := by decide +kernel
theorem dX5_fetch_19 : decode cX5_fetch 19 = .ok (.iastore, 1) := by decide +kernel
theorem dX5_fetch_20 : decode cX5_fetch 20 = .ok (.iinc 1 1, 3) := by decide +kernel
theorem dX5_fetch_23 : decode cX5_fetch 23 = .ok (.goto (-21), 3) := by decide +kernel
theorem dX5_fetch_26 : decode cX5_fetch 26 = .ok (.aload_n 0, 1) := by decide +kernel
theorem dX5_fetch_27 : decode cX5_fetch 27 = .ok (.invokevirtual 128, 3) := by decide +kernel
theorem dX5_fetch_30 : decode cX5_fetch 30 = .ok (.ifCond .eq 49, 3) := by decide +kernel
theorem dX5_fetch_33 : decode cX5_fetch 33 = .ok (.iconst 0, 1) := by decide +kernel
theorem dX5_fetch_34 : decode cX5_fetch 34 = .ok (.istore_n 1, 1) := by decide +kernel
theorem dX5_fetch_35 : decode cX5_fetch 35 = .ok (.iload_n 1, 1) := by decide +kernel
theorem dX5_fetch_36 : decode cX5_fetch 36 = .ok (.aload_n 0, 1) := by decide +kernel
theorem dX5_fetch_37 : decode cX5_fetch 37 = .ok (.getfield 7, 3) := by decide +kernel
theorem dX5_fetch_40 : decode cX5_fetch 40 = .ok (.bipush 110, 2) := by decide +kernel
theorem dX5_fetch_42 : decode cX5_fetch 42 = .ok (.iaload, 1) := by decide +kernel
theorem dX5_fetch_43 : decode cX5_fetch 43 = .ok (.if_icmp .ge 36, 3) := by decide +kernel
theorem dX5_fetch_46 : decode cX5_fetch 46 = .ok (.aload_n 0, 1) := by decide +kernel
theorem dX5_fetch_47 : decode cX5_fetch 47 = .ok (.getfield 19, 3) := by decide +kernel
theorem dX5_fetch_50 : decode cX5_fetch 50 = .ok (.aload_n 0, 1) := by decide +kernel
theorem dX5_fetch_51 : decode cX5_fetch 51 = .ok (.getfield 7, 3) := by decide +kernel
theorem dX5_fetch_54 : decode cX5_fetch 54 = .ok (.bipush 112, 2) := by decide +kernel
theorem dX5_fetch_56 : decode cX5_fetch 56 = .ok (.iconst 2, 1) := by decide +kernel
theorem dX5_fetch_57 : decode cX5_fetch 57 = .ok (.iload_n 1, 1) := by decide +kernel
theorem dX5_fetch_58 : decode cX5_fetch 58 = .ok (.imul, 1) := by decide +kernel
theorem dX5_fetch_59 : decode cX5_fetch 59 = .ok (.iadd, 1) := by decide +kernel
theorem dX5_fetch_60 : decode cX5_fetch 60 = .ok (.iaload, 1) := by decide +kernel
theorem dX5_fetch_61 : decode cX5_fetch 61 = .ok (.aload_n 0, 1) := by decide +kernel
theorem dX5_fetch_62 : decode cX5_fetch 62 = .ok (.getfield 7, 3) := by decide +kernel
theorem dX5_fetch_65 : decode cX5_fetch 65 = .ok (.bipush 113, 2) := by decide +kernel
theorem dX5_fetch_67 : decode cX5_fetch 67 = .ok (.iconst 2, 1) := by decide +kernel
theorem dX5_fetch_68 : decode cX5_fetch 68 = .ok (.iload_n 1, 1) := by decide +kernel
theorem dX5_fetch_69 : decode cX5_fetch 69 = .ok (.imul, 1) := by decide +kernel
theorem dX5_fetch_70 : decode cX5_fetch 70 = .ok (.iadd, 1) := by decide +kernel
theorem dX5_fetch_71 : decode cX5_fetch 71 = .ok (.iaload, 1) := by decide +kernel
theorem dX5_fetch_72 : decode cX5_fetch 72 = .ok (.iastore, 1) := by decide +kernel
theorem dX5_fetch_73 : decode cX5_fetch 73 = .ok (.iinc 1 1, 3) := by decide +kernel
theorem dX5_fetch_76 : decode cX5_fetch 76 = .ok (.goto (-41), 3) := by decide +kernel
theorem dX5_fetch_79 : decode cX5_fetch 79 = .ok (.return_, 1) := by decide +kernel
set_option maxRecDepth 20000 in
theorem ggX5_slotsRight_X5_within : GoodIn wsX5_slotsRight wsX5_within := goodIn_r _ [5] (by decide +kernel) (by decide +kernel)
set_option maxRecDepth 20000 in
theorem gX5_slotsRight_X5_within : GoodIn wsX5_slotsRight (va_wsS RX5 38 yX5_within wsX5_within) := goodIn_app (goodIn_of _ (by decide +kernel)) ggX5_slotsRight_X5_within
theorem dX5_slotsRight_0 : decode cX5_slotsRight 0 = .ok (.iconst 0, 1) := by decide +kernel
theorem dX5_slotsRight_1 : decode cX5_slotsRight 1 = .ok (.istore_n 1, 1) := by decide +kernel
theorem dX5_slotsRight_2 : decode cX5_slotsRight 2 = .ok (.iload_n 1, 1) := by decide +kernel
theorem dX5_slotsRight_3 : decode cX5_slotsRight 3 = .ok (.bipush 6, 2) := by decide +kernel
theorem dX5_slotsRight_5 : decode cX5_slotsRight 5 = .ok (.if_icmp .ge 100, 3) := by decide +kernel
theorem dX5_slotsRight_8 : decode cX5_slotsRight 8 = .ok (.bipush 7, 2) := by decide +kernel
theorem dX5_slotsRight_10 : decode cX5_slotsRight 10 = .ok (.iload_n 1, 1) := by decide +kernel
theorem dX5_slotsRight_11 : decode cX5_slotsRight 11 = .ok (.imul, 1) := by decide +kernel
theorem dX5_slotsRight_12 : decode cX5_slotsRight 12 = .ok (.istore_n 2, 1) := by decide +kernel
theorem dX5_slotsRight_13 : decode cX5_slotsRight 13 = .ok (.aload_n 0, 1) := by decide +kernel
theorem dX5_slotsRight_14 : decode cX5_slotsRight 14 = .ok (.getfield 19, 3) := by decide +kernel
theorem dX5_slotsRight_17 : decode cX5_slotsRight 17 = .ok (.iload_n 2, 1) := by decide +kernel
theorem dX5_slotsRight_18 : decode cX5_slotsRight 18 = .ok (.iaload, 1) := by decide +kernel
theorem dX5_slotsRight_19 : decode cX5_slotsRight 19 = .ok (.iconst 0, 1) := by decide +kernel
theorem dX5_slotsRight_20 : decode cX5_slotsRight 20 = .ok (.bipush 99, 2) := by decide +kernel
theorem dX5_slotsRight_22 : decode cX5_slotsRight 22 = .ok (.invokestatic 38, 3) := by decide +kernel
theorem dX5_slotsRight_25 : decode cX5_slotsRight 25 = .ok (.ifCond .eq 36, 3) := by decide +kernel
theorem dX5_slotsRight_28 : decode cX5_slotsRight 28 = .ok (.aload_n 0, 1) := by decide +kernel
theorem dX5_slotsRight_29 : decode cX5_slotsRight 29 = .ok (.getfield 19, 3) := by decide +kernel
theorem dX5_slotsRight_32 : decode cX5_slotsRight 32 = .ok (.iload_n 2, 1) := by decide +kernel
theorem dX5_slotsRight_33 : decode cX5_slotsRight 33 = .ok (.iconst 1, 1) := by decide +kernel
theorem dX5_slotsRight_34 : decode cX5_slotsRight 34 = .ok (.iadd, 1) := by decide +kernel
theorem dX5_slotsRight_35 : decode cX5_slotsRight 35 = .ok (.iaload, 1) := by decide +kernel
theorem dX5_slotsRight_36 : decode cX5_slotsRight 36 = .ok (.iconst 0, 1) := by decide +kernel
theorem dX5_slotsRight_37 : decode cX5_slotsRight 37 = .ok (.iconst 2, 1) := by decide +kernel
theorem dX5_slotsRight_38 : decode cX5_slotsRight 38 = .ok (.invokestatic 38, 3) := by decide +kernel
theorem dX5_slotsRight_41 : decode cX5_slotsRight 41 = .ok (.ifCond .eq 20, 3) := by decide +kernel
theorem dX5_slotsRight_44 : decode cX5_slotsRight 44 = .ok (.aload_n 0, 1) := by decide +kernel
theorem dX5_slotsRight_45 : decode cX5_slotsRight 45 = .ok (.getfield 19, 3) := by decide +kernel
theorem dX5_slotsRight_48 : decode cX5_slotsRight 48 = .ok (.iload_n 2, 1) := by decide +kernel
theorem dX5_slotsRight_49 : decode cX5_slotsRight 49 = .ok (.iconst 2, 1) := by decide +kernel
theorem dX5_slotsRight_50 : decode cX5_slotsRight 50 = .ok (.iadd, 1) := by decide +kernel
theorem dX5_slotsRight_51 : decode cX5_slotsRight 51 = .ok (.iaload, 1) := by decide +kernel
theorem dX5_slotsRight_52 : decode cX5_slotsRight 52 = .ok (.iconst 0, 1) := by decide +kernel
theorem dX5_slotsRight_53 : decode cX5_slotsRight 53 = .ok (.bipush 64, 2) := by decide +kernel
theorem dX5_slotsRight_55 : decode cX5_slotsRight 55 = .ok (.invokestatic 38, 3) := by decide +kernel
theorem dX5_slotsRight_58 : decode cX5_slotsRight 58 = .ok (.ifCond .ne 5, 3) := by decide +kernel
theorem dX5_slotsRight_61 : decode cX5_slotsRight 61 = .ok (.iconst 0, 1) := by decide +kernel
theorem dX5_slotsRight_62 : decode cX5_slotsRight 62 = .ok (.ireturn, 1) := by decide +kernel
theorem dX5_slotsRight_63 : decode cX5_slotsRight 63 = .ok (.iconst 1, 1) := by decide +kernel
theorem dX5_slotsRight_64 : decode cX5_slotsRight 64 = .ok (.istore_n 3, 1) := by decide +kernel
theorem dX5_slotsRight_65 : decode cX5_slotsRight 65 = .ok (.iload_n 3, 1) := by decide +kernel
theorem dX5_slotsRight_66 : decode cX5_slotsRight 66 = .ok (.bipush 7, 2) := by decide +kernel
theorem dX5_slotsRight_68 : decode cX5_slotsRight 68 = .ok (.if_icmp .ge 31, 3) := by decide +kernel
theorem dX5_slotsRight_71 : decode cX5_slotsRight 71 = .ok (.aload_n 0, 1) := by decide +kernel
theorem dX5_slotsRight_72 : decode cX5_slotsRight 72 = .ok (.getfield 19, 3) := by decide +kernel
theorem dX5_slotsRight_75 : decode cX5_slotsRight 75 = .ok (.iload_n 2, 1) := by decide +kernel
theorem dX5_slotsRight_76 : decode cX5_slotsRight 76 = .ok (.iaload, 1) := by decide +kernel
theorem dX5_slotsRight_77 : decode cX5_slotsRight 77 = .ok (.ifCond .ne 16, 3) := by decide +kernel
theorem dX5_slotsRight_80 : decode cX5_slotsRight 80 = .ok (.aload_n 0, 1) := by decide +kernel
theorem dX5_slotsRight_81 : decode cX5_slotsRight 81 = .ok (.getfield 19, 3) := by decide +kernel
theorem dX5_slotsRight_84 : decode cX5_slotsRight 84 = .ok (.iload_n 2, 1) := by decide +kernel
theorem dX5_slotsRight_85 : decode cX5_slotsRight 85 = .ok (.iload_n 3, 1) := by decide +kernel
theorem dX5_slotsRight_86 : decode cX5_slotsRight 86 = .ok (.iadd, 1) := by decide +kernel
theorem dX5_slotsRight_87 : decode cX5_slotsRight 87 = .ok (.iaload, 1) := by decide +kernel
theorem dX5_slotsRight_88 : decode cX5_slotsRight 88 = .ok (.ifCond .eq 5, 3) := by decide +kernel
theorem dX5_slotsRight_91 : decode cX5_slotsRight 91 = .ok (.iconst 0, 1) := by decide +kernel
theorem dX5_slotsRight_92 : decode cX5_slotsRight 92 = .ok (.ireturn, 1) := by decide +kernel
theorem dX5_slotsRight_93 : decode cX5_slotsRight 93 = .ok (.iinc 3 1, 3) := by decide +kernel
theorem dX5_slotsRight_96 : decode cX5_slotsRight 96 = .ok (.goto (-31), 3) := by decide +kernel
theorem dX5_slotsRight_99 : decode cX5_slotsRight 99 = .ok (.iinc 1 1, 3) := by decide +kernel
theorem dX5_slotsRight_102 : decode cX5_slotsRight 102 = .ok (.goto (-100), 3) := by decide +kernel
theorem dX5_slotsRight_105 : decode cX5_slotsRight 105 = .ok (.iconst 1, 1) := by decide +kernel
theorem dX5_slotsRight_106 : decode cX5_slotsRight 106 = .ok (.ireturn, 1) := by decide +kernel
theorem dX5_namesRight_0 : decode cX5_namesRight 0 = .ok (.iconst 0, 1) := by decide +kernel
theorem dX5_namesRight_1 : decode cX5_namesRight 1 = .ok (.istore_n 1, 1) := by decide +kernel
theorem dX5_namesRight_2 : decode cX5_namesRight 2 = .ok (.iload_n 1, 1) := by decide +kernel
theorem dX5_namesRight_3 : decode cX5_namesRight 3 = .ok (.bipush 6, 2) := by decide +kernel
theorem dX5_namesRight_5 : decode cX5_namesRight 5 = .ok (.if_icmp .ge 57, 3) := by decide +kernel
theorem dX5_namesRight_8 : decode cX5_namesRight 8 = .ok (.iconst 0, 1) := by decide +kernel
theorem dX5_namesRight_9 : decode cX5_namesRight 9 = .ok (.istore_n 2, 1) := by decide +kernel
theorem dX5_namesRight_10 : decode cX5_namesRight 10 = .ok (.iload_n 2, 1) := by decide +kernel
theorem dX5_namesRight_11 : decode cX5_namesRight 11 = .ok (.iload_n 1, 1) := by decide +kernel
theorem dX5_namesRight_12 : decode cX5_namesRight 12 = .ok (.if_icmp .ge 44, 3) := by decide +kernel
theorem dX5_namesRight_15 : decode cX5_namesRight 15 = .ok (.aload_n 0, 1) := by decide +kernel
theorem dX5_namesRight_16 : decode cX5_namesRight 16 = .ok (.getfield 19, 3) := by decide +kernel
theorem dX5_namesRight_19 : decode cX5_namesRight 19 = .ok (.bipush 7, 2) := by decide +kernel
theorem dX5_namesRight_21 : decode cX5_namesRight 21 = .ok (.iload_n 1, 1) := by decide +kernel
theorem dX5_namesRight_22 : decode cX5_namesRight 22 = .ok (.imul, 1) := by decide +kernel
theorem dX5_namesRight_23 : decode cX5_namesRight 23 = .ok (.iaload, 1) := by decide +kernel
theorem dX5_namesRight_24 : decode cX5_namesRight 24 = .ok (.ifCond .eq 26, 3) := by decide +kernel
theorem dX5_namesRight_27 : decode cX5_namesRight 27 = .ok (.aload_n 0, 1) := by decide +kernel
theorem dX5_namesRight_28 : decode cX5_namesRight 28 = .ok (.getfield 19, 3) := by decide +kernel
theorem dX5_namesRight_31 : decode cX5_namesRight 31 = .ok (.bipush 7, 2) := by decide +kernel
theorem dX5_namesRight_33 : decode cX5_namesRight 33 = .ok (.iload_n 1, 1) := by decide +kernel
theorem dX5_namesRight_34 : decode cX5_namesRight 34 = .ok (.imul, 1) := by decide +kernel
theorem dX5_namesRight_35 : decode cX5_namesRight 35 = .ok (.iaload, 1) := by decide +kernel
theorem dX5_namesRight_36 : decode cX5_namesRight 36 = .ok (.aload_n 0, 1) := by decide +kernel
theorem dX5_namesRight_37 : decode cX5_namesRight 37 = .ok (.getfield 19, 3) := by decide +kernel
theorem dX5_namesRight_40 : decode cX5_namesRight 40 = .ok (.bipush 7, 2) := by decide +kernel
theorem dX5_namesRight_42 : decode cX5_namesRight 42 = .ok (.iload_n 2, 1) := by decide +kernel
theorem dX5_namesRight_43 : decode cX5_namesRight 43 = .ok (.imul, 1) := by decide +kernel
theorem dX5_namesRight_44 : decode cX5_namesRight 44 = .ok (.iaload, 1) := by decide +kernel
theorem dX5_namesRight_45 : decode cX5_namesRight 45 = .ok (.if_icmp .ne 5, 3) := by decide +kernel
theorem dX5_namesRight_48 : decode cX5_namesRight 48 = .ok (.iconst 0, 1) := by decide +kernel
theorem dX5_namesRight_49 : decode cX5_namesRight 49 = .ok (.ireturn, 1) := by decide +kernel
theorem dX5_namesRight_50 : decode cX5_namesRight 50 = .ok (.iinc 2 1, 3) := by decide +kernel
theorem dX5_namesRight_53 : decode cX5_namesRight 53 = .ok (.goto (-43), 3) := by decide +kernel
theorem dX5_namesRight_56 : decode cX5_namesRight 56 = .ok (.iinc 1 1, 3) := by decide +kernel
theorem dX5_namesRight_59 : decode cX5_namesRight 59 = .ok (.goto (-57), 3) := by decide +kernel
theorem dX5_namesRight_62 : decode cX5_namesRight 62 = .ok (.iconst 1, 1) := by decide +kernel
theorem dX5_namesRight_63 : decode cX5_namesRight 63 = .ok (.ireturn, 1) := by decide +kernel
set_option maxRecDepth 20000 in
theorem ggX5_extentsRight_X5_isRun : GoodIn wsX5_extentsRight wsX5_isRun := goodIn_r _ [5, 6, 7, 4, 8, 9, 10, 11, 12, 13, 14] (by decide +kernel) (by decide +kernel)
set_option maxRecDepth 20000 in
theorem gX5_extentsRight_X5_isRun : GoodIn wsX5_extentsRight (va_wsS RX5 132 yX5_isRun wsX5_isRun) := goodIn_app (goodIn_of _ (by decide +kernel)) ggX5_extentsRight_X5_isRun
theorem dX5_extentsRight_0 : decode cX5_extentsRight 0 = .ok (.iconst 0, 1) := by decide +kernel
theorem dX5_extentsRight_1 : decode cX5_extentsRight 1 = .ok (.istore_n 1, 1) := by decide +kernel
theorem dX5_extentsRight_2 : decode cX5_extentsRight 2 = .ok (.iload_n 1, 1) := by decide +kernel
theorem dX5_extentsRight_3 : decode cX5_extentsRight 3 = .ok (.bipush 6, 2) := by decide +kernel
theorem dX5_extentsRight_5 : decode cX5_extentsRight 5 = .ok (.if_icmp .ge 69, 3) := by decide +kernel
theorem dX5_extentsRight_8 : decode cX5_extentsRight 8 = .ok (.iconst 0, 1) := by decide +kernel
theorem dX5_extentsRight_9 : decode cX5_extentsRight 9 = .ok (.istore_n 2, 1) := by decide +kernel
theorem dX5_extentsRight_10 : decode cX5_extentsRight 10 = .ok (.iload_n 2, 1) := by decide +kernel
theorem dX5_extentsRight_11 : decode cX5_extentsRight 11 = .ok (.iconst 4, 1) := by decide +kernel
theorem dX5_extentsRight_12 : decode cX5_extentsRight 12 = .ok (.if_icmp .ge 56, 3) := by decide +kernel
theorem dX5_extentsRight_15 : decode cX5_extentsRight 15 = .ok (.aload_n 0, 1) := by decide +kernel
theorem dX5_extentsRight_16 : decode cX5_extentsRight 16 = .ok (.getfield 19, 3) := by decide +kernel
theorem dX5_extentsRight_19 : decode cX5_extentsRight 19 = .ok (.bipush 7, 2) := by decide +kernel
theorem dX5_extentsRight_21 : decode cX5_extentsRight 21 = .ok (.iload_n 1, 1) := by decide +kernel
theorem dX5_extentsRight_22 : decode cX5_extentsRight 22 = .ok (.imul, 1) := by decide +kernel
theorem dX5_extentsRight_23 : decode cX5_extentsRight 23 = .ok (.iconst 3, 1) := by decide +kernel
theorem dX5_extentsRight_24 : decode cX5_extentsRight 24 = .ok (.iadd, 1) := by decide +kernel
theorem dX5_extentsRight_25 : decode cX5_extentsRight 25 = .ok (.iload_n 2, 1) := by decide +kernel
theorem dX5_extentsRight_26 : decode cX5_extentsRight 26 = .ok (.iadd, 1) := by decide +kernel
theorem dX5_extentsRight_27 : decode cX5_extentsRight 27 = .ok (.iaload, 1) := by decide +kernel
theorem dX5_extentsRight_28 : decode cX5_extentsRight 28 = .ok (.istore_n 3, 1) := by decide +kernel
theorem dX5_extentsRight_29 : decode cX5_extentsRight 29 = .ok (.iload_n 3, 1) := by decide +kernel
theorem dX5_extentsRight_30 : decode cX5_extentsRight 30 = .ok (.ifCond .eq 32, 3) := by decide +kernel
theorem dX5_extentsRight_33 : decode cX5_extentsRight 33 = .ok (.iload_n 3, 1) := by decide +kernel
theorem dX5_extentsRight_34 : decode cX5_extentsRight 34 = .ok (.invokestatic 132, 3) := by decide +kernel
theorem dX5_extentsRight_37 : decode cX5_extentsRight 37 = .ok (.ifCond .eq 23, 3) := by decide +kernel
theorem dX5_extentsRight_40 : decode cX5_extentsRight 40 = .ok (.iload_n 2, 1) := by decide +kernel
theorem dX5_extentsRight_41 : decode cX5_extentsRight 41 = .ok (.ifCond .le 21, 3) := by decide +kernel
theorem dX5_extentsRight_44 : decode cX5_extentsRight 44 = .ok (.aload_n 0, 1) := by decide +kernel
theorem dX5_extentsRight_45 : decode cX5_extentsRight 45 = .ok (.getfield 19, 3) := by decide +kernel
theorem dX5_extentsRight_48 : decode cX5_extentsRight 48 = .ok (.bipush 7, 2) := by decide +kernel
theorem dX5_extentsRight_50 : decode cX5_extentsRight 50 = .ok (.iload_n 1, 1) := by decide +kernel
theorem dX5_extentsRight_51 : decode cX5_extentsRight 51 = .ok (.imul, 1) := by decide +kernel
theorem dX5_extentsRight_52 : decode cX5_extentsRight 52 = .ok (.iconst 2, 1) := by decide +kernel
theorem dX5_extentsRight_53 : decode cX5_extentsRight 53 = .ok (.iadd, 1) := by decide +kernel
theorem dX5_extentsRight_54 : decode cX5_extentsRight 54 = .ok (.iload_n 2, 1) := by decide +kernel
theorem dX5_extentsRight_55 : decode cX5_extentsRight 55 = .ok (.iadd, 1) := by decide +kernel
theorem dX5_extentsRight_56 : decode cX5_extentsRight 56 = .ok (.iaload, 1) := by decide +kernel
theorem dX5_extentsRight_57 : decode cX5_extentsRight 57 = .ok (.ifCond .ne 5, 3) := by decide +kernel
theorem dX5_extentsRight_60 : decode cX5_extentsRight 60 = .ok (.iconst 0, 1) := by decide +kernel
theorem dX5_extentsRight_61 : decode cX5_extentsRight 61 = .ok (.ireturn, 1) := by decide +kernel
theorem dX5_extentsRight_62 : decode cX5_extentsRight 62 = .ok (.iinc 2 1, 3) := by decide +kernel
theorem dX5_extentsRight_65 : decode cX5_extentsRight 65 = .ok (.goto (-55), 3) := by decide +kernel
theorem dX5_extentsRight_68 : decode cX5_extentsRight 68 = .ok (.iinc 1 1, 3) := by decide +kernel
theorem dX5_extentsRight_71 : decode cX5_extentsRight 71 = .ok (.goto (-69), 3) := by decide +kernel
theorem dX5_extentsRight_74 : decode cX5_extentsRight 74 = .ok (.iconst 1, 1) := by decide +kernel
theorem dX5_extentsRight_75 : decode cX5_extentsRight 75 = .ok (.ireturn, 1) := by decide +kernel
set_option maxRecDepth 20000 in
theorem ggX5_blocksRight_X5_start : GoodIn wsX5_blocksRight wsX5_start := goodIn_r _ [6] (by decide +kernel) (by decide +kernel)
set_option maxRecDepth 20000 in
theorem gX5_blocksRight_X5_start : GoodIn wsX5_blocksRight (va_wsS RX5 54 yX5_start wsX5_start) := goodIn_app (goodIn_of _ (by decide +kernel)) ggX5_blocksRight_X5_start
set_option maxRecDepth 20000 in
theorem ggX5_blocksRight_X5_size : GoodIn wsX5_blocksRight wsX5_size := goodIn_r _ [9, 10, 11, 5, 12] (by decide +kernel) (by decide +kernel)
set_option maxRecDepth 20000 in
theorem gX5_blocksRight_X5_size : GoodIn wsX5_blocksRight (va_wsS RX5 67 yX5_size wsX5_size) := goodIn_app (goodIn_of _ (by decide +kernel)) ggX5_blocksRight_X5_size
theorem dX5_blocksRight_0 : decode cX5_blocksRight 0 = .ok (.iconst 1, 1) := by decide +kernel
theorem dX5_blocksRight_1 : decode cX5_blocksRight 1 = .ok (.istore_n 1, 1) := by decide +kernel
theorem dX5_blocksRight_2 : decode cX5_blocksRight 2 = .ok (.iconst 0, 1) := by decide +kernel
theorem dX5_blocksRight_3 : decode cX5_blocksRight 3 = .ok (.istore_n 2, 1) := by decide +kernel
theorem dX5_blocksRight_4 : decode cX5_blocksRight 4 = .ok (.iload_n 2, 1) := by decide +kernel
theorem dX5_blocksRight_5 : decode cX5_blocksRight 5 = .ok (.bipush 32, 2) := by decide +kernel
theorem dX5_blocksRight_7 : decode cX5_blocksRight 7 = .ok (.if_icmp .ge 145, 3) := by decide +kernel
theorem dX5_blocksRight_10 : decode cX5_blocksRight 10 = .ok (.aload_n 0, 1) := by decide +kernel
theorem dX5_blocksRight_11 : decode cX5_blocksRight 11 = .ok (.getfield 22, 3) := by decide +kernel
theorem dX5_blocksRight_14 : decode cX5_blocksRight 14 = .ok (.iload_n 2, 1) := by decide +kernel
theorem dX5_blocksRight_15 : decode cX5_blocksRight 15 = .ok (.iconst 0, 1) := by decide +kernel
theorem dX5_blocksRight_16 : decode cX5_blocksRight 16 = .ok (.iastore, 1) := by decide +kernel
theorem dX5_blocksRight_17 : decode cX5_blocksRight 17 = .ok (.iconst 0, 1) := by decide +kernel
theorem dX5_blocksRight_18 : decode cX5_blocksRight 18 = .ok (.istore_n 3, 1) := by decide +kernel
theorem dX5_blocksRight_19 : decode cX5_blocksRight 19 = .ok (.iload_n 3, 1) := by decide +kernel
theorem dX5_blocksRight_20 : decode cX5_blocksRight 20 = .ok (.bipush 6, 2) := by decide +kernel
theorem dX5_blocksRight_22 : decode cX5_blocksRight 22 = .ok (.if_icmp .ge 104, 3) := by decide +kernel
theorem dX5_blocksRight_25 : decode cX5_blocksRight 25 = .ok (.iconst 0, 1) := by decide +kernel
theorem dX5_blocksRight_26 : decode cX5_blocksRight 26 = .ok (.istore 4, 2) := by decide +kernel
theorem dX5_blocksRight_28 : decode cX5_blocksRight 28 = .ok (.iload 4, 2) := by decide +kernel
theorem dX5_blocksRight_30 : decode cX5_blocksRight 30 = .ok (.iconst 4, 1) := by decide +kernel
theorem dX5_blocksRight_31 : decode cX5_blocksRight 31 = .ok (.if_icmp .ge 89, 3) := by decide +kernel
theorem dX5_blocksRight_34 : decode cX5_blocksRight 34 = .ok (.aload_n 0, 1) := by decide +kernel
theorem dX5_blocksRight_35 : decode cX5_blocksRight 35 = .ok (.getfield 19, 3) := by decide +kernel
theorem dX5_blocksRight_38 : decode cX5_blocksRight 38 = .ok (.bipush 7, 2) := by decide +kernel
theorem dX5_blocksRight_40 : decode cX5_blocksRight 40 = .ok (.iload_n 3, 1) := by decide +kernel
theorem dX5_blocksRight_41 : decode cX5_blocksRight 41 = .ok (.imul, 1) := by decide +kernel
theorem dX5_blocksRight_42 : decode cX5_blocksRight 42 = .ok (.iconst 3, 1) := by decide +kernel
theorem dX5_blocksRight_43 : decode cX5_blocksRight 43 = .ok (.iadd, 1) := by decide +kernel
theorem dX5_blocksRight_44 : decode cX5_blocksRight 44 = .ok (.iload 4, 2) := by decide +kernel
theorem dX5_blocksRight_46 : decode cX5_blocksRight 46 = .ok (.iadd, 1) := by decide +kernel
theorem dX5_blocksRight_47 : decode cX5_blocksRight 47 = .ok (.iaload, 1) := by decide +kernel
theorem dX5_blocksRight_48 : decode cX5_blocksRight 48 = .ok (.istore 5, 2) := by decide +kernel
theorem dX5_blocksRight_50 : decode cX5_blocksRight 50 = .ok (.iload 5, 2) := by decide +kernel
theorem dX5_blocksRight_52 : decode cX5_blocksRight 52 = .ok (.ifCond .eq 31, 3) := by decide +kernel
theorem dX5_blocksRight_55 : decode cX5_blocksRight 55 = .ok (.iload_n 2, 1) := by decide +kernel
theorem dX5_blocksRight_56 : decode cX5_blocksRight 56 = .ok (.iload 5, 2) := by decide +kernel
theorem dX5_blocksRight_58 : decode cX5_blocksRight 58 = .ok (.invokestatic 54, 3) := by decide +kernel
theorem dX5_blocksRight_61 : decode cX5_blocksRight 61 = .ok (.if_icmp .lt 22, 3) := by decide +kernel
theorem dX5_blocksRight_64 : decode cX5_blocksRight 64 = .ok (.iload_n 2, 1) := by decide +kernel
theorem dX5_blocksRight_65 : decode cX5_blocksRight 65 = .ok (.iload 5, 2) := by decide +kernel
theorem dX5_blocksRight_67 : decode cX5_blocksRight 67 = .ok (.invokestatic 54, 3) := by decide +kernel
theorem dX5_blocksRight_70 : decode cX5_blocksRight 70 = .ok (.iload 5, 2) := by decide +kernel
theorem dX5_blocksRight_72 : decode cX5_blocksRight 72 = .ok (.invokestatic 67, 3) := by decide +kernel
theorem dX5_blocksRight_75 : decode cX5_blocksRight 75 = .ok (.iadd, 1) := by decide +kernel
theorem dX5_blocksRight_76 : decode cX5_blocksRight 76 = .ok (.if_icmp .ge 7, 3) := by decide +kernel
theorem dX5_blocksRight_79 : decode cX5_blocksRight 79 = .ok (.iconst 1, 1) := by decide +kernel
theorem dX5_blocksRight_80 : decode cX5_blocksRight 80 = .ok (.goto 4, 3) := by decide +kernel
theorem dX5_blocksRight_83 : decode cX5_blocksRight 83 = .ok (.iconst 0, 1) := by decide +kernel
theorem dX5_blocksRight_84 : decode cX5_blocksRight 84 = .ok (.istore 6, 2) := by decide +kernel
theorem dX5_blocksRight_86 : decode cX5_blocksRight 86 = .ok (.aload_n 0, 1) := by decide +kernel
theorem dX5_blocksRight_87 : decode cX5_blocksRight 87 = .ok (.getfield 22, 3) := by decide +kernel
theorem dX5_blocksRight_90 : decode cX5_blocksRight 90 = .ok (.iload_n 2, 1) := by decide +kernel
theorem dX5_blocksRight_91 : decode cX5_blocksRight 91 = .ok (.iload 6, 2) := by decide +kernel
theorem dX5_blocksRight_93 : decode cX5_blocksRight 93 = .ok (.ifCond .eq 14, 3) := by decide +kernel
theorem dX5_blocksRight_96 : decode cX5_blocksRight 96 = .ok (.aload_n 0, 1) := by decide +kernel
theorem dX5_blocksRight_97 : decode cX5_blocksRight 97 = .ok (.getfield 22, 3) := by decide +kernel
theorem dX5_blocksRight_100 : decode cX5_blocksRight 100 = .ok (.iload_n 2, 1) := by decide +kernel
theorem dX5_blocksRight_101 : decode cX5_blocksRight 101 = .ok (.iaload, 1) := by decide +kernel
theorem dX5_blocksRight_102 : decode cX5_blocksRight 102 = .ok (.iconst 1, 1) := by decide +kernel
theorem dX5_blocksRight_103 : decode cX5_blocksRight 103 = .ok (.iadd, 1) := by decide +kernel
theorem dX5_blocksRight_104 : decode cX5_blocksRight 104 = .ok (.goto 9, 3) := by decide +kernel
theorem dX5_blocksRight_107 : decode cX5_blocksRight 107 = .ok (.aload_n 0, 1) := by decide +kernel
theorem dX5_blocksRight_108 : decode cX5_blocksRight 108 = .ok (.getfield 22, 3) := by decide +kernel
theorem dX5_blocksRight_111 : decode cX5_blocksRight 111 = .ok (.iload_n 2, 1) := by decide +kernel
theorem dX5_blocksRight_112 : decode cX5_blocksRight 112 = .ok (.iaload, 1) := by decide +kernel
theorem dX5_blocksRight_113 : decode cX5_blocksRight 113 = .ok (.iastore, 1) := by decide +kernel
theorem dX5_blocksRight_114 : decode cX5_blocksRight 114 = .ok (.iinc 4 1, 3) := by decide +kernel
theorem dX5_blocksRight_117 : decode cX5_blocksRight 117 = .ok (.goto (-89), 3) := by decide +kernel
theorem dX5_blocksRight_120 : decode cX5_blocksRight 120 = .ok (.iinc 3 1, 3) := by decide +kernel
theorem dX5_blocksRight_123 : decode cX5_blocksRight 123 = .ok (.goto (-104), 3) := by decide +kernel
theorem dX5_blocksRight_126 : decode cX5_blocksRight 126 = .ok (.iload_n 1, 1) := by decide +kernel
theorem dX5_blocksRight_127 : decode cX5_blocksRight 127 = .ok (.ifCond .eq 17, 3) := by decide +kernel
theorem dX5_blocksRight_130 : decode cX5_blocksRight 130 = .ok (.aload_n 0, 1) := by decide +kernel
theorem dX5_blocksRight_131 : decode cX5_blocksRight 131 = .ok (.getfield 22, 3) := by decide +kernel
theorem dX5_blocksRight_134 : decode cX5_blocksRight 134 = .ok (.iload_n 2, 1) := by decide +kernel
theorem dX5_blocksRight_135 : decode cX5_blocksRight 135 = .ok (.iaload, 1) := by decide +kernel
theorem dX5_blocksRight_136 : decode cX5_blocksRight 136 = .ok (.iconst 2, 1) := by decide +kernel
theorem dX5_blocksRight_137 : decode cX5_blocksRight 137 = .ok (.if_icmp .ge 7, 3) := by decide +kernel
theorem dX5_blocksRight_140 : decode cX5_blocksRight 140 = .ok (.iconst 1, 1) := by decide +kernel
theorem dX5_blocksRight_141 : decode cX5_blocksRight 141 = .ok (.goto 4, 3) := by decide +kernel
theorem dX5_blocksRight_144 : decode cX5_blocksRight 144 = .ok (.iconst 0, 1) := by decide +kernel
theorem dX5_blocksRight_145 : decode cX5_blocksRight 145 = .ok (.istore_n 1, 1) := by decide +kernel
theorem dX5_blocksRight_146 : decode cX5_blocksRight 146 = .ok (.iinc 2 1, 3) := by decide +kernel
theorem dX5_blocksRight_149 : decode cX5_blocksRight 149 = .ok (.goto (-145), 3) := by decide +kernel
theorem dX5_blocksRight_152 : decode cX5_blocksRight 152 = .ok (.iload_n 1, 1) := by decide +kernel
theorem dX5_blocksRight_153 : decode cX5_blocksRight 153 = .ok (.ireturn, 1) := by decide +kernel
set_option maxRecDepth 20000 in
theorem ggX5_needsRight_X5_size : GoodIn wsX5_needsRight wsX5_size := goodIn_r _ [5, 6, 7, 4, 8] (by decide +kernel) (by decide +kernel)
set_option maxRecDepth 20000 in
theorem gX5_needsRight_X5_size : GoodIn wsX5_needsRight (va_wsS RX5 67 yX5_size wsX5_size) := goodIn_app (goodIn_of _ (by decide +kernel)) ggX5_needsRight_X5_size
theorem dX5_needsRight_0 : decode cX5_needsRight 0 = .ok (.iconst 1, 1) := by decide +kernel
theorem dX5_needsRight_1 : decode cX5_needsRight 1 = .ok (.istore_n 1, 1) := by decide +kernel
theorem dX5_needsRight_2 : decode cX5_needsRight 2 = .ok (.iconst 0, 1) := by decide +kernel
theorem dX5_needsRight_3 : decode cX5_needsRight 3 = .ok (.istore_n 2, 1) := by decide +kernel
theorem dX5_needsRight_4 : decode cX5_needsRight 4 = .ok (.iload_n 2, 1) := by decide +kernel
theorem dX5_needsRight_5 : decode cX5_needsRight 5 = .ok (.bipush 6, 2) := by decide +kernel
theorem dX5_needsRight_7 : decode cX5_needsRight 7 = .ok (.if_icmp .ge 119, 3) := by decide +kernel
theorem dX5_needsRight_10 : decode cX5_needsRight 10 = .ok (.aload_n 0, 1) := by decide +kernel
theorem dX5_needsRight_11 : decode cX5_needsRight 11 = .ok (.getfield 19, 3) := by decide +kernel
theorem dX5_needsRight_14 : decode cX5_needsRight 14 = .ok (.bipush 7, 2) := by decide +kernel
theorem dX5_needsRight_16 : decode cX5_needsRight 16 = .ok (.iload_n 2, 1) := by decide +kernel
theorem dX5_needsRight_17 : decode cX5_needsRight 17 = .ok (.imul, 1) := by decide +kernel
theorem dX5_needsRight_18 : decode cX5_needsRight 18 = .ok (.iconst 2, 1) := by decide +kernel
theorem dX5_needsRight_19 : decode cX5_needsRight 19 = .ok (.iadd, 1) := by decide +kernel
theorem dX5_needsRight_20 : decode cX5_needsRight 20 = .ok (.iaload, 1) := by decide +kernel
theorem dX5_needsRight_21 : decode cX5_needsRight 21 = .ok (.iconst 1, 1) := by decide +kernel
theorem dX5_needsRight_22 : decode cX5_needsRight 22 = .ok (.iadd, 1) := by decide +kernel
theorem dX5_needsRight_23 : decode cX5_needsRight 23 = .ok (.iconst 2, 1) := by decide +kernel
theorem dX5_needsRight_24 : decode cX5_needsRight 24 = .ok (.idiv, 1) := by decide +kernel
theorem dX5_needsRight_25 : decode cX5_needsRight 25 = .ok (.istore_n 3, 1) := by decide +kernel
theorem dX5_needsRight_26 : decode cX5_needsRight 26 = .ok (.iconst 0, 1) := by decide +kernel
theorem dX5_needsRight_27 : decode cX5_needsRight 27 = .ok (.istore 4, 2) := by decide +kernel
theorem dX5_needsRight_29 : decode cX5_needsRight 29 = .ok (.iconst 0, 1) := by decide +kernel
theorem dX5_needsRight_30 : decode cX5_needsRight 30 = .ok (.istore 5, 2) := by decide +kernel
theorem dX5_needsRight_32 : decode cX5_needsRight 32 = .ok (.iconst 0, 1) := by decide +kernel
theorem dX5_needsRight_33 : decode cX5_needsRight 33 = .ok (.istore 6, 2) := by decide +kernel
theorem dX5_needsRight_35 : decode cX5_needsRight 35 = .ok (.iload 6, 2) := by decide +kernel
theorem dX5_needsRight_37 : decode cX5_needsRight 37 = .ok (.iconst 4, 1) := by decide +kernel
theorem dX5_needsRight_38 : decode cX5_needsRight 38 = .ok (.if_icmp .ge 52, 3) := by decide +kernel
theorem dX5_needsRight_41 : decode cX5_needsRight 41 = .ok (.aload_n 0, 1) := by decide +kernel
theorem dX5_needsRight_42 : decode cX5_needsRight 42 = .ok (.getfield 19, 3) := by decide +kernel
theorem dX5_needsRight_45 : decode cX5_needsRight 45 = .ok (.bipush 7, 2) := by decide +kernel
theorem dX5_needsRight_47 : decode cX5_needsRight 47 = .ok (.iload_n 2, 1) := by decide +kernel
theorem dX5_needsRight_48 : decode cX5_needsRight 48 = .ok (.imul, 1) := by decide +kernel
theorem dX5_needsRight_49 : decode cX5_needsRight 49 = .ok (.iconst 3, 1) := by decide +kernel
theorem dX5_needsRight_50 : decode cX5_needsRight 50 = .ok (.iadd, 1) := by decide +kernel
theorem dX5_needsRight_51 : decode cX5_needsRight 51 = .ok (.iload 6, 2) := by decide +kernel
theorem dX5_needsRight_53 : decode cX5_needsRight 53 = .ok (.iadd, 1) := by decide +kernel
theorem dX5_needsRight_54 : decode cX5_needsRight 54 = .ok (.iaload, 1) := by decide +kernel
theorem dX5_needsRight_55 : decode cX5_needsRight 55 = .ok (.istore 7, 2) := by decide +kernel
theorem dX5_needsRight_57 : decode cX5_needsRight 57 = .ok (.iload 4, 2) := by decide +kernel
theorem dX5_needsRight_59 : decode cX5_needsRight 59 = .ok (.iload 7, 2) := by decide +kernel
theorem dX5_needsRight_61 : decode cX5_needsRight 61 = .ok (.invokestatic 67, 3) := by decide +kernel
theorem dX5_needsRight_64 : decode cX5_needsRight 64 = .ok (.iadd, 1) := by decide +kernel
theorem dX5_needsRight_65 : decode cX5_needsRight 65 = .ok (.istore 4, 2) := by decide +kernel
theorem dX5_needsRight_67 : decode cX5_needsRight 67 = .ok (.iload 7, 2) := by decide +kernel
theorem dX5_needsRight_69 : decode cX5_needsRight 69 = .ok (.ifCond .ne 8, 3) := by decide +kernel
theorem dX5_needsRight_72 : decode cX5_needsRight 72 = .ok (.iload 5, 2) := by decide +kernel
theorem dX5_needsRight_74 : decode cX5_needsRight 74 = .ok (.goto 8, 3) := by decide +kernel
theorem dX5_needsRight_77 : decode cX5_needsRight 77 = .ok (.iload 7, 2) := by decide +kernel
theorem dX5_needsRight_79 : decode cX5_needsRight 79 = .ok (.invokestatic 67, 3) := by decide +kernel
theorem dX5_needsRight_82 : decode cX5_needsRight 82 = .ok (.istore 5, 2) := by decide +kernel
theorem dX5_needsRight_84 : decode cX5_needsRight 84 = .ok (.iinc 6 1, 3) := by decide +kernel
theorem dX5_needsRight_87 : decode cX5_needsRight 87 = .ok (.goto (-52), 3) := by decide +kernel
theorem dX5_needsRight_90 : decode cX5_needsRight 90 = .ok (.iload_n 1, 1) := by decide +kernel
theorem dX5_needsRight_91 : decode cX5_needsRight 91 = .ok (.ifCond .eq 27, 3) := by decide +kernel
theorem dX5_needsRight_94 : decode cX5_needsRight 94 = .ok (.iload 4, 2) := by decide +kernel
theorem dX5_needsRight_96 : decode cX5_needsRight 96 = .ok (.iload_n 3, 1) := by decide +kernel
theorem dX5_needsRight_97 : decode cX5_needsRight 97 = .ok (.if_icmp .lt 21, 3) := by decide +kernel
theorem dX5_needsRight_100 : decode cX5_needsRight 100 = .ok (.iload 5, 2) := by decide +kernel
theorem dX5_needsRight_102 : decode cX5_needsRight 102 = .ok (.ifCond .eq 12, 3) := by decide +kernel
theorem dX5_needsRight_105 : decode cX5_needsRight 105 = .ok (.iload 4, 2) := by decide +kernel
theorem dX5_needsRight_107 : decode cX5_needsRight 107 = .ok (.iload 5, 2) := by decide +kernel
theorem dX5_needsRight_109 : decode cX5_needsRight 109 = .ok (.isub, 1) := by decide +kernel
theorem dX5_needsRight_110 : decode cX5_needsRight 110 = .ok (.iload_n 3, 1) := by decide +kernel
theorem dX5_needsRight_111 : decode cX5_needsRight 111 = .ok (.if_icmp .ge 7, 3) := by decide +kernel
theorem dX5_needsRight_114 : decode cX5_needsRight 114 = .ok (.iconst 1, 1) := by decide +kernel
theorem dX5_needsRight_115 : decode cX5_needsRight 115 = .ok (.goto 4, 3) := by decide +kernel
theorem dX5_needsRight_118 : decode cX5_needsRight 118 = .ok (.iconst 0, 1) := by decide +kernel
theorem dX5_needsRight_119 : decode cX5_needsRight 119 = .ok (.istore_n 1, 1) := by decide +kernel
theorem dX5_needsRight_120 : decode cX5_needsRight 120 = .ok (.iinc 2 1, 3) := by decide +kernel
theorem dX5_needsRight_123 : decode cX5_needsRight 123 = .ok (.goto (-119), 3) := by decide +kernel
theorem dX5_needsRight_126 : decode cX5_needsRight 126 = .ok (.iload_n 1, 1) := by decide +kernel
theorem dX5_needsRight_127 : decode cX5_needsRight 127 = .ok (.ireturn, 1) := by decide +kernel
theorem dX5_mapRight_0 : decode cX5_mapRight 0 = .ok (.iconst 0, 1) := by decide +kernel
theorem dX5_mapRight_1 : decode cX5_mapRight 1 = .ok (.istore_n 1, 1) := by decide +kernel
theorem dX5_mapRight_2 : decode cX5_mapRight 2 = .ok (.iconst 0, 1) := by decide +kernel
theorem dX5_mapRight_3 : decode cX5_mapRight 3 = .ok (.istore_n 2, 1) := by decide +kernel
theorem dX5_mapRight_4 : decode cX5_mapRight 4 = .ok (.iload_n 2, 1) := by decide +kernel
theorem dX5_mapRight_5 : decode cX5_mapRight 5 = .ok (.bipush 32, 2) := by decide +kernel
theorem dX5_mapRight_7 : decode cX5_mapRight 7 = .ok (.if_icmp .ge 28, 3) := by decide +kernel
theorem dX5_mapRight_10 : decode cX5_mapRight 10 = .ok (.aload_n 0, 1) := by decide +kernel
theorem dX5_mapRight_11 : decode cX5_mapRight 11 = .ok (.getfield 22, 3) := by decide +kernel
theorem dX5_mapRight_14 : decode cX5_mapRight 14 = .ok (.iload_n 2, 1) := by decide +kernel
theorem dX5_mapRight_15 : decode cX5_mapRight 15 = .ok (.iaload, 1) := by decide +kernel
theorem dX5_mapRight_16 : decode cX5_mapRight 16 = .ok (.ifCond .le 11, 3) := by decide +kernel
theorem dX5_mapRight_19 : decode cX5_mapRight 19 = .ok (.iload_n 1, 1) := by decide +kernel
theorem dX5_mapRight_20 : decode cX5_mapRight 20 = .ok (.iconst 1, 1) := by decide +kernel
theorem dX5_mapRight_21 : decode cX5_mapRight 21 = .ok (.iload_n 2, 1) := by decide +kernel
theorem dX5_mapRight_22 : decode cX5_mapRight 22 = .ok (.ishl, 1) := by decide +kernel
theorem dX5_mapRight_23 : decode cX5_mapRight 23 = .ok (.ior, 1) := by decide +kernel
theorem dX5_mapRight_24 : decode cX5_mapRight 24 = .ok (.goto 4, 3) := by decide +kernel
theorem dX5_mapRight_27 : decode cX5_mapRight 27 = .ok (.iload_n 1, 1) := by decide +kernel
theorem dX5_mapRight_28 : decode cX5_mapRight 28 = .ok (.istore_n 1, 1) := by decide +kernel
theorem dX5_mapRight_29 : decode cX5_mapRight 29 = .ok (.iinc 2 1, 3) := by decide +kernel
theorem dX5_mapRight_32 : decode cX5_mapRight 32 = .ok (.goto (-28), 3) := by decide +kernel
theorem dX5_mapRight_35 : decode cX5_mapRight 35 = .ok (.iload_n 1, 1) := by decide +kernel
theorem dX5_mapRight_36 : decode cX5_mapRight 36 = .ok (.aload_n 0, 1) := by decide +kernel
theorem dX5_mapRight_37 : decode cX5_mapRight 37 = .ok (.getfield 19, 3) := by decide +kernel
theorem dX5_mapRight_40 : decode cX5_mapRight 40 = .ok (.bipush 45, 2) := by decide +kernel
theorem dX5_mapRight_42 : decode cX5_mapRight 42 = .ok (.iaload, 1) := by decide +kernel
theorem dX5_mapRight_43 : decode cX5_mapRight 43 = .ok (.if_icmp .ne 7, 3) := by decide +kernel
theorem dX5_mapRight_46 : decode cX5_mapRight 46 = .ok (.iconst 1, 1) := by decide +kernel
theorem dX5_mapRight_47 : decode cX5_mapRight 47 = .ok (.goto 4, 3) := by decide +kernel
theorem dX5_mapRight_50 : decode cX5_mapRight 50 = .ok (.iconst 0, 1) := by decide +kernel
theorem dX5_mapRight_51 : decode cX5_mapRight 51 = .ok (.ireturn, 1) := by decide +kernel
set_option maxRecDepth 20000 in
theorem ggX5_quotasRight_X5_size : GoodIn wsX5_quotasRight wsX5_size := goodIn_r _ [5, 6, 7, 4, 8] (by decide +kernel) (by decide +kernel)
set_option maxRecDepth 20000 in
theorem gX5_quotasRight_X5_size : GoodIn wsX5_quotasRight (va_wsS RX5 67 yX5_size wsX5_size) := goodIn_app (goodIn_of _ (by decide +kernel)) ggX5_quotasRight_X5_size
set_option maxRecDepth 20000 in
theorem ggX5_quotasRight_X5_within : GoodIn wsX5_quotasRight wsX5_within := goodIn_r _ [11] (by decide +kernel) (by decide +kernel)
set_option maxRecDepth 20000 in
theorem gX5_quotasRight_X5_within : GoodIn wsX5_quotasRight (va_wsS RX5 38 yX5_within wsX5_within) := goodIn_app (goodIn_of _ (by decide +kernel)) ggX5_quotasRight_X5_within
theorem dX5_quotasRight_0 : decode cX5_quotasRight 0 = .ok (.iconst 1, 1) := by decide +kernel
theorem dX5_quotasRight_1 : decode cX5_quotasRight 1 = .ok (.istore_n 1, 1) := by decide +kernel
theorem dX5_quotasRight_2 : decode cX5_quotasRight 2 = .ok (.iconst 0, 1) := by decide +kernel
theorem dX5_quotasRight_3 : decode cX5_quotasRight 3 = .ok (.istore_n 2, 1) := by decide +kernel
theorem dX5_quotasRight_4 : decode cX5_quotasRight 4 = .ok (.iload_n 2, 1) := by decide +kernel
theorem dX5_quotasRight_5 : decode cX5_quotasRight 5 = .ok (.iconst 3, 1) := by decide +kernel
theorem dX5_quotasRight_6 : decode cX5_quotasRight 6 = .ok (.if_icmp .ge 124, 3) := by decide +kernel
theorem dX5_quotasRight_9 : decode cX5_quotasRight 9 = .ok (.iconst 0, 1) := by decide +kernel
theorem dX5_quotasRight_10 : decode cX5_quotasRight 10 = .ok (.istore_n 3, 1) := by decide +kernel
theorem dX5_quotasRight_11 : decode cX5_quotasRight 11 = .ok (.iconst 0, 1) := by decide +kernel
theorem dX5_quotasRight_12 : decode cX5_quotasRight 12 = .ok (.istore 4, 2) := by decide +kernel
theorem dX5_quotasRight_14 : decode cX5_quotasRight 14 = .ok (.iload 4, 2) := by decide +kernel
theorem dX5_quotasRight_16 : decode cX5_quotasRight 16 = .ok (.bipush 6, 2) := by decide +kernel
theorem dX5_quotasRight_18 : decode cX5_quotasRight 18 = .ok (.if_icmp .ge 78, 3) := by decide +kernel
theorem dX5_quotasRight_21 : decode cX5_quotasRight 21 = .ok (.iconst 0, 1) := by decide +kernel
theorem dX5_quotasRight_22 : decode cX5_quotasRight 22 = .ok (.istore 5, 2) := by decide +kernel
theorem dX5_quotasRight_24 : decode cX5_quotasRight 24 = .ok (.iload 5, 2) := by decide +kernel
theorem dX5_quotasRight_26 : decode cX5_quotasRight 26 = .ok (.iconst 4, 1) := by decide +kernel
theorem dX5_quotasRight_27 : decode cX5_quotasRight 27 = .ok (.if_icmp .ge 63, 3) := by decide +kernel
theorem dX5_quotasRight_30 : decode cX5_quotasRight 30 = .ok (.aload_n 0, 1) := by decide +kernel
theorem dX5_quotasRight_31 : decode cX5_quotasRight 31 = .ok (.getfield 19, 3) := by decide +kernel
theorem dX5_quotasRight_34 : decode cX5_quotasRight 34 = .ok (.bipush 7, 2) := by decide +kernel
theorem dX5_quotasRight_36 : decode cX5_quotasRight 36 = .ok (.iload 4, 2) := by decide +kernel
theorem dX5_quotasRight_38 : decode cX5_quotasRight 38 = .ok (.imul, 1) := by decide +kernel
theorem dX5_quotasRight_39 : decode cX5_quotasRight 39 = .ok (.iaload, 1) := by decide +kernel
theorem dX5_quotasRight_40 : decode cX5_quotasRight 40 = .ok (.ifCond .eq 42, 3) := by decide +kernel
theorem dX5_quotasRight_43 : decode cX5_quotasRight 43 = .ok (.aload_n 0, 1) := by decide +kernel
theorem dX5_quotasRight_44 : decode cX5_quotasRight 44 = .ok (.getfield 19, 3) := by decide +kernel
theorem dX5_quotasRight_47 : decode cX5_quotasRight 47 = .ok (.bipush 7, 2) := by decide +kernel
theorem dX5_quotasRight_49 : decode cX5_quotasRight 49 = .ok (.iload 4, 2) := by decide +kernel
theorem dX5_quotasRight_51 : decode cX5_quotasRight 51 = .ok (.imul, 1) := by decide +kernel
theorem dX5_quotasRight_52 : decode cX5_quotasRight 52 = .ok (.iconst 1, 1) := by decide +kernel
theorem dX5_quotasRight_53 : decode cX5_quotasRight 53 = .ok (.iadd, 1) := by decide +kernel
theorem dX5_quotasRight_54 : decode cX5_quotasRight 54 = .ok (.iaload, 1) := by decide +kernel
theorem dX5_quotasRight_55 : decode cX5_quotasRight 55 = .ok (.iload_n 2, 1) := by decide +kernel
theorem dX5_quotasRight_56 : decode cX5_quotasRight 56 = .ok (.if_icmp .ne 26, 3) := by decide +kernel
theorem dX5_quotasRight_59 : decode cX5_quotasRight 59 = .ok (.iload_n 3, 1) := by decide +kernel
theorem dX5_quotasRight_60 : decode cX5_quotasRight 60 = .ok (.aload_n 0, 1) := by decide +kernel
theorem dX5_quotasRight_61 : decode cX5_quotasRight 61 = .ok (.getfield 19, 3) := by decide +kernel
theorem dX5_quotasRight_64 : decode cX5_quotasRight 64 = .ok (.bipush 7, 2) := by decide +kernel
theorem dX5_quotasRight_66 : decode cX5_quotasRight 66 = .ok (.iload 4, 2) := by decide +kernel
theorem dX5_quotasRight_68 : decode cX5_quotasRight 68 = .ok (.imul, 1) := by decide +kernel
theorem dX5_quotasRight_69 : decode cX5_quotasRight 69 = .ok (.iconst 3, 1) := by decide +kernel
theorem dX5_quotasRight_70 : decode cX5_quotasRight 70 = .ok (.iadd, 1) := by decide +kernel
theorem dX5_quotasRight_71 : decode cX5_quotasRight 71 = .ok (.iload 5, 2) := by decide +kernel
theorem dX5_quotasRight_73 : decode cX5_quotasRight 73 = .ok (.iadd, 1) := by decide +kernel
theorem dX5_quotasRight_74 : decode cX5_quotasRight 74 = .ok (.iaload, 1) := by decide +kernel
theorem dX5_quotasRight_75 : decode cX5_quotasRight 75 = .ok (.invokestatic 67, 3) := by decide +kernel
theorem dX5_quotasRight_78 : decode cX5_quotasRight 78 = .ok (.iadd, 1) := by decide +kernel
theorem dX5_quotasRight_79 : decode cX5_quotasRight 79 = .ok (.goto 4, 3) := by decide +kernel
theorem dX5_quotasRight_82 : decode cX5_quotasRight 82 = .ok (.iload_n 3, 1) := by decide +kernel
theorem dX5_quotasRight_83 : decode cX5_quotasRight 83 = .ok (.istore_n 3, 1) := by decide +kernel
theorem dX5_quotasRight_84 : decode cX5_quotasRight 84 = .ok (.iinc 5 1, 3) := by decide +kernel
theorem dX5_quotasRight_87 : decode cX5_quotasRight 87 = .ok (.goto (-63), 3) := by decide +kernel
theorem dX5_quotasRight_90 : decode cX5_quotasRight 90 = .ok (.iinc 4 1, 3) := by decide +kernel
theorem dX5_quotasRight_93 : decode cX5_quotasRight 93 = .ok (.goto (-79), 3) := by decide +kernel
theorem dX5_quotasRight_96 : decode cX5_quotasRight 96 = .ok (.iload_n 1, 1) := by decide +kernel
theorem dX5_quotasRight_97 : decode cX5_quotasRight 97 = .ok (.ifCond .eq 25, 3) := by decide +kernel
theorem dX5_quotasRight_100 : decode cX5_quotasRight 100 = .ok (.aload_n 0, 1) := by decide +kernel
theorem dX5_quotasRight_101 : decode cX5_quotasRight 101 = .ok (.getfield 19, 3) := by decide +kernel
theorem dX5_quotasRight_104 : decode cX5_quotasRight 104 = .ok (.bipush 42, 2) := by decide +kernel
theorem dX5_quotasRight_106 : decode cX5_quotasRight 106 = .ok (.iload_n 2, 1) := by decide +kernel
theorem dX5_quotasRight_107 : decode cX5_quotasRight 107 = .ok (.iadd, 1) := by decide +kernel
theorem dX5_quotasRight_108 : decode cX5_quotasRight 108 = .ok (.iaload, 1) := by decide +kernel
theorem dX5_quotasRight_109 : decode cX5_quotasRight 109 = .ok (.iload_n 3, 1) := by decide +kernel
theorem dX5_quotasRight_110 : decode cX5_quotasRight 110 = .ok (.bipush 32, 2) := by decide +kernel
theorem dX5_quotasRight_112 : decode cX5_quotasRight 112 = .ok (.invokestatic 38, 3) := by decide +kernel
theorem dX5_quotasRight_115 : decode cX5_quotasRight 115 = .ok (.ifCond .eq 7, 3) := by decide +kernel
theorem dX5_quotasRight_118 : decode cX5_quotasRight 118 = .ok (.iconst 1, 1) := by decide +kernel
theorem dX5_quotasRight_119 : decode cX5_quotasRight 119 = .ok (.goto 4, 3) := by decide +kernel
theorem dX5_quotasRight_122 : decode cX5_quotasRight 122 = .ok (.iconst 0, 1) := by decide +kernel
theorem dX5_quotasRight_123 : decode cX5_quotasRight 123 = .ok (.istore_n 1, 1) := by decide +kernel
theorem dX5_quotasRight_124 : decode cX5_quotasRight 124 = .ok (.iinc 2 1, 3) := by decide +kernel
theorem dX5_quotasRight_127 : decode cX5_quotasRight 127 = .ok (.goto (-123), 3) := by decide +kernel
theorem dX5_quotasRight_130 : decode cX5_quotasRight 130 = .ok (.iload_n 1, 1) := by decide +kernel
theorem dX5_quotasRight_131 : decode cX5_quotasRight 131 = .ok (.ireturn, 1) := by decide +kernel
set_option maxRecDepth 20000 in
theorem ggX5_wordsRight_X5_size : GoodIn wsX5_wordsRight wsX5_size := goodIn_r _ [6, 7, 8, 5, 9] (by decide +kernel) (by decide +kernel)
set_option maxRecDepth 20000 in
theorem gX5_wordsRight_X5_size : GoodIn wsX5_wordsRight (va_wsS RX5 67 yX5_size wsX5_size) := goodIn_app (goodIn_of _ (by decide +kernel)) ggX5_wordsRight_X5_size
set_option maxRecDepth 20000 in
theorem ggX5_wordsRight_X5_start : GoodIn wsX5_wordsRight wsX5_start := goodIn_r _ [12] (by decide +kernel) (by decide +kernel)
set_option maxRecDepth 20000 in
theorem gX5_wordsRight_X5_start : GoodIn wsX5_wordsRight (va_wsS RX5 54 yX5_start wsX5_start) := goodIn_app (goodIn_of _ (by decide +kernel)) ggX5_wordsRight_X5_start
theorem dX5_wordsRight_0 : decode cX5_wordsRight 0 = .ok (.iconst 0, 1) := by decide +kernel
theorem dX5_wordsRight_1 : decode cX5_wordsRight 1 = .ok (.istore_n 1, 1) := by decide +kernel
theorem dX5_wordsRight_2 : decode cX5_wordsRight 2 = .ok (.iload_n 1, 1) := by decide +kernel
theorem dX5_wordsRight_3 : decode cX5_wordsRight 3 = .ok (.bipush 64, 2) := by decide +kernel
theorem dX5_wordsRight_5 : decode cX5_wordsRight 5 = .ok (.if_icmp .ge 16, 3) := by decide +kernel
theorem dX5_wordsRight_8 : decode cX5_wordsRight 8 = .ok (.aload_n 0, 1) := by decide +kernel
theorem dX5_wordsRight_9 : decode cX5_wordsRight 9 = .ok (.getfield 25, 3) := by decide +kernel
theorem dX5_wordsRight_12 : decode cX5_wordsRight 12 = .ok (.iload_n 1, 1) := by decide +kernel
theorem dX5_wordsRight_13 : decode cX5_wordsRight 13 = .ok (.iconst 0, 1) := by decide +kernel
theorem dX5_wordsRight_14 : decode cX5_wordsRight 14 = .ok (.bastore, 1) := by decide +kernel
theorem dX5_wordsRight_15 : decode cX5_wordsRight 15 = .ok (.iinc 1 1, 3) := by decide +kernel
theorem dX5_wordsRight_18 : decode cX5_wordsRight 18 = .ok (.goto (-16), 3) := by decide +kernel
theorem dX5_wordsRight_21 : decode cX5_wordsRight 21 = .ok (.iconst 0, 1) := by decide +kernel
theorem dX5_wordsRight_22 : decode cX5_wordsRight 22 = .ok (.istore_n 1, 1) := by decide +kernel
theorem dX5_wordsRight_23 : decode cX5_wordsRight 23 = .ok (.iload_n 1, 1) := by decide +kernel
theorem dX5_wordsRight_24 : decode cX5_wordsRight 24 = .ok (.bipush 6, 2) := by decide +kernel
theorem dX5_wordsRight_26 : decode cX5_wordsRight 26 = .ok (.if_icmp .ge 93, 3) := by decide +kernel
theorem dX5_wordsRight_29 : decode cX5_wordsRight 29 = .ok (.aload_n 0, 1) := by decide +kernel
theorem dX5_wordsRight_30 : decode cX5_wordsRight 30 = .ok (.getfield 19, 3) := by decide +kernel
theorem dX5_wordsRight_33 : decode cX5_wordsRight 33 = .ok (.bipush 7, 2) := by decide +kernel
theorem dX5_wordsRight_35 : decode cX5_wordsRight 35 = .ok (.iload_n 1, 1) := by decide +kernel
theorem dX5_wordsRight_36 : decode cX5_wordsRight 36 = .ok (.imul, 1) := by decide +kernel
theorem dX5_wordsRight_37 : decode cX5_wordsRight 37 = .ok (.iconst 2, 1) := by decide +kernel
theorem dX5_wordsRight_38 : decode cX5_wordsRight 38 = .ok (.iadd, 1) := by decide +kernel
theorem dX5_wordsRight_39 : decode cX5_wordsRight 39 = .ok (.iaload, 1) := by decide +kernel
theorem dX5_wordsRight_40 : decode cX5_wordsRight 40 = .ok (.istore_n 2, 1) := by decide +kernel
theorem dX5_wordsRight_41 : decode cX5_wordsRight 41 = .ok (.iconst 0, 1) := by decide +kernel
theorem dX5_wordsRight_42 : decode cX5_wordsRight 42 = .ok (.istore_n 3, 1) := by decide +kernel
theorem dX5_wordsRight_43 : decode cX5_wordsRight 43 = .ok (.iload_n 3, 1) := by decide +kernel
theorem dX5_wordsRight_44 : decode cX5_wordsRight 44 = .ok (.iconst 4, 1) := by decide +kernel
theorem dX5_wordsRight_45 : decode cX5_wordsRight 45 = .ok (.if_icmp .ge 68, 3) := by decide +kernel
theorem dX5_wordsRight_48 : decode cX5_wordsRight 48 = .ok (.aload_n 0, 1) := by decide +kernel
theorem dX5_wordsRight_49 : decode cX5_wordsRight 49 = .ok (.getfield 19, 3) := by decide +kernel
theorem dX5_wordsRight_52 : decode cX5_wordsRight 52 = .ok (.bipush 7, 2) := by decide +kernel
theorem dX5_wordsRight_54 : decode cX5_wordsRight 54 = .ok (.iload_n 1, 1) := by decide +kernel
theorem dX5_wordsRight_55 : decode cX5_wordsRight 55 = .ok (.imul, 1) := by decide +kernel
theorem dX5_wordsRight_56 : decode cX5_wordsRight 56 = .ok (.iconst 3, 1) := by decide +kernel
theorem dX5_wordsRight_57 : decode cX5_wordsRight 57 = .ok (.iadd, 1) := by decide +kernel
theorem dX5_wordsRight_58 : decode cX5_wordsRight 58 = .ok (.iload_n 3, 1) := by decide +kernel
theorem dX5_wordsRight_59 : decode cX5_wordsRight 59 = .ok (.iadd, 1) := by decide +kernel
theorem dX5_wordsRight_60 : decode cX5_wordsRight 60 = .ok (.iaload, 1) := by decide +kernel
theorem dX5_wordsRight_61 : decode cX5_wordsRight 61 = .ok (.istore 4, 2) := by decide +kernel
theorem dX5_wordsRight_63 : decode cX5_wordsRight 63 = .ok (.iconst 0, 1) := by decide +kernel
theorem dX5_wordsRight_64 : decode cX5_wordsRight 64 = .ok (.istore 5, 2) := by decide +kernel
theorem dX5_wordsRight_66 : decode cX5_wordsRight 66 = .ok (.iload 5, 2) := by decide +kernel
theorem dX5_wordsRight_68 : decode cX5_wordsRight 68 = .ok (.iconst 2, 1) := by decide +kernel
theorem dX5_wordsRight_69 : decode cX5_wordsRight 69 = .ok (.iload 4, 2) := by decide +kernel
theorem dX5_wordsRight_71 : decode cX5_wordsRight 71 = .ok (.invokestatic 67, 3) := by decide +kernel
theorem dX5_wordsRight_74 : decode cX5_wordsRight 74 = .ok (.imul, 1) := by decide +kernel
theorem dX5_wordsRight_75 : decode cX5_wordsRight 75 = .ok (.if_icmp .ge 32, 3) := by decide +kernel
theorem dX5_wordsRight_78 : decode cX5_wordsRight 78 = .ok (.iload_n 2, 1) := by decide +kernel
theorem dX5_wordsRight_79 : decode cX5_wordsRight 79 = .ok (.ifCond .le 28, 3) := by decide +kernel
theorem dX5_wordsRight_82 : decode cX5_wordsRight 82 = .ok (.aload_n 0, 1) := by decide +kernel
theorem dX5_wordsRight_83 : decode cX5_wordsRight 83 = .ok (.getfield 25, 3) := by decide +kernel
theorem dX5_wordsRight_86 : decode cX5_wordsRight 86 = .ok (.iconst 2, 1) := by decide +kernel
theorem dX5_wordsRight_87 : decode cX5_wordsRight 87 = .ok (.iload 4, 2) := by decide +kernel
theorem dX5_wordsRight_89 : decode cX5_wordsRight 89 = .ok (.invokestatic 54, 3) := by decide +kernel
theorem dX5_wordsRight_92 : decode cX5_wordsRight 92 = .ok (.imul, 1) := by decide +kernel
theorem dX5_wordsRight_93 : decode cX5_wordsRight 93 = .ok (.iload 5, 2) := by decide +kernel
theorem dX5_wordsRight_95 : decode cX5_wordsRight 95 = .ok (.iadd, 1) := by decide +kernel
theorem dX5_wordsRight_96 : decode cX5_wordsRight 96 = .ok (.iconst 1, 1) := by decide +kernel
theorem dX5_wordsRight_97 : decode cX5_wordsRight 97 = .ok (.bastore, 1) := by decide +kernel
theorem dX5_wordsRight_98 : decode cX5_wordsRight 98 = .ok (.iinc 2 (-1), 3) := by decide +kernel
theorem dX5_wordsRight_101 : decode cX5_wordsRight 101 = .ok (.iinc 5 1, 3) := by decide +kernel
theorem dX5_wordsRight_104 : decode cX5_wordsRight 104 = .ok (.goto (-38), 3) := by decide +kernel
theorem dX5_wordsRight_107 : decode cX5_wordsRight 107 = .ok (.iinc 3 1, 3) := by decide +kernel
theorem dX5_wordsRight_110 : decode cX5_wordsRight 110 = .ok (.goto (-67), 3) := by decide +kernel
theorem dX5_wordsRight_113 : decode cX5_wordsRight 113 = .ok (.iinc 1 1, 3) := by decide +kernel
theorem dX5_wordsRight_116 : decode cX5_wordsRight 116 = .ok (.goto (-93), 3) := by decide +kernel
theorem dX5_wordsRight_119 : decode cX5_wordsRight 119 = .ok (.iconst 1, 1) := by decide +kernel
theorem dX5_wordsRight_120 : decode cX5_wordsRight 120 = .ok (.istore_n 1, 1) := by decide +kernel
theorem dX5_wordsRight_121 : decode cX5_wordsRight 121 = .ok (.iconst 0, 1) := by decide +kernel
theorem dX5_wordsRight_122 : decode cX5_wordsRight 122 = .ok (.istore_n 2, 1) := by decide +kernel
theorem dX5_wordsRight_123 : decode cX5_wordsRight 123 = .ok (.iload_n 2, 1) := by decide +kernel
theorem dX5_wordsRight_124 : decode cX5_wordsRight 124 = .ok (.bipush 64, 2) := by decide +kernel
theorem dX5_wordsRight_126 : decode cX5_wordsRight 126 = .ok (.if_icmp .ge 40, 3) := by decide +kernel
theorem dX5_wordsRight_129 : decode cX5_wordsRight 129 = .ok (.iload_n 1, 1) := by decide +kernel
theorem dX5_wordsRight_130 : decode cX5_wordsRight 130 = .ok (.ifCond .eq 28, 3) := by decide +kernel
theorem dX5_wordsRight_133 : decode cX5_wordsRight 133 = .ok (.aload_n 0, 1) := by decide +kernel
theorem dX5_wordsRight_134 : decode cX5_wordsRight 134 = .ok (.getfield 25, 3) := by decide +kernel
theorem dX5_wordsRight_137 : decode cX5_wordsRight 137 = .ok (.iload_n 2, 1) := by decide +kernel
theorem dX5_wordsRight_138 : decode cX5_wordsRight 138 = .ok (.baload, 1) := by decide +kernel
theorem dX5_wordsRight_139 : decode cX5_wordsRight 139 = .ok (.ifCond .ne 15, 3) := by decide +kernel
theorem dX5_wordsRight_142 : decode cX5_wordsRight 142 = .ok (.aload_n 0, 1) := by decide +kernel
theorem dX5_wordsRight_143 : decode cX5_wordsRight 143 = .ok (.getfield 19, 3) := by decide +kernel
theorem dX5_wordsRight_146 : decode cX5_wordsRight 146 = .ok (.bipush 46, 2) := by decide +kernel
theorem dX5_wordsRight_148 : decode cX5_wordsRight 148 = .ok (.iload_n 2, 1) := by decide +kernel
theorem dX5_wordsRight_149 : decode cX5_wordsRight 149 = .ok (.iadd, 1) := by decide +kernel
theorem dX5_wordsRight_150 : decode cX5_wordsRight 150 = .ok (.iaload, 1) := by decide +kernel
theorem dX5_wordsRight_151 : decode cX5_wordsRight 151 = .ok (.ifCond .ne 7, 3) := by decide +kernel
theorem dX5_wordsRight_154 : decode cX5_wordsRight 154 = .ok (.iconst 1, 1) := by decide +kernel
theorem dX5_wordsRight_155 : decode cX5_wordsRight 155 = .ok (.goto 4, 3) := by decide +kernel
theorem dX5_wordsRight_158 : decode cX5_wordsRight 158 = .ok (.iconst 0, 1) := by decide +kernel
theorem dX5_wordsRight_159 : decode cX5_wordsRight 159 = .ok (.istore_n 1, 1) := by decide +kernel
theorem dX5_wordsRight_160 : decode cX5_wordsRight 160 = .ok (.iinc 2 1, 3) := by decide +kernel
theorem dX5_wordsRight_163 : decode cX5_wordsRight 163 = .ok (.goto (-40), 3) := by decide +kernel
theorem dX5_wordsRight_166 : decode cX5_wordsRight 166 = .ok (.iload_n 1, 1) := by decide +kernel
theorem dX5_wordsRight_167 : decode cX5_wordsRight 167 = .ok (.ireturn, 1) := by decide +kernel
set_option maxRecDepth 20000 in
theorem ggX5_judge_X5_fetch : GoodIn wsX5_judge wsX5_fetch := goodIn_r _ [5, 6, 7, 8, 9, 10, 4, 11, 12, 13, 14, 61, 62, 63, 64, 65, 66, 67, 68, 69, 70, 71, 72] (by decide +kernel) (by decide +kernel)
set_option maxRecDepth 20000 in
theorem gX5_judge_X5_fetch : GoodIn wsX5_judge (wsV RX5 135 RX5 yX5_fetch wsX5_fetch) := goodIn_app (goodIn_of _ (by decide +kernel)) ggX5_judge_X5_fetch
set_option maxRecDepth 20000 in
theorem ggX5_judge_X5_slotsRight : GoodIn wsX5_judge wsX5_slotsRight := goodIn_r _ [18, 6, 12, 13, 4, 14, 61, 62, 63, 64, 65, 66, 67, 68, 69, 70, 71, 72] (by decide +kernel) (by decide +kernel)
set_option maxRecDepth 20000 in
theorem gX5_judge_X5_slotsRight : GoodIn wsX5_judge (wsV RX5 138 RX5 yX5_slotsRight wsX5_slotsRight) := goodIn_app (goodIn_of _ (by decide +kernel)) ggX5_judge_X5_slotsRight
set_option maxRecDepth 20000 in
theorem ggX5_judge_X5_namesRight : GoodIn wsX5_judge wsX5_namesRight := goodIn_r _ [22, 6, 61, 62, 63, 64, 65, 66, 67, 68, 69, 70, 71, 72] (by decide +kernel) (by decide +kernel)
set_option maxRecDepth 20000 in
theorem gX5_judge_X5_namesRight : GoodIn wsX5_judge (wsV RX5 141 RX5 yX5_namesRight wsX5_namesRight) := goodIn_app (goodIn_of _ (by decide +kernel)) ggX5_judge_X5_namesRight
set_option maxRecDepth 20000 in
theorem ggX5_judge_X5_extentsRight : GoodIn wsX5_judge wsX5_extentsRight := goodIn_r _ [26, 6, 27, 28, 4, 29, 12, 13, 14, 30, 31, 32, 33, 34, 35, 61, 62, 63, 64, 65, 66, 67, 68, 69, 70, 71, 72] (by decide +kernel) (by decide +kernel)
set_option maxRecDepth 20000 in
theorem gX5_judge_X5_extentsRight : GoodIn wsX5_judge (wsV RX5 144 RX5 yX5_extentsRight wsX5_extentsRight) := goodIn_app (goodIn_of _ (by decide +kernel)) ggX5_judge_X5_extentsRight
set_option maxRecDepth 20000 in
theorem ggX5_judge_X5_blocksRight : GoodIn wsX5_judge wsX5_blocksRight := goodIn_r _ [39, 40, 6, 30, 31, 4, 32, 41, 42, 43, 33, 34, 35, 61, 62, 63, 64, 65, 66, 67, 68, 69, 70, 71, 72] (by decide +kernel) (by decide +kernel)
set_option maxRecDepth 20000 in
theorem gX5_judge_X5_blocksRight : GoodIn wsX5_judge (wsV RX5 147 RX5 yX5_blocksRight wsX5_blocksRight) := goodIn_app (goodIn_of _ (by decide +kernel)) ggX5_judge_X5_blocksRight
set_option maxRecDepth 20000 in
theorem ggX5_judge_X5_needsRight : GoodIn wsX5_judge wsX5_needsRight := goodIn_r _ [47, 6, 41, 42, 4, 43, 33, 34, 35, 61, 62, 63, 64, 65, 66, 67, 68, 69, 70, 71, 72] (by decide +kernel) (by decide +kernel)
set_option maxRecDepth 20000 in
theorem gX5_judge_X5_needsRight : GoodIn wsX5_judge (wsV RX5 150 RX5 yX5_needsRight wsX5_needsRight) := goodIn_app (goodIn_of _ (by decide +kernel)) ggX5_judge_X5_needsRight
set_option maxRecDepth 20000 in
theorem ggX5_judge_X5_mapRight : GoodIn wsX5_judge wsX5_mapRight := goodIn_r _ [51, 40, 6, 61, 62, 63, 64, 65, 66, 67, 68, 69, 70, 71, 72] (by decide +kernel) (by decide +kernel)
set_option maxRecDepth 20000 in
theorem gX5_judge_X5_mapRight : GoodIn wsX5_judge (wsV RX5 153 RX5 yX5_mapRight wsX5_mapRight) := goodIn_app (goodIn_of _ (by decide +kernel)) ggX5_judge_X5_mapRight
set_option maxRecDepth 20000 in
theorem ggX5_judge_X5_quotasRight : GoodIn wsX5_judge wsX5_quotasRight := goodIn_r _ [55, 6, 41, 42, 4, 43, 33, 34, 35, 12, 13, 14, 61, 62, 63, 64, 65, 66, 67, 68, 69, 70, 71, 72] (by decide +kernel) (by decide +kernel)
set_option maxRecDepth 20000 in
theorem gX5_judge_X5_quotasRight : GoodIn wsX5_judge (wsV RX5 156 RX5 yX5_quotasRight wsX5_quotasRight) := goodIn_app (goodIn_of _ (by decide +kernel)) ggX5_judge_X5_quotasRight
set_option maxRecDepth 20000 in
theorem ggX5_judge_X5_wordsRight : GoodIn wsX5_judge wsX5_wordsRight := goodIn_r _ [59, 60, 6, 41, 42, 4, 43, 33, 34, 35, 30, 31, 32, 61, 62, 63, 64, 65, 66, 67, 68, 69, 70, 71, 72] (by decide +kernel) (by decide +kernel)
set_option maxRecDepth 20000 in
theorem gX5_judge_X5_wordsRight : GoodIn wsX5_judge (wsV RX5 159 RX5 yX5_wordsRight wsX5_wordsRight) := goodIn_app (goodIn_of _ (by decide +kernel)) ggX5_judge_X5_wordsRight
theorem dX5_judge_0 : decode cX5_judge 0 = .ok (.aload_n 0, 1) := by decide +kernel
theorem dX5_judge_1 : decode cX5_judge 1 = .ok (.invokevirtual 135, 3) := by decide +kernel
theorem dX5_judge_4 : decode cX5_judge 4 = .ok (.aload_n 0, 1) := by decide +kernel
theorem dX5_judge_5 : decode cX5_judge 5 = .ok (.invokevirtual 138, 3) := by decide +kernel
theorem dX5_judge_8 : decode cX5_judge 8 = .ok (.ifCond .ne 5, 3) := by decide +kernel
theorem dX5_judge_11 : decode cX5_judge 11 = .ok (.iconst 1, 1) := by decide +kernel
theorem dX5_judge_12 : decode cX5_judge 12 = .ok (.ireturn, 1) := by decide +kernel
theorem dX5_judge_13 : decode cX5_judge 13 = .ok (.aload_n 0, 1) := by decide +kernel
theorem dX5_judge_14 : decode cX5_judge 14 = .ok (.invokevirtual 141, 3) := by decide +kernel
theorem dX5_judge_17 : decode cX5_judge 17 = .ok (.ifCond .ne 5, 3) := by decide +kernel
theorem dX5_judge_20 : decode cX5_judge 20 = .ok (.iconst 2, 1) := by decide +kernel
theorem dX5_judge_21 : decode cX5_judge 21 = .ok (.ireturn, 1) := by decide +kernel
theorem dX5_judge_22 : decode cX5_judge 22 = .ok (.aload_n 0, 1) := by decide +kernel
theorem dX5_judge_23 : decode cX5_judge 23 = .ok (.invokevirtual 144, 3) := by decide +kernel
theorem dX5_judge_26 : decode cX5_judge 26 = .ok (.ifCond .ne 5, 3) := by decide +kernel
theorem dX5_judge_29 : decode cX5_judge 29 = .ok (.iconst 3, 1) := by decide +kernel
theorem dX5_judge_30 : decode cX5_judge 30 = .ok (.ireturn, 1) := by decide +kernel
theorem dX5_judge_31 : decode cX5_judge 31 = .ok (.aload_n 0, 1) := by decide +kernel
theorem dX5_judge_32 : decode cX5_judge 32 = .ok (.invokevirtual 147, 3) := by decide +kernel
theorem dX5_judge_35 : decode cX5_judge 35 = .ok (.ifCond .ne 5, 3) := by decide +kernel
theorem dX5_judge_38 : decode cX5_judge 38 = .ok (.iconst 4, 1) := by decide +kernel
theorem dX5_judge_39 : decode cX5_judge 39 = .ok (.ireturn, 1) := by decide +kernel
theorem dX5_judge_40 : decode cX5_judge 40 = .ok (.aload_n 0, 1) := by decide +kernel
theorem dX5_judge_41 : decode cX5_judge 41 = .ok (.invokevirtual 150, 3) := by decide +kernel
theorem dX5_judge_44 : decode cX5_judge 44 = .ok (.ifCond .ne 5, 3) := by decide +kernel
theorem dX5_judge_47 : decode cX5_judge 47 = .ok (.iconst 5, 1) := by decide +kernel
theorem dX5_judge_48 : decode cX5_judge 48 = .ok (.ireturn, 1) := by decide +kernel
theorem dX5_judge_49 : decode cX5_judge 49 = .ok (.aload_n 0, 1) := by decide +kernel
theorem dX5_judge_50 : decode cX5_judge 50 = .ok (.invokevirtual 153, 3) := by decide +kernel
theorem dX5_judge_53 : decode cX5_judge 53 = .ok (.ifCond .ne 8, 3) := by decide +kernel
theorem dX5_judge_56 : decode cX5_judge 56 = .ok (.bipush 6, 2) := by decide +kernel
theorem dX5_judge_58 : decode cX5_judge 58 = .ok (.goto 28, 3) := by decide +kernel
theorem dX5_judge_61 : decode cX5_judge 61 = .ok (.aload_n 0, 1) := by decide +kernel
theorem dX5_judge_62 : decode cX5_judge 62 = .ok (.invokevirtual 156, 3) := by decide +kernel
theorem dX5_judge_65 : decode cX5_judge 65 = .ok (.ifCond .ne 8, 3) := by decide +kernel
theorem dX5_judge_68 : decode cX5_judge 68 = .ok (.bipush 7, 2) := by decide +kernel
theorem dX5_judge_70 : decode cX5_judge 70 = .ok (.goto 16, 3) := by decide +kernel
theorem dX5_judge_73 : decode cX5_judge 73 = .ok (.aload_n 0, 1) := by decide +kernel
theorem dX5_judge_74 : decode cX5_judge 74 = .ok (.invokevirtual 159, 3) := by decide +kernel
theorem dX5_judge_77 : decode cX5_judge 77 = .ok (.ifCond .ne 8, 3) := by decide +kernel
theorem dX5_judge_80 : decode cX5_judge 80 = .ok (.bipush 8, 2) := by decide +kernel
theorem dX5_judge_82 : decode cX5_judge 82 = .ok (.goto 4, 3) := by decide +kernel
theorem dX5_judge_85 : decode cX5_judge 85 = .ok (.iconst 0, 1) := by decide +kernel
theorem dX5_judge_86 : decode cX5_judge 86 = .ok (.ireturn, 1) := by decide +kernel
set_option maxRecDepth 20000 in
theorem ggX5_mount_X5_judge : GoodIn wsX5_mount wsX5_judge := goodIn_r _ [9, 10, 11, 12, 8, 13, 3, 2, 14, 15, 16, 17, 18, 19, 20, 21, 22, 23, 24, 25, 26, 27, 28, 29, 30, 31, 32, 33, 34, 35, 36, 37, 38, 39, 40, 41, 42, 43, 44, 45, 46, 47, 48, 49, 50, 51, 52, 53, 54, 55, 56, 57, 58, 59, 60, 61, 62, 63, 64, 65, 66, 67, 68, 69, 70, 71, 72, 73, 74, 75, 76, 77, 78] (by decide +kernel) (by decide +kernel)
set_option maxRecDepth 20000 in
theorem gX5_mount_X5_judge : GoodIn wsX5_mount (wsV RX5 162 RX5 yX5_judge wsX5_judge) := goodIn_app (goodIn_of _ (by decide +kernel)) ggX5_mount_X5_judge
set_option maxRecDepth 20000 in
theorem ggX5_mount_X5_holds : GoodIn wsX5_mount wsX5_holds := goodIn_r _ [17, 2, 18, 19, 8, 20, 67, 68, 69, 70, 71, 72, 73, 74, 75, 76, 77, 78] (by decide +kernel) (by decide +kernel)
set_option maxRecDepth 20000 in
theorem gX5_mount_X5_holds : GoodIn wsX5_mount (wsV RX5 128 RX5 yX5_holds wsX5_holds) := goodIn_app (goodIn_of _ (by decide +kernel)) ggX5_mount_X5_holds
theorem dX5_mount_0 : decode cX5_mount 0 = .ok (.aload_n 0, 1) := by decide +kernel
theorem dX5_mount_1 : decode cX5_mount 1 = .ok (.getfield 42, 3) := by decide +kernel
theorem dX5_mount_4 : decode cX5_mount 4 = .ok (.ifCond .eq 6, 3) := by decide +kernel
theorem dX5_mount_7 : decode cX5_mount 7 = .ok (.bipush (-4), 2) := by decide +kernel
theorem dX5_mount_9 : decode cX5_mount 9 = .ok (.ireturn, 1) := by decide +kernel
theorem dX5_mount_10 : decode cX5_mount 10 = .ok (.aload_n 0, 1) := by decide +kernel
theorem dX5_mount_11 : decode cX5_mount 11 = .ok (.invokevirtual 162, 3) := by decide +kernel
theorem dX5_mount_14 : decode cX5_mount 14 = .ok (.istore_n 1, 1) := by decide +kernel
theorem dX5_mount_15 : decode cX5_mount 15 = .ok (.aload_n 0, 1) := by decide +kernel
theorem dX5_mount_16 : decode cX5_mount 16 = .ok (.invokevirtual 128, 3) := by decide +kernel
theorem dX5_mount_19 : decode cX5_mount 19 = .ok (.ifCond .eq 37, 3) := by decide +kernel
theorem dX5_mount_22 : decode cX5_mount 22 = .ok (.iconst 0, 1) := by decide +kernel
theorem dX5_mount_23 : decode cX5_mount 23 = .ok (.istore_n 2, 1) := by decide +kernel
theorem dX5_mount_24 : decode cX5_mount 24 = .ok (.iload_n 2, 1) := by decide +kernel
theorem dX5_mount_25 : decode cX5_mount 25 = .ok (.bipush 110, 2) := by decide +kernel
theorem dX5_mount_27 : decode cX5_mount 27 = .ok (.if_icmp .ge 21, 3) := by decide +kernel
theorem dX5_mount_30 : decode cX5_mount 30 = .ok (.aload_n 0, 1) := by decide +kernel
theorem dX5_mount_31 : decode cX5_mount 31 = .ok (.getfield 7, 3) := by decide +kernel
theorem dX5_mount_34 : decode cX5_mount 34 = .ok (.iload_n 2, 1) := by decide +kernel
theorem dX5_mount_35 : decode cX5_mount 35 = .ok (.aload_n 0, 1) := by decide +kernel
theorem dX5_mount_36 : decode cX5_mount 36 = .ok (.getfield 19, 3) := by decide +kernel
theorem dX5_mount_39 : decode cX5_mount 39 = .ok (.iload_n 2, 1) := by decide +kernel
theorem dX5_mount_40 : decode cX5_mount 40 = .ok (.iaload, 1) := by decide +kernel
theorem dX5_mount_41 : decode cX5_mount 41 = .ok (.iastore, 1) := by decide +kernel
theorem dX5_mount_42 : decode cX5_mount 42 = .ok (.iinc 2 1, 3) := by decide +kernel
theorem dX5_mount_45 : decode cX5_mount 45 = .ok (.goto (-21), 3) := by decide +kernel
theorem dX5_mount_48 : decode cX5_mount 48 = .ok (.aload_n 0, 1) := by decide +kernel
theorem dX5_mount_49 : decode cX5_mount 49 = .ok (.getfield 7, 3) := by decide +kernel
theorem dX5_mount_52 : decode cX5_mount 52 = .ok (.bipush 110, 2) := by decide +kernel
theorem dX5_mount_54 : decode cX5_mount 54 = .ok (.iconst 0, 1) := by decide +kernel
theorem dX5_mount_55 : decode cX5_mount 55 = .ok (.iastore, 1) := by decide +kernel
theorem dX5_mount_56 : decode cX5_mount 56 = .ok (.iload_n 1, 1) := by decide +kernel
theorem dX5_mount_57 : decode cX5_mount 57 = .ok (.ifCond .le 6, 3) := by decide +kernel
theorem dX5_mount_60 : decode cX5_mount 60 = .ok (.bipush (-13), 2) := by decide +kernel
theorem dX5_mount_62 : decode cX5_mount 62 = .ok (.ireturn, 1) := by decide +kernel
theorem dX5_mount_63 : decode cX5_mount 63 = .ok (.iconst 0, 1) := by decide +kernel
theorem dX5_mount_64 : decode cX5_mount 64 = .ok (.istore_n 2, 1) := by decide +kernel
theorem dX5_mount_65 : decode cX5_mount 65 = .ok (.iload_n 2, 1) := by decide +kernel
theorem dX5_mount_66 : decode cX5_mount 66 = .ok (.bipush 110, 2) := by decide +kernel
theorem dX5_mount_68 : decode cX5_mount 68 = .ok (.if_icmp .ge 21, 3) := by decide +kernel
theorem dX5_mount_71 : decode cX5_mount 71 = .ok (.aload_n 0, 1) := by decide +kernel
theorem dX5_mount_72 : decode cX5_mount 72 = .ok (.getfield 13, 3) := by decide +kernel
theorem dX5_mount_75 : decode cX5_mount 75 = .ok (.iload_n 2, 1) := by decide +kernel
theorem dX5_mount_76 : decode cX5_mount 76 = .ok (.aload_n 0, 1) := by decide +kernel
theorem dX5_mount_77 : decode cX5_mount 77 = .ok (.getfield 19, 3) := by decide +kernel
theorem dX5_mount_80 : decode cX5_mount 80 = .ok (.iload_n 2, 1) := by decide +kernel
theorem dX5_mount_81 : decode cX5_mount 81 = .ok (.iaload, 1) := by decide +kernel
theorem dX5_mount_82 : decode cX5_mount 82 = .ok (.iastore, 1) := by decide +kernel
theorem dX5_mount_83 : decode cX5_mount 83 = .ok (.iinc 2 1, 3) := by decide +kernel
theorem dX5_mount_86 : decode cX5_mount 86 = .ok (.goto (-21), 3) := by decide +kernel
theorem dX5_mount_89 : decode cX5_mount 89 = .ok (.aload_n 0, 1) := by decide +kernel
theorem dX5_mount_90 : decode cX5_mount 90 = .ok (.iconst 1, 1) := by decide +kernel
theorem dX5_mount_91 : decode cX5_mount 91 = .ok (.putfield 42, 3) := by decide +kernel
theorem dX5_mount_94 : decode cX5_mount 94 = .ok (.iconst 0, 1) := by decide +kernel
theorem dX5_mount_95 : decode cX5_mount 95 = .ok (.ireturn, 1) := by decide +kernel
set_option maxRecDepth 20000 in
theorem ggX5_corrupt_X5_within : GoodIn wsX5_corrupt wsX5_within := goodIn_r _ [6] (by decide +kernel) (by decide +kernel)
set_option maxRecDepth 20000 in
theorem gX5_corrupt_X5_within : GoodIn wsX5_corrupt (va_wsS RX5 38 yX5_within wsX5_within) := goodIn_app (goodIn_of _ (by decide +kernel)) ggX5_corrupt_X5_within
theorem dX5_corrupt_0 : decode cX5_corrupt 0 = .ok (.aload_n 0, 1) := by decide +kernel
theorem dX5_corrupt_1 : decode cX5_corrupt 1 = .ok (.getfield 42, 3) := by decide +kernel
theorem dX5_corrupt_4 : decode cX5_corrupt 4 = .ok (.ifCond .ne 14, 3) := by decide +kernel
theorem dX5_corrupt_7 : decode cX5_corrupt 7 = .ok (.iload_n 1, 1) := by decide +kernel
theorem dX5_corrupt_8 : decode cX5_corrupt 8 = .ok (.iconst 0, 1) := by decide +kernel
theorem dX5_corrupt_9 : decode cX5_corrupt 9 = .ok (.sipush 331, 3) := by decide +kernel
theorem dX5_corrupt_12 : decode cX5_corrupt 12 = .ok (.invokestatic 38, 3) := by decide +kernel
theorem dX5_corrupt_15 : decode cX5_corrupt 15 = .ok (.ifCond .ne 5, 3) := by decide +kernel
theorem dX5_corrupt_18 : decode cX5_corrupt 18 = .ok (.iconst 0, 1) := by decide +kernel
theorem dX5_corrupt_19 : decode cX5_corrupt 19 = .ok (.ireturn, 1) := by decide +kernel
theorem dX5_corrupt_20 : decode cX5_corrupt 20 = .ok (.aload_n 0, 1) := by decide +kernel
theorem dX5_corrupt_21 : decode cX5_corrupt 21 = .ok (.getfield 7, 3) := by decide +kernel
theorem dX5_corrupt_24 : decode cX5_corrupt 24 = .ok (.iload_n 1, 1) := by decide +kernel
theorem dX5_corrupt_25 : decode cX5_corrupt 25 = .ok (.iload_n 2, 1) := by decide +kernel
theorem dX5_corrupt_26 : decode cX5_corrupt 26 = .ok (.iastore, 1) := by decide +kernel
theorem dX5_corrupt_27 : decode cX5_corrupt 27 = .ok (.iconst 1, 1) := by decide +kernel
theorem dX5_corrupt_28 : decode cX5_corrupt 28 = .ok (.ireturn, 1) := by decide +kernel
set_option maxRecDepth 20000 in
theorem ggX5_fsck_X5_judge : GoodIn wsX5_fsck wsX5_judge := goodIn_r _ [5, 6, 7, 8, 4, 9, 10, 11, 12, 13, 14, 15, 16, 17, 18, 19, 20, 21, 22, 23, 24, 25, 26, 27, 28, 29, 30, 31, 32, 33, 34, 35, 36, 37, 38, 39, 40, 41, 42, 43, 44, 45, 46, 47, 48, 49, 50, 51, 52, 53, 54, 55, 56, 57, 58, 59, 60, 61, 62, 63, 64, 65, 66, 67, 68, 69, 70, 71, 72, 73, 74, 75, 76] (by decide +kernel) (by decide +kernel)
set_option maxRecDepth 20000 in
theorem gX5_fsck_X5_judge : GoodIn wsX5_fsck (wsV RX5 162 RX5 yX5_judge wsX5_judge) := goodIn_app (goodIn_of _ (by decide +kernel)) ggX5_fsck_X5_judge
theorem dX5_fsck_0 : decode cX5_fsck 0 = .ok (.aload_n 0, 1) := by decide +kernel
theorem dX5_fsck_1 : decode cX5_fsck 1 = .ok (.invokevirtual 162, 3) := by decide +kernel
theorem dX5_fsck_4 : decode cX5_fsck 4 = .ok (.ireturn, 1) := by decide +kernel
set_option maxRecDepth 20000 in
theorem ggX5_peek_X5_within : GoodIn wsX5_peek wsX5_within := goodIn_r _ [5] (by decide +kernel) (by decide +kernel)
set_option maxRecDepth 20000 in
theorem gX5_peek_X5_within : GoodIn wsX5_peek (va_wsS RX5 38 yX5_within wsX5_within) := goodIn_app (goodIn_of _ (by decide +kernel)) ggX5_peek_X5_within
theorem dX5_peek_0 : decode cX5_peek 0 = .ok (.iload_n 1, 1) := by decide +kernel
theorem dX5_peek_1 : decode cX5_peek 1 = .ok (.iconst 0, 1) := by decide +kernel
theorem dX5_peek_2 : decode cX5_peek 2 = .ok (.sipush 331, 3) := by decide +kernel
theorem dX5_peek_5 : decode cX5_peek 5 = .ok (.invokestatic 38, 3) := by decide +kernel
theorem dX5_peek_8 : decode cX5_peek 8 = .ok (.ifCond .eq 12, 3) := by decide +kernel
theorem dX5_peek_11 : decode cX5_peek 11 = .ok (.aload_n 0, 1) := by decide +kernel
theorem dX5_peek_12 : decode cX5_peek 12 = .ok (.getfield 7, 3) := by decide +kernel
theorem dX5_peek_15 : decode cX5_peek 15 = .ok (.iload_n 1, 1) := by decide +kernel
theorem dX5_peek_16 : decode cX5_peek 16 = .ok (.iaload, 1) := by decide +kernel
theorem dX5_peek_17 : decode cX5_peek 17 = .ok (.goto 4, 3) := by decide +kernel
theorem dX5_peek_20 : decode cX5_peek 20 = .ok (.iconst 0, 1) := by decide +kernel
theorem dX5_peek_21 : decode cX5_peek 21 = .ok (.ireturn, 1) := by decide +kernel
