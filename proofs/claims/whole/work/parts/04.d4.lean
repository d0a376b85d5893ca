set_option maxRecDepth 20000 in
theorem ggX4_init_X1_init : GoodIn wsX4_init wsX1_init := goodIn_r _ [16, 17, 2, 3, 13, 18, 47] (by decide +kernel) (by decide +kernel)
set_option maxRecDepth 20000 in
theorem gX4_init_X1_init_n9 : GoodIn wsX4_init (wsX1_init) := ggX4_init_X1_init
set_option maxRecDepth 20000 in
theorem ggX4_init_X2_init : GoodIn wsX4_init wsX2_init := goodIn_r _ [20, 21, 2, 3, 13, 22, 54] (by decide +kernel) (by decide +kernel)
set_option maxRecDepth 20000 in
theorem gX4_init_X2_init_n18 : GoodIn wsX4_init (wsX2_init) := ggX4_init_X2_init
set_option maxRecDepth 20000 in
theorem ggX4_init_X4_startAfresh : GoodIn wsX4_init wsX4_startAfresh := goodIn_r _ [27, 7, 11, 28, 29, 30, 31, 6, 32, 18, 33, 34, 35, 10, 36, 22, 37, 38, 39, 40, 41, 42, 43, 26, 44, 14, 45, 46, 48, 49, 50, 51, 52, 53, 47, 54] (by decide +kernel) (by decide +kernel)
set_option maxRecDepth 20000 in
theorem gX4_init_X4_startAfresh : GoodIn wsX4_init (wsV RX4 30 RX4 yX4_startAfresh wsX4_startAfresh) := goodIn_app (goodIn_of _ (by decide +kernel)) ggX4_init_X4_startAfresh
theorem dX4_init_0 : decode cX4_init 0 = .ok (.aload_n 0, 1) := by decide +kernel
theorem dX4_init_1 : decode cX4_init 1 = .ok (.invokespecial 1, 3) := by decide +kernel
theorem dX4_init_4 : decode cX4_init 4 = .ok (.aload_n 0, 1) := by decide +kernel
theorem dX4_init_5 : decode cX4_init 5 = .ok (.new 7, 3) := by decide +kernel
theorem dX4_init_8 : decode cX4_init 8 = .ok (.dup, 1) := by decide +kernel
theorem dX4_init_9 : decode cX4_init 9 = .ok (.invokespecial 9, 3) := by decide +kernel
theorem dX4_init_12 : decode cX4_init 12 = .ok (.putfield 10, 3) := by decide +kernel
theorem dX4_init_15 : decode cX4_init 15 = .ok (.aload_n 0, 1) := by decide +kernel
theorem dX4_init_16 : decode cX4_init 16 = .ok (.new 16, 3) := by decide +kernel
theorem dX4_init_19 : decode cX4_init 19 = .ok (.dup, 1) := by decide +kernel
theorem dX4_init_20 : decode cX4_init 20 = .ok (.invokespecial 18, 3) := by decide +kernel
theorem dX4_init_23 : decode cX4_init 23 = .ok (.putfield 19, 3) := by decide +kernel
theorem dX4_init_26 : decode cX4_init 26 = .ok (.aload_n 0, 1) := by decide +kernel
theorem dX4_init_27 : decode cX4_init 27 = .ok (.new 16, 3) := by decide +kernel
theorem dX4_init_30 : decode cX4_init 30 = .ok (.dup, 1) := by decide +kernel
theorem dX4_init_31 : decode cX4_init 31 = .ok (.invokespecial 18, 3) := by decide +kernel
theorem dX4_init_34 : decode cX4_init 34 = .ok (.putfield 23, 3) := by decide +kernel
theorem dX4_init_37 : decode cX4_init 37 = .ok (.aload_n 0, 1) := by decide +kernel
theorem dX4_init_38 : decode cX4_init 38 = .ok (.iconst 4, 1) := by decide +kernel
theorem dX4_init_39 : decode cX4_init 39 = .ok (.newarray .int, 2) := by decide +kernel
theorem dX4_init_41 : decode cX4_init 41 = .ok (.putfield 26, 3) := by decide +kernel
theorem dX4_init_44 : decode cX4_init 44 = .ok (.aload_n 0, 1) := by decide +kernel
theorem dX4_init_45 : decode cX4_init 45 = .ok (.invokevirtual 30, 3) := by decide +kernel
theorem dX4_init_48 : decode cX4_init 48 = .ok (.return_, 1) := by decide +kernel
set_option maxRecDepth 20000 in
theorem ggX4_format_X4_startAfresh : GoodIn wsX4_format wsX4_startAfresh := goodIn_r _ [5, 6, 7, 8, 9, 10, 11, 12, 13, 14, 15, 16, 17, 18, 19, 20, 21, 22, 23, 24, 25, 26, 27, 4, 28, 29, 30, 31, 32, 33, 34, 35, 36, 37, 38, 39] (by decide +kernel) (by decide +kernel)
set_option maxRecDepth 20000 in
theorem gX4_format_X4_startAfresh : GoodIn wsX4_format (wsV RX4 30 RX4 yX4_startAfresh wsX4_startAfresh) := goodIn_app (goodIn_of _ (by decide +kernel)) ggX4_format_X4_startAfresh
theorem dX4_format_0 : decode cX4_format 0 = .ok (.aload_n 0, 1) := by decide +kernel
theorem dX4_format_1 : decode cX4_format 1 = .ok (.invokevirtual 30, 3) := by decide +kernel
theorem dX4_format_4 : decode cX4_format 4 = .ok (.return_, 1) := by decide +kernel
set_option maxRecDepth 20000 in
theorem ggX4_create_X4_isName : GoodIn wsX4_create wsX4_isName := goodIn_r _ [6] (by decide +kernel) (by decide +kernel)
set_option maxRecDepth 20000 in
theorem gX4_create_X4_isName : GoodIn wsX4_create (va_wsS RX4 37 yX4_isName wsX4_isName) := goodIn_app (goodIn_of _ (by decide +kernel)) ggX4_create_X4_isName
set_option maxRecDepth 20000 in
theorem ggX4_create_X4_isOwner : GoodIn wsX4_create wsX4_isOwner := goodIn_r _ [9] (by decide +kernel) (by decide +kernel)
set_option maxRecDepth 20000 in
theorem gX4_create_X4_isOwner : GoodIn wsX4_create (va_wsS RX4 41 yX4_isOwner wsX4_isOwner) := goodIn_app (goodIn_of _ (by decide +kernel)) ggX4_create_X4_isOwner
set_option maxRecDepth 20000 in
theorem ggX4_create_X2_slotOf : GoodIn wsX4_create wsX2_slotOf := goodIn_r _ [14, 15, 16, 17, 13, 18, 19, 34] (by decide +kernel) (by decide +kernel)
set_option maxRecDepth 20000 in
theorem gX4_create_X2_slotOf : GoodIn wsX4_create (wsV RX4 44 RX2 yX2_slotOf wsX2_slotOf) := goodIn_app (goodIn_of _ (by decide +kernel)) ggX4_create_X2_slotOf
set_option maxRecDepth 20000 in
theorem ggX4_create_X2_emptySlot : GoodIn wsX4_create wsX2_emptySlot := goodIn_r _ [23, 15, 16, 17, 13, 18, 19, 34] (by decide +kernel) (by decide +kernel)
set_option maxRecDepth 20000 in
theorem gX4_create_X2_emptySlot : GoodIn wsX4_create (wsV RX4 48 RX2 yX2_emptySlot wsX2_emptySlot) := goodIn_app (goodIn_of _ (by decide +kernel)) ggX4_create_X2_emptySlot
set_option maxRecDepth 20000 in
theorem ggX4_create_X2_makeFile : GoodIn wsX4_create wsX2_makeFile := goodIn_r _ [27, 19, 34] (by decide +kernel) (by decide +kernel)
set_option maxRecDepth 20000 in
theorem gX4_create_X2_makeFile : GoodIn wsX4_create (wsV RX4 52 RX2 yX2_makeFile wsX2_makeFile) := goodIn_app (goodIn_of _ (by decide +kernel)) ggX4_create_X2_makeFile
theorem dX4_create_0 : decode cX4_create 0 = .ok (.aload_n 0, 1) := by decide +kernel
theorem dX4_create_1 : decode cX4_create 1 = .ok (.getfield 33, 3) := by decide +kernel
theorem dX4_create_4 : decode cX4_create 4 = .ok (.ifCond .ne 6, 3) := by decide +kernel
theorem dX4_create_7 : decode cX4_create 7 = .ok (.bipush (-11), 2) := by decide +kernel
theorem dX4_create_9 : decode cX4_create 9 = .ok (.ireturn, 1) := by decide +kernel
theorem dX4_create_10 : decode cX4_create 10 = .ok (.iload_n 1, 1) := by decide +kernel
theorem dX4_create_11 : decode cX4_create 11 = .ok (.invokestatic 37, 3) := by decide +kernel
theorem dX4_create_14 : decode cX4_create 14 = .ok (.ifCond .eq 10, 3) := by decide +kernel
theorem dX4_create_17 : decode cX4_create 17 = .ok (.iload_n 2, 1) := by decide +kernel
theorem dX4_create_18 : decode cX4_create 18 = .ok (.invokestatic 41, 3) := by decide +kernel
theorem dX4_create_21 : decode cX4_create 21 = .ok (.ifCond .ne 6, 3) := by decide +kernel
theorem dX4_create_24 : decode cX4_create 24 = .ok (.bipush (-12), 2) := by decide +kernel
theorem dX4_create_26 : decode cX4_create 26 = .ok (.ireturn, 1) := by decide +kernel
theorem dX4_create_27 : decode cX4_create 27 = .ok (.aload_n 0, 1) := by decide +kernel
theorem dX4_create_28 : decode cX4_create 28 = .ok (.getfield 19, 3) := by decide +kernel
theorem dX4_create_31 : decode cX4_create 31 = .ok (.iload_n 1, 1) := by decide +kernel
theorem dX4_create_32 : decode cX4_create 32 = .ok (.invokevirtual 44, 3) := by decide +kernel
theorem dX4_create_35 : decode cX4_create 35 = .ok (.iconst (-1), 1) := by decide +kernel
theorem dX4_create_36 : decode cX4_create 36 = .ok (.if_icmp .eq 5, 3) := by decide +kernel
theorem dX4_create_39 : decode cX4_create 39 = .ok (.iconst (-1), 1) := by decide +kernel
theorem dX4_create_40 : decode cX4_create 40 = .ok (.ireturn, 1) := by decide +kernel
theorem dX4_create_41 : decode cX4_create 41 = .ok (.aload_n 0, 1) := by decide +kernel
theorem dX4_create_42 : decode cX4_create 42 = .ok (.getfield 19, 3) := by decide +kernel
theorem dX4_create_45 : decode cX4_create 45 = .ok (.invokevirtual 48, 3) := by decide +kernel
theorem dX4_create_48 : decode cX4_create 48 = .ok (.istore_n 3, 1) := by decide +kernel
theorem dX4_create_49 : decode cX4_create 49 = .ok (.iload_n 3, 1) := by decide +kernel
theorem dX4_create_50 : decode cX4_create 50 = .ok (.iconst (-1), 1) := by decide +kernel
theorem dX4_create_51 : decode cX4_create 51 = .ok (.if_icmp .ne 6, 3) := by decide +kernel
theorem dX4_create_54 : decode cX4_create 54 = .ok (.bipush (-2), 2) := by decide +kernel
theorem dX4_create_56 : decode cX4_create 56 = .ok (.ireturn, 1) := by decide +kernel
theorem dX4_create_57 : decode cX4_create 57 = .ok (.aload_n 0, 1) := by decide +kernel
theorem dX4_create_58 : decode cX4_create 58 = .ok (.getfield 19, 3) := by decide +kernel
theorem dX4_create_61 : decode cX4_create 61 = .ok (.iload_n 3, 1) := by decide +kernel
theorem dX4_create_62 : decode cX4_create 62 = .ok (.iload_n 1, 1) := by decide +kernel
theorem dX4_create_63 : decode cX4_create 63 = .ok (.iload_n 2, 1) := by decide +kernel
theorem dX4_create_64 : decode cX4_create 64 = .ok (.invokevirtual 52, 3) := by decide +kernel
theorem dX4_create_67 : decode cX4_create 67 = .ok (.iload_n 3, 1) := by decide +kernel
theorem dX4_create_68 : decode cX4_create 68 = .ok (.ireturn, 1) := by decide +kernel
set_option maxRecDepth 20000 in
theorem ggX4_unlink_X2_slotOf : GoodIn wsX4_unlink wsX2_slotOf := goodIn_r _ [7, 8, 9, 10, 6, 11, 12, 93] (by decide +kernel) (by decide +kernel)
set_option maxRecDepth 20000 in
theorem gX4_unlink_X2_slotOf : GoodIn wsX4_unlink (wsV RX4 44 RX2 yX2_slotOf wsX2_slotOf) := goodIn_app (goodIn_of _ (by decide +kernel)) ggX4_unlink_X2_slotOf
set_option maxRecDepth 20000 in
theorem ggX4_unlink_X4_isInUse : GoodIn wsX4_unlink wsX4_isInUse := goodIn_r _ [17, 18, 87, 88, 89, 90, 91, 92] (by decide +kernel) (by decide +kernel)
set_option maxRecDepth 20000 in
theorem gX4_unlink_X4_isInUse : GoodIn wsX4_unlink (wsV RX4 56 RX4 yX4_isInUse wsX4_isInUse) := goodIn_app (goodIn_of _ (by decide +kernel)) ggX4_unlink_X4_isInUse
set_option maxRecDepth 20000 in
theorem ggX4_unlink_X2_dropFile : GoodIn wsX4_unlink wsX2_dropFile := goodIn_r _ [22, 23, 24, 25, 6, 26, 27, 28, 29, 30, 12, 31, 32, 33, 34, 35, 36, 37, 38, 39, 40, 41, 42, 43, 44, 45, 46, 47, 48, 49, 50, 51, 52, 53, 54, 55, 56, 57, 58, 59, 60, 61, 62, 63, 64, 65, 66, 67, 68, 69, 70, 71, 72, 73, 74, 75, 76, 77, 78, 79, 80, 81, 82, 83, 84, 85, 86, 93] (by decide +kernel) (by decide +kernel)
set_option maxRecDepth 20000 in
theorem gX4_unlink_X2_dropFile : GoodIn wsX4_unlink (wsV RX4 59 RX2 yX2_dropFile wsX2_dropFile) := goodIn_app (goodIn_of _ (by decide +kernel)) ggX4_unlink_X2_dropFile
theorem dX4_unlink_0 : decode cX4_unlink 0 = .ok (.aload_n 0, 1) := by decide +kernel
theorem dX4_unlink_1 : decode cX4_unlink 1 = .ok (.getfield 33, 3) := by decide +kernel
theorem dX4_unlink_4 : decode cX4_unlink 4 = .ok (.ifCond .ne 6, 3) := by decide +kernel
theorem dX4_unlink_7 : decode cX4_unlink 7 = .ok (.bipush (-11), 2) := by decide +kernel
theorem dX4_unlink_9 : decode cX4_unlink 9 = .ok (.ireturn, 1) := by decide +kernel
theorem dX4_unlink_10 : decode cX4_unlink 10 = .ok (.aload_n 0, 1) := by decide +kernel
theorem dX4_unlink_11 : decode cX4_unlink 11 = .ok (.getfield 19, 3) := by decide +kernel
theorem dX4_unlink_14 : decode cX4_unlink 14 = .ok (.iload_n 1, 1) := by decide +kernel
theorem dX4_unlink_15 : decode cX4_unlink 15 = .ok (.invokevirtual 44, 3) := by decide +kernel
theorem dX4_unlink_18 : decode cX4_unlink 18 = .ok (.istore_n 2, 1) := by decide +kernel
theorem dX4_unlink_19 : decode cX4_unlink 19 = .ok (.iload_n 2, 1) := by decide +kernel
theorem dX4_unlink_20 : decode cX4_unlink 20 = .ok (.iconst (-1), 1) := by decide +kernel
theorem dX4_unlink_21 : decode cX4_unlink 21 = .ok (.if_icmp .ne 6, 3) := by decide +kernel
theorem dX4_unlink_24 : decode cX4_unlink 24 = .ok (.bipush (-3), 2) := by decide +kernel
theorem dX4_unlink_26 : decode cX4_unlink 26 = .ok (.ireturn, 1) := by decide +kernel
theorem dX4_unlink_27 : decode cX4_unlink 27 = .ok (.aload_n 0, 1) := by decide +kernel
theorem dX4_unlink_28 : decode cX4_unlink 28 = .ok (.iload_n 2, 1) := by decide +kernel
theorem dX4_unlink_29 : decode cX4_unlink 29 = .ok (.invokevirtual 56, 3) := by decide +kernel
theorem dX4_unlink_32 : decode cX4_unlink 32 = .ok (.ifCond .eq 6, 3) := by decide +kernel
theorem dX4_unlink_35 : decode cX4_unlink 35 = .ok (.bipush (-4), 2) := by decide +kernel
theorem dX4_unlink_37 : decode cX4_unlink 37 = .ok (.ireturn, 1) := by decide +kernel
theorem dX4_unlink_38 : decode cX4_unlink 38 = .ok (.aload_n 0, 1) := by decide +kernel
theorem dX4_unlink_39 : decode cX4_unlink 39 = .ok (.getfield 19, 3) := by decide +kernel
theorem dX4_unlink_42 : decode cX4_unlink 42 = .ok (.iload_n 2, 1) := by decide +kernel
theorem dX4_unlink_43 : decode cX4_unlink 43 = .ok (.invokevirtual 59, 3) := by decide +kernel
theorem dX4_unlink_46 : decode cX4_unlink 46 = .ok (.iconst 0, 1) := by decide +kernel
theorem dX4_unlink_47 : decode cX4_unlink 47 = .ok (.ireturn, 1) := by decide +kernel
set_option maxRecDepth 20000 in
theorem ggX4_open_X2_slotOf : GoodIn wsX4_open wsX2_slotOf := goodIn_r _ [8, 9, 10, 11, 7, 12, 13, 25] (by decide +kernel) (by decide +kernel)
set_option maxRecDepth 20000 in
theorem gX4_open_X2_slotOf : GoodIn wsX4_open (wsV RX4 44 RX2 yX2_slotOf wsX2_slotOf) := goodIn_app (goodIn_of _ (by decide +kernel)) ggX4_open_X2_slotOf
set_option maxRecDepth 20000 in
theorem ggX4_open_X4_closedHandle : GoodIn wsX4_open wsX4_closedHandle := goodIn_r _ [18, 3, 19, 20, 21, 22, 23, 24] (by decide +kernel) (by decide +kernel)
set_option maxRecDepth 20000 in
theorem gX4_open_X4_closedHandle : GoodIn wsX4_open (wsV RX4 63 RX4 yX4_closedHandle wsX4_closedHandle) := goodIn_app (goodIn_of _ (by decide +kernel)) ggX4_open_X4_closedHandle
theorem dX4_open_0 : decode cX4_open 0 = .ok (.aload_n 0, 1) := by decide +kernel
theorem dX4_open_1 : decode cX4_open 1 = .ok (.getfield 33, 3) := by decide +kernel
theorem dX4_open_4 : decode cX4_open 4 = .ok (.ifCond .ne 6, 3) := by decide +kernel
theorem dX4_open_7 : decode cX4_open 7 = .ok (.bipush (-11), 2) := by decide +kernel
theorem dX4_open_9 : decode cX4_open 9 = .ok (.ireturn, 1) := by decide +kernel
theorem dX4_open_10 : decode cX4_open 10 = .ok (.aload_n 0, 1) := by decide +kernel
theorem dX4_open_11 : decode cX4_open 11 = .ok (.getfield 19, 3) := by decide +kernel
theorem dX4_open_14 : decode cX4_open 14 = .ok (.iload_n 1, 1) := by decide +kernel
theorem dX4_open_15 : decode cX4_open 15 = .ok (.invokevirtual 44, 3) := by decide +kernel
theorem dX4_open_18 : decode cX4_open 18 = .ok (.istore_n 2, 1) := by decide +kernel
theorem dX4_open_19 : decode cX4_open 19 = .ok (.iload_n 2, 1) := by decide +kernel
theorem dX4_open_20 : decode cX4_open 20 = .ok (.iconst (-1), 1) := by decide +kernel
theorem dX4_open_21 : decode cX4_open 21 = .ok (.if_icmp .ne 6, 3) := by decide +kernel
theorem dX4_open_24 : decode cX4_open 24 = .ok (.bipush (-3), 2) := by decide +kernel
theorem dX4_open_26 : decode cX4_open 26 = .ok (.ireturn, 1) := by decide +kernel
theorem dX4_open_27 : decode cX4_open 27 = .ok (.aload_n 0, 1) := by decide +kernel
theorem dX4_open_28 : decode cX4_open 28 = .ok (.invokevirtual 63, 3) := by decide +kernel
theorem dX4_open_31 : decode cX4_open 31 = .ok (.istore_n 3, 1) := by decide +kernel
theorem dX4_open_32 : decode cX4_open 32 = .ok (.iload_n 3, 1) := by decide +kernel
theorem dX4_open_33 : decode cX4_open 33 = .ok (.iconst (-1), 1) := by decide +kernel
theorem dX4_open_34 : decode cX4_open 34 = .ok (.if_icmp .ne 6, 3) := by decide +kernel
theorem dX4_open_37 : decode cX4_open 37 = .ok (.bipush (-5), 2) := by decide +kernel
theorem dX4_open_39 : decode cX4_open 39 = .ok (.ireturn, 1) := by decide +kernel
theorem dX4_open_40 : decode cX4_open 40 = .ok (.aload_n 0, 1) := by decide +kernel
theorem dX4_open_41 : decode cX4_open 41 = .ok (.getfield 26, 3) := by decide +kernel
theorem dX4_open_44 : decode cX4_open 44 = .ok (.iload_n 3, 1) := by decide +kernel
theorem dX4_open_45 : decode cX4_open 45 = .ok (.iload_n 2, 1) := by decide +kernel
theorem dX4_open_46 : decode cX4_open 46 = .ok (.iastore, 1) := by decide +kernel
theorem dX4_open_47 : decode cX4_open 47 = .ok (.iload_n 3, 1) := by decide +kernel
theorem dX4_open_48 : decode cX4_open 48 = .ok (.ireturn, 1) := by decide +kernel
set_option maxRecDepth 20000 in
theorem ggX4_close_X4_isOpen : GoodIn wsX4_close wsX4_isOpen := goodIn_r _ [7, 2, 8, 9, 10, 11, 12, 13] (by decide +kernel) (by decide +kernel)
set_option maxRecDepth 20000 in
theorem gX4_close_X4_isOpen : GoodIn wsX4_close (wsV RX4 66 RX4 yX4_isOpen wsX4_isOpen) := goodIn_app (goodIn_of _ (by decide +kernel)) ggX4_close_X4_isOpen
theorem dX4_close_0 : decode cX4_close 0 = .ok (.aload_n 0, 1) := by decide +kernel
theorem dX4_close_1 : decode cX4_close 1 = .ok (.getfield 33, 3) := by decide +kernel
theorem dX4_close_4 : decode cX4_close 4 = .ok (.ifCond .ne 6, 3) := by decide +kernel
theorem dX4_close_7 : decode cX4_close 7 = .ok (.bipush (-11), 2) := by decide +kernel
theorem dX4_close_9 : decode cX4_close 9 = .ok (.ireturn, 1) := by decide +kernel
theorem dX4_close_10 : decode cX4_close 10 = .ok (.aload_n 0, 1) := by decide +kernel
theorem dX4_close_11 : decode cX4_close 11 = .ok (.iload_n 1, 1) := by decide +kernel
theorem dX4_close_12 : decode cX4_close 12 = .ok (.invokevirtual 66, 3) := by decide +kernel
theorem dX4_close_15 : decode cX4_close 15 = .ok (.ifCond .ne 6, 3) := by decide +kernel
theorem dX4_close_18 : decode cX4_close 18 = .ok (.bipush (-6), 2) := by decide +kernel
theorem dX4_close_20 : decode cX4_close 20 = .ok (.ireturn, 1) := by decide +kernel
theorem dX4_close_21 : decode cX4_close 21 = .ok (.aload_n 0, 1) := by decide +kernel
theorem dX4_close_22 : decode cX4_close 22 = .ok (.getfield 26, 3) := by decide +kernel
theorem dX4_close_25 : decode cX4_close 25 = .ok (.iload_n 1, 1) := by decide +kernel
theorem dX4_close_26 : decode cX4_close 26 = .ok (.iconst (-1), 1) := by decide +kernel
theorem dX4_close_27 : decode cX4_close 27 = .ok (.iastore, 1) := by decide +kernel
theorem dX4_close_28 : decode cX4_close 28 = .ok (.iconst 0, 1) := by decide +kernel
theorem dX4_close_29 : decode cX4_close 29 = .ok (.ireturn, 1) := by decide +kernel
set_option maxRecDepth 20000 in
theorem ggX4_write_X4_isOpen : GoodIn wsX4_write wsX4_isOpen := goodIn_r _ [8, 2, 97, 98, 99, 100, 101, 102] (by decide +kernel) (by decide +kernel)
set_option maxRecDepth 20000 in
theorem gX4_write_X4_isOpen : GoodIn wsX4_write (wsV RX4 66 RX4 yX4_isOpen wsX4_isOpen) := goodIn_app (goodIn_of _ (by decide +kernel)) ggX4_write_X4_isOpen
set_option maxRecDepth 20000 in
theorem ggX4_write_X2_lengthOf : GoodIn wsX4_write wsX2_lengthOf := goodIn_r _ [13, 14, 103] (by decide +kernel) (by decide +kernel)
set_option maxRecDepth 20000 in
theorem gX4_write_X2_lengthOf : GoodIn wsX4_write (wsV RX4 69 RX2 yX2_lengthOf wsX2_lengthOf) := goodIn_app (goodIn_of _ (by decide +kernel)) ggX4_write_X2_lengthOf
set_option maxRecDepth 20000 in
theorem ggX4_write_X2_grow : GoodIn wsX4_write wsX2_grow := goodIn_r _ [18, 14, 19, 20, 21, 12, 22, 23, 24, 25, 26, 27, 28, 29, 30, 31, 32, 33, 34, 35, 36, 37, 38, 39, 40, 41, 42, 43, 44, 45, 46, 47, 48, 49, 50, 51, 52, 53, 54, 55, 56, 57, 58, 59, 60, 61, 62, 63, 64, 65, 66, 67, 68, 69, 70, 71, 72, 73, 74, 75, 76, 77, 78, 79, 80, 81, 82, 83, 84, 85, 103] (by decide +kernel) (by decide +kernel)
set_option maxRecDepth 20000 in
theorem gX4_write_X2_grow : GoodIn wsX4_write (wsV RX4 72 RX2 yX2_grow wsX2_grow) := goodIn_app (goodIn_of _ (by decide +kernel)) ggX4_write_X2_grow
set_option maxRecDepth 20000 in
theorem ggX4_write_X2_putWord : GoodIn wsX4_write wsX2_putWord := goodIn_r _ [89, 14, 90, 91, 92, 12, 93, 23, 24, 25, 26, 38, 39, 40, 41, 42, 43, 44, 94, 95, 96, 103] (by decide +kernel) (by decide +kernel)
set_option maxRecDepth 20000 in
theorem gX4_write_X2_putWord : GoodIn wsX4_write (wsV RX4 76 RX2 yX2_putWord wsX2_putWord) := goodIn_app (goodIn_of _ (by decide +kernel)) ggX4_write_X2_putWord
theorem dX4_write_0 : decode cX4_write 0 = .ok (.aload_n 0, 1) := by decide +kernel
theorem dX4_write_1 : decode cX4_write 1 = .ok (.getfield 33, 3) := by decide +kernel
theorem dX4_write_4 : decode cX4_write 4 = .ok (.ifCond .ne 6, 3) := by decide +kernel
theorem dX4_write_7 : decode cX4_write 7 = .ok (.bipush (-11), 2) := by decide +kernel
theorem dX4_write_9 : decode cX4_write 9 = .ok (.ireturn, 1) := by decide +kernel
theorem dX4_write_10 : decode cX4_write 10 = .ok (.aload_n 0, 1) := by decide +kernel
theorem dX4_write_11 : decode cX4_write 11 = .ok (.iload_n 1, 1) := by decide +kernel
theorem dX4_write_12 : decode cX4_write 12 = .ok (.invokevirtual 66, 3) := by decide +kernel
theorem dX4_write_15 : decode cX4_write 15 = .ok (.ifCond .ne 6, 3) := by decide +kernel
theorem dX4_write_18 : decode cX4_write 18 = .ok (.bipush (-6), 2) := by decide +kernel
theorem dX4_write_20 : decode cX4_write 20 = .ok (.ireturn, 1) := by decide +kernel
theorem dX4_write_21 : decode cX4_write 21 = .ok (.iload_n 2, 1) := by decide +kernel
theorem dX4_write_22 : decode cX4_write 22 = .ok (.ifCond .lt 9, 3) := by decide +kernel
theorem dX4_write_25 : decode cX4_write 25 = .ok (.iload_n 2, 1) := by decide +kernel
theorem dX4_write_26 : decode cX4_write 26 = .ok (.bipush 64, 2) := by decide +kernel
theorem dX4_write_28 : decode cX4_write 28 = .ok (.if_icmp .lt 6, 3) := by decide +kernel
theorem dX4_write_31 : decode cX4_write 31 = .ok (.bipush (-7), 2) := by decide +kernel
theorem dX4_write_33 : decode cX4_write 33 = .ok (.ireturn, 1) := by decide +kernel
theorem dX4_write_34 : decode cX4_write 34 = .ok (.aload_n 0, 1) := by decide +kernel
theorem dX4_write_35 : decode cX4_write 35 = .ok (.getfield 26, 3) := by decide +kernel
theorem dX4_write_38 : decode cX4_write 38 = .ok (.iload_n 1, 1) := by decide +kernel
theorem dX4_write_39 : decode cX4_write 39 = .ok (.iaload, 1) := by decide +kernel
theorem dX4_write_40 : decode cX4_write 40 = .ok (.istore 4, 2) := by decide +kernel
theorem dX4_write_42 : decode cX4_write 42 = .ok (.iload_n 2, 1) := by decide +kernel
theorem dX4_write_43 : decode cX4_write 43 = .ok (.aload_n 0, 1) := by decide +kernel
theorem dX4_write_44 : decode cX4_write 44 = .ok (.getfield 19, 3) := by decide +kernel
theorem dX4_write_47 : decode cX4_write 47 = .ok (.iload 4, 2) := by decide +kernel
theorem dX4_write_49 : decode cX4_write 49 = .ok (.invokevirtual 69, 3) := by decide +kernel
theorem dX4_write_52 : decode cX4_write 52 = .ok (.if_icmp .lt 25, 3) := by decide +kernel
theorem dX4_write_55 : decode cX4_write 55 = .ok (.aload_n 0, 1) := by decide +kernel
theorem dX4_write_56 : decode cX4_write 56 = .ok (.getfield 19, 3) := by decide +kernel
theorem dX4_write_59 : decode cX4_write 59 = .ok (.iload 4, 2) := by decide +kernel
theorem dX4_write_61 : decode cX4_write 61 = .ok (.iload_n 2, 1) := by decide +kernel
theorem dX4_write_62 : decode cX4_write 62 = .ok (.iconst 1, 1) := by decide +kernel
theorem dX4_write_63 : decode cX4_write 63 = .ok (.iadd, 1) := by decide +kernel
theorem dX4_write_64 : decode cX4_write 64 = .ok (.invokevirtual 72, 3) := by decide +kernel
theorem dX4_write_67 : decode cX4_write 67 = .ok (.istore 5, 2) := by decide +kernel
theorem dX4_write_69 : decode cX4_write 69 = .ok (.iload 5, 2) := by decide +kernel
theorem dX4_write_71 : decode cX4_write 71 = .ok (.ifCond .eq 6, 3) := by decide +kernel
theorem dX4_write_74 : decode cX4_write 74 = .ok (.iload 5, 2) := by decide +kernel
theorem dX4_write_76 : decode cX4_write 76 = .ok (.ireturn, 1) := by decide +kernel
theorem dX4_write_77 : decode cX4_write 77 = .ok (.aload_n 0, 1) := by decide +kernel
theorem dX4_write_78 : decode cX4_write 78 = .ok (.getfield 19, 3) := by decide +kernel
theorem dX4_write_81 : decode cX4_write 81 = .ok (.iload 4, 2) := by decide +kernel
theorem dX4_write_83 : decode cX4_write 83 = .ok (.iload_n 2, 1) := by decide +kernel
theorem dX4_write_84 : decode cX4_write 84 = .ok (.iload_n 3, 1) := by decide +kernel
theorem dX4_write_85 : decode cX4_write 85 = .ok (.invokevirtual 76, 3) := by decide +kernel
theorem dX4_write_88 : decode cX4_write 88 = .ok (.iconst 0, 1) := by decide +kernel
theorem dX4_write_89 : decode cX4_write 89 = .ok (.ireturn, 1) := by decide +kernel
set_option maxRecDepth 20000 in
theorem ggX4_read_X4_isOpen : GoodIn wsX4_read wsX4_isOpen := goodIn_r _ [8, 2, 37, 38, 39, 40, 41, 42] (by decide +kernel) (by decide +kernel)
set_option maxRecDepth 20000 in
theorem gX4_read_X4_isOpen : GoodIn wsX4_read (wsV RX4 66 RX4 yX4_isOpen wsX4_isOpen) := goodIn_app (goodIn_of _ (by decide +kernel)) ggX4_read_X4_isOpen
set_option maxRecDepth 20000 in
theorem ggX4_read_X2_lengthOf : GoodIn wsX4_read wsX2_lengthOf := goodIn_r _ [13, 14, 43] (by decide +kernel) (by decide +kernel)
set_option maxRecDepth 20000 in
theorem gX4_read_X2_lengthOf : GoodIn wsX4_read (wsV RX4 69 RX2 yX2_lengthOf wsX2_lengthOf) := goodIn_app (goodIn_of _ (by decide +kernel)) ggX4_read_X2_lengthOf
set_option maxRecDepth 20000 in
theorem ggX4_read_X2_wordAt : GoodIn wsX4_read wsX2_wordAt := goodIn_r _ [18, 14, 19, 20, 21, 12, 22, 23, 24, 25, 26, 27, 28, 29, 30, 31, 32, 33, 34, 35, 36, 43] (by decide +kernel) (by decide +kernel)
set_option maxRecDepth 20000 in
theorem gX4_read_X2_wordAt : GoodIn wsX4_read (wsV RX4 79 RX2 yX2_wordAt wsX2_wordAt) := goodIn_app (goodIn_of _ (by decide +kernel)) ggX4_read_X2_wordAt
theorem dX4_read_0 : decode cX4_read 0 = .ok (.aload_n 0, 1) := by decide +kernel
theorem dX4_read_1 : decode cX4_read 1 = .ok (.getfield 33, 3) := by decide +kernel
theorem dX4_read_4 : decode cX4_read 4 = .ok (.ifCond .eq 11, 3) := by decide +kernel
theorem dX4_read_7 : decode cX4_read 7 = .ok (.aload_n 0, 1) := by decide +kernel
theorem dX4_read_8 : decode cX4_read 8 = .ok (.iload_n 1, 1) := by decide +kernel
theorem dX4_read_9 : decode cX4_read 9 = .ok (.invokevirtual 66, 3) := by decide +kernel
theorem dX4_read_12 : decode cX4_read 12 = .ok (.ifCond .ne 5, 3) := by decide +kernel
theorem dX4_read_15 : decode cX4_read 15 = .ok (.iconst 0, 1) := by decide +kernel
theorem dX4_read_16 : decode cX4_read 16 = .ok (.ireturn, 1) := by decide +kernel
theorem dX4_read_17 : decode cX4_read 17 = .ok (.aload_n 0, 1) := by decide +kernel
theorem dX4_read_18 : decode cX4_read 18 = .ok (.getfield 26, 3) := by decide +kernel
theorem dX4_read_21 : decode cX4_read 21 = .ok (.iload_n 1, 1) := by decide +kernel
theorem dX4_read_22 : decode cX4_read 22 = .ok (.iaload, 1) := by decide +kernel
theorem dX4_read_23 : decode cX4_read 23 = .ok (.istore_n 3, 1) := by decide +kernel
theorem dX4_read_24 : decode cX4_read 24 = .ok (.iload_n 2, 1) := by decide +kernel
theorem dX4_read_25 : decode cX4_read 25 = .ok (.ifCond .lt 15, 3) := by decide +kernel
theorem dX4_read_28 : decode cX4_read 28 = .ok (.iload_n 2, 1) := by decide +kernel
theorem dX4_read_29 : decode cX4_read 29 = .ok (.aload_n 0, 1) := by decide +kernel
theorem dX4_read_30 : decode cX4_read 30 = .ok (.getfield 19, 3) := by decide +kernel
theorem dX4_read_33 : decode cX4_read 33 = .ok (.iload_n 3, 1) := by decide +kernel
theorem dX4_read_34 : decode cX4_read 34 = .ok (.invokevirtual 69, 3) := by decide +kernel
theorem dX4_read_37 : decode cX4_read 37 = .ok (.if_icmp .lt 5, 3) := by decide +kernel
theorem dX4_read_40 : decode cX4_read 40 = .ok (.iconst 0, 1) := by decide +kernel
theorem dX4_read_41 : decode cX4_read 41 = .ok (.ireturn, 1) := by decide +kernel
theorem dX4_read_42 : decode cX4_read 42 = .ok (.aload_n 0, 1) := by decide +kernel
theorem dX4_read_43 : decode cX4_read 43 = .ok (.getfield 19, 3) := by decide +kernel
theorem dX4_read_46 : decode cX4_read 46 = .ok (.iload_n 3, 1) := by decide +kernel
theorem dX4_read_47 : decode cX4_read 47 = .ok (.iload_n 2, 1) := by decide +kernel
theorem dX4_read_48 : decode cX4_read 48 = .ok (.invokevirtual 79, 3) := by decide +kernel
theorem dX4_read_51 : decode cX4_read 51 = .ok (.ireturn, 1) := by decide +kernel
set_option maxRecDepth 20000 in
theorem ggX4_truncate_X4_isOpen : GoodIn wsX4_truncate wsX4_isOpen := goodIn_r _ [8, 2, 111, 112, 113, 114, 115, 116] (by decide +kernel) (by decide +kernel)
set_option maxRecDepth 20000 in
theorem gX4_truncate_X4_isOpen : GoodIn wsX4_truncate (wsV RX4 66 RX4 yX4_isOpen wsX4_isOpen) := goodIn_app (goodIn_of _ (by decide +kernel)) ggX4_truncate_X4_isOpen
set_option maxRecDepth 20000 in
theorem ggX4_truncate_X2_lengthOf : GoodIn wsX4_truncate wsX2_lengthOf := goodIn_r _ [13, 14, 117] (by decide +kernel) (by decide +kernel)
set_option maxRecDepth 20000 in
theorem gX4_truncate_X2_lengthOf : GoodIn wsX4_truncate (wsV RX4 69 RX2 yX2_lengthOf wsX2_lengthOf) := goodIn_app (goodIn_of _ (by decide +kernel)) ggX4_truncate_X2_lengthOf
set_option maxRecDepth 20000 in
theorem ggX4_truncate_X2_grow : GoodIn wsX4_truncate wsX2_grow := goodIn_r _ [18, 14, 19, 20, 21, 12, 22, 23, 24, 25, 26, 27, 28, 29, 30, 31, 32, 33, 34, 35, 36, 37, 38, 39, 40, 41, 42, 43, 44, 45, 46, 47, 48, 49, 50, 51, 52, 53, 54, 55, 56, 57, 58, 59, 60, 61, 62, 63, 64, 65, 66, 67, 68, 69, 70, 71, 72, 73, 74, 75, 76, 77, 78, 79, 80, 81, 82, 83, 84, 85, 117] (by decide +kernel) (by decide +kernel)
set_option maxRecDepth 20000 in
theorem gX4_truncate_X2_grow : GoodIn wsX4_truncate (wsV RX4 72 RX2 yX2_grow wsX2_grow) := goodIn_app (goodIn_of _ (by decide +kernel)) ggX4_truncate_X2_grow
set_option maxRecDepth 20000 in
theorem ggX4_truncate_X2_shrink : GoodIn wsX4_truncate wsX2_shrink := goodIn_r _ [89, 90, 10, 11, 12, 13, 14, 91, 92, 93, 94, 95, 96, 97, 98, 23, 24, 25, 26, 38, 39, 40, 41, 42, 43, 44, 99, 100, 101, 82, 83, 84, 85, 27, 28, 29, 102, 103, 104, 105, 34, 35, 36, 37, 19, 20, 21, 22, 106, 107, 108, 109, 110, 61, 62, 66, 67, 68, 69, 117] (by decide +kernel) (by decide +kernel)
set_option maxRecDepth 20000 in
theorem gX4_truncate_X2_shrink : GoodIn wsX4_truncate (wsV RX4 82 RX2 yX2_shrink wsX2_shrink) := goodIn_app (goodIn_of _ (by decide +kernel)) ggX4_truncate_X2_shrink
theorem dX4_truncate_0 : decode cX4_truncate 0 = .ok (.aload_n 0, 1) := by decide +kernel
theorem dX4_truncate_1 : decode cX4_truncate 1 = .ok (.getfield 33, 3) := by decide +kernel
theorem dX4_truncate_4 : decode cX4_truncate 4 = .ok (.ifCond .ne 6, 3) := by decide +kernel
theorem dX4_truncate_7 : decode cX4_truncate 7 = .ok (.bipush (-11), 2) := by decide +kernel
theorem dX4_truncate_9 : decode cX4_truncate 9 = .ok (.ireturn, 1) := by decide +kernel
theorem dX4_truncate_10 : decode cX4_truncate 10 = .ok (.aload_n 0, 1) := by decide +kernel
theorem dX4_truncate_11 : decode cX4_truncate 11 = .ok (.iload_n 1, 1) := by decide +kernel
theorem dX4_truncate_12 : decode cX4_truncate 12 = .ok (.invokevirtual 66, 3) := by decide +kernel
theorem dX4_truncate_15 : decode cX4_truncate 15 = .ok (.ifCond .ne 6, 3) := by decide +kernel
theorem dX4_truncate_18 : decode cX4_truncate 18 = .ok (.bipush (-6), 2) := by decide +kernel
theorem dX4_truncate_20 : decode cX4_truncate 20 = .ok (.ireturn, 1) := by decide +kernel
theorem dX4_truncate_21 : decode cX4_truncate 21 = .ok (.iload_n 2, 1) := by decide +kernel
theorem dX4_truncate_22 : decode cX4_truncate 22 = .ok (.ifCond .lt 9, 3) := by decide +kernel
theorem dX4_truncate_25 : decode cX4_truncate 25 = .ok (.iload_n 2, 1) := by decide +kernel
theorem dX4_truncate_26 : decode cX4_truncate 26 = .ok (.bipush 64, 2) := by decide +kernel
theorem dX4_truncate_28 : decode cX4_truncate 28 = .ok (.if_icmp .le 6, 3) := by decide +kernel
theorem dX4_truncate_31 : decode cX4_truncate 31 = .ok (.bipush (-7), 2) := by decide +kernel
theorem dX4_truncate_33 : decode cX4_truncate 33 = .ok (.ireturn, 1) := by decide +kernel
theorem dX4_truncate_34 : decode cX4_truncate 34 = .ok (.aload_n 0, 1) := by decide +kernel
theorem dX4_truncate_35 : decode cX4_truncate 35 = .ok (.getfield 26, 3) := by decide +kernel
theorem dX4_truncate_38 : decode cX4_truncate 38 = .ok (.iload_n 1, 1) := by decide +kernel
theorem dX4_truncate_39 : decode cX4_truncate 39 = .ok (.iaload, 1) := by decide +kernel
theorem dX4_truncate_40 : decode cX4_truncate 40 = .ok (.istore_n 3, 1) := by decide +kernel
theorem dX4_truncate_41 : decode cX4_truncate 41 = .ok (.iload_n 2, 1) := by decide +kernel
theorem dX4_truncate_42 : decode cX4_truncate 42 = .ok (.aload_n 0, 1) := by decide +kernel
theorem dX4_truncate_43 : decode cX4_truncate 43 = .ok (.getfield 19, 3) := by decide +kernel
theorem dX4_truncate_46 : decode cX4_truncate 46 = .ok (.iload_n 3, 1) := by decide +kernel
theorem dX4_truncate_47 : decode cX4_truncate 47 = .ok (.invokevirtual 69, 3) := by decide +kernel
theorem dX4_truncate_50 : decode cX4_truncate 50 = .ok (.if_icmp .le 13, 3) := by decide +kernel
theorem dX4_truncate_53 : decode cX4_truncate 53 = .ok (.aload_n 0, 1) := by decide +kernel
theorem dX4_truncate_54 : decode cX4_truncate 54 = .ok (.getfield 19, 3) := by decide +kernel
theorem dX4_truncate_57 : decode cX4_truncate 57 = .ok (.iload_n 3, 1) := by decide +kernel
theorem dX4_truncate_58 : decode cX4_truncate 58 = .ok (.iload_n 2, 1) := by decide +kernel
theorem dX4_truncate_59 : decode cX4_truncate 59 = .ok (.invokevirtual 72, 3) := by decide +kernel
theorem dX4_truncate_62 : decode cX4_truncate 62 = .ok (.ireturn, 1) := by decide +kernel
theorem dX4_truncate_63 : decode cX4_truncate 63 = .ok (.aload_n 0, 1) := by decide +kernel
theorem dX4_truncate_64 : decode cX4_truncate 64 = .ok (.getfield 19, 3) := by decide +kernel
theorem dX4_truncate_67 : decode cX4_truncate 67 = .ok (.iload_n 3, 1) := by decide +kernel
theorem dX4_truncate_68 : decode cX4_truncate 68 = .ok (.iload_n 2, 1) := by decide +kernel
theorem dX4_truncate_69 : decode cX4_truncate 69 = .ok (.invokevirtual 82, 3) := by decide +kernel
theorem dX4_truncate_72 : decode cX4_truncate 72 = .ok (.iconst 0, 1) := by decide +kernel
theorem dX4_truncate_73 : decode cX4_truncate 73 = .ok (.ireturn, 1) := by decide +kernel
set_option maxRecDepth 20000 in
theorem ggX4_length_X4_isOpen : GoodIn wsX4_length wsX4_isOpen := goodIn_r _ [8, 3, 15, 16, 17, 18, 19, 20] (by decide +kernel) (by decide +kernel)
set_option maxRecDepth 20000 in
theorem gX4_length_X4_isOpen : GoodIn wsX4_length (wsV RX4 66 RX4 yX4_isOpen wsX4_isOpen) := goodIn_app (goodIn_of _ (by decide +kernel)) ggX4_length_X4_isOpen
set_option maxRecDepth 20000 in
theorem ggX4_length_X2_lengthOf : GoodIn wsX4_length wsX2_lengthOf := goodIn_r _ [13, 14, 21] (by decide +kernel) (by decide +kernel)
set_option maxRecDepth 20000 in
theorem gX4_length_X2_lengthOf : GoodIn wsX4_length (wsV RX4 69 RX2 yX2_lengthOf wsX2_lengthOf) := goodIn_app (goodIn_of _ (by decide +kernel)) ggX4_length_X2_lengthOf
theorem dX4_length_0 : decode cX4_length 0 = .ok (.aload_n 0, 1) := by decide +kernel
theorem dX4_length_1 : decode cX4_length 1 = .ok (.getfield 33, 3) := by decide +kernel
theorem dX4_length_4 : decode cX4_length 4 = .ok (.ifCond .ne 6, 3) := by decide +kernel
theorem dX4_length_7 : decode cX4_length 7 = .ok (.bipush (-11), 2) := by decide +kernel
theorem dX4_length_9 : decode cX4_length 9 = .ok (.ireturn, 1) := by decide +kernel
theorem dX4_length_10 : decode cX4_length 10 = .ok (.aload_n 0, 1) := by decide +kernel
theorem dX4_length_11 : decode cX4_length 11 = .ok (.iload_n 1, 1) := by decide +kernel
theorem dX4_length_12 : decode cX4_length 12 = .ok (.invokevirtual 66, 3) := by decide +kernel
theorem dX4_length_15 : decode cX4_length 15 = .ok (.ifCond .ne 6, 3) := by decide +kernel
theorem dX4_length_18 : decode cX4_length 18 = .ok (.bipush (-6), 2) := by decide +kernel
theorem dX4_length_20 : decode cX4_length 20 = .ok (.ireturn, 1) := by decide +kernel
theorem dX4_length_21 : decode cX4_length 21 = .ok (.aload_n 0, 1) := by decide +kernel
theorem dX4_length_22 : decode cX4_length 22 = .ok (.getfield 19, 3) := by decide +kernel
theorem dX4_length_25 : decode cX4_length 25 = .ok (.aload_n 0, 1) := by decide +kernel
theorem dX4_length_26 : decode cX4_length 26 = .ok (.getfield 26, 3) := by decide +kernel
theorem dX4_length_29 : decode cX4_length 29 = .ok (.iload_n 1, 1) := by decide +kernel
theorem dX4_length_30 : decode cX4_length 30 = .ok (.iaload, 1) := by decide +kernel
theorem dX4_length_31 : decode cX4_length 31 = .ok (.invokevirtual 69, 3) := by decide +kernel
theorem dX4_length_34 : decode cX4_length 34 = .ok (.ireturn, 1) := by decide +kernel
set_option maxRecDepth 20000 in
theorem ggX4_extent_X4_isOpen : GoodIn wsX4_extent wsX4_isOpen := goodIn_r _ [8, 3, 15, 16, 17, 18, 19, 20] (by decide +kernel) (by decide +kernel)
set_option maxRecDepth 20000 in
theorem gX4_extent_X4_isOpen : GoodIn wsX4_extent (wsV RX4 66 RX4 yX4_isOpen wsX4_isOpen) := goodIn_app (goodIn_of _ (by decide +kernel)) ggX4_extent_X4_isOpen
set_option maxRecDepth 20000 in
theorem ggX4_extent_X2_extentOf : GoodIn wsX4_extent wsX2_extentOf := goodIn_r _ [13, 14, 21] (by decide +kernel) (by decide +kernel)
set_option maxRecDepth 20000 in
theorem gX4_extent_X2_extentOf : GoodIn wsX4_extent (wsV RX4 86 RX2 yX2_extentOf wsX2_extentOf) := goodIn_app (goodIn_of _ (by decide +kernel)) ggX4_extent_X2_extentOf
theorem dX4_extent_0 : decode cX4_extent 0 = .ok (.aload_n 0, 1) := by decide +kernel
theorem dX4_extent_1 : decode cX4_extent 1 = .ok (.getfield 33, 3) := by decide +kernel
theorem dX4_extent_4 : decode cX4_extent 4 = .ok (.ifCond .ne 6, 3) := by decide +kernel
theorem dX4_extent_7 : decode cX4_extent 7 = .ok (.bipush (-11), 2) := by decide +kernel
theorem dX4_extent_9 : decode cX4_extent 9 = .ok (.ireturn, 1) := by decide +kernel
theorem dX4_extent_10 : decode cX4_extent 10 = .ok (.aload_n 0, 1) := by decide +kernel
theorem dX4_extent_11 : decode cX4_extent 11 = .ok (.iload_n 1, 1) := by decide +kernel
theorem dX4_extent_12 : decode cX4_extent 12 = .ok (.invokevirtual 66, 3) := by decide +kernel
theorem dX4_extent_15 : decode cX4_extent 15 = .ok (.ifCond .ne 6, 3) := by decide +kernel
theorem dX4_extent_18 : decode cX4_extent 18 = .ok (.bipush (-6), 2) := by decide +kernel
theorem dX4_extent_20 : decode cX4_extent 20 = .ok (.ireturn, 1) := by decide +kernel
theorem dX4_extent_21 : decode cX4_extent 21 = .ok (.iload_n 2, 1) := by decide +kernel
theorem dX4_extent_22 : decode cX4_extent 22 = .ok (.ifCond .lt 8, 3) := by decide +kernel
theorem dX4_extent_25 : decode cX4_extent 25 = .ok (.iload_n 2, 1) := by decide +kernel
theorem dX4_extent_26 : decode cX4_extent 26 = .ok (.iconst 4, 1) := by decide +kernel
theorem dX4_extent_27 : decode cX4_extent 27 = .ok (.if_icmp .lt 6, 3) := by decide +kernel
theorem dX4_extent_30 : decode cX4_extent 30 = .ok (.bipush (-12), 2) := by decide +kernel
theorem dX4_extent_32 : decode cX4_extent 32 = .ok (.ireturn, 1) := by decide +kernel
theorem dX4_extent_33 : decode cX4_extent 33 = .ok (.aload_n 0, 1) := by decide +kernel
theorem dX4_extent_34 : decode cX4_extent 34 = .ok (.getfield 19, 3) := by decide +kernel
theorem dX4_extent_37 : decode cX4_extent 37 = .ok (.aload_n 0, 1) := by decide +kernel
theorem dX4_extent_38 : decode cX4_extent 38 = .ok (.getfield 26, 3) := by decide +kernel
theorem dX4_extent_41 : decode cX4_extent 41 = .ok (.iload_n 1, 1) := by decide +kernel
theorem dX4_extent_42 : decode cX4_extent 42 = .ok (.iaload, 1) := by decide +kernel
theorem dX4_extent_43 : decode cX4_extent 43 = .ok (.iload_n 2, 1) := by decide +kernel
theorem dX4_extent_44 : decode cX4_extent 44 = .ok (.invokevirtual 86, 3) := by decide +kernel
theorem dX4_extent_47 : decode cX4_extent 47 = .ok (.ireturn, 1) := by decide +kernel
set_option maxRecDepth 20000 in
theorem ggX4_rename_X2_slotOf : GoodIn wsX4_rename wsX2_slotOf := goodIn_r _ [7, 8, 9, 10, 6, 11, 12, 100] (by decide +kernel) (by decide +kernel)
set_option maxRecDepth 20000 in
theorem gX4_rename_X2_slotOf : GoodIn wsX4_rename (wsV RX4 44 RX2 yX2_slotOf wsX2_slotOf) := goodIn_app (goodIn_of _ (by decide +kernel)) ggX4_rename_X2_slotOf
set_option maxRecDepth 20000 in
theorem ggX4_rename_X4_isName : GoodIn wsX4_rename wsX4_isName := goodIn_r _ [16] (by decide +kernel) (by decide +kernel)
set_option maxRecDepth 20000 in
theorem gX4_rename_X4_isName : GoodIn wsX4_rename (va_wsS RX4 37 yX4_isName wsX4_isName) := goodIn_app (goodIn_of _ (by decide +kernel)) ggX4_rename_X4_isName
set_option maxRecDepth 20000 in
theorem ggX4_rename_X4_isInUse : GoodIn wsX4_rename wsX4_isInUse := goodIn_r _ [20, 21, 94, 95, 96, 97, 98, 99] (by decide +kernel) (by decide +kernel)
set_option maxRecDepth 20000 in
theorem gX4_rename_X4_isInUse : GoodIn wsX4_rename (wsV RX4 56 RX4 yX4_isInUse wsX4_isInUse) := goodIn_app (goodIn_of _ (by decide +kernel)) ggX4_rename_X4_isInUse
set_option maxRecDepth 20000 in
theorem ggX4_rename_X2_dropFile : GoodIn wsX4_rename wsX2_dropFile := goodIn_r _ [25, 26, 27, 28, 6, 29, 30, 31, 32, 33, 12, 34, 35, 36, 37, 38, 39, 40, 41, 42, 43, 44, 45, 46, 47, 48, 49, 50, 51, 52, 53, 54, 55, 56, 57, 58, 59, 60, 61, 62, 63, 64, 65, 66, 67, 68, 69, 70, 71, 72, 73, 74, 75, 76, 77, 78, 79, 80, 81, 82, 83, 84, 85, 86, 87, 88, 89, 100] (by decide +kernel) (by decide +kernel)
set_option maxRecDepth 20000 in
theorem gX4_rename_X2_dropFile : GoodIn wsX4_rename (wsV RX4 59 RX2 yX2_dropFile wsX2_dropFile) := goodIn_app (goodIn_of _ (by decide +kernel)) ggX4_rename_X2_dropFile
set_option maxRecDepth 20000 in
theorem ggX4_rename_X2_nameFile : GoodIn wsX4_rename wsX2_nameFile := goodIn_r _ [93, 12, 100] (by decide +kernel) (by decide +kernel)
set_option maxRecDepth 20000 in
theorem gX4_rename_X2_nameFile : GoodIn wsX4_rename (wsV RX4 89 RX2 yX2_nameFile wsX2_nameFile) := goodIn_app (goodIn_of _ (by decide +kernel)) ggX4_rename_X2_nameFile
theorem dX4_rename_0 : decode cX4_rename 0 = .ok (.aload_n 0, 1) := by decide +kernel
theorem dX4_rename_1 : decode cX4_rename 1 = .ok (.getfield 33, 3) := by decide +kernel
theorem dX4_rename_4 : decode cX4_rename 4 = .ok (.ifCond .ne 6, 3) := by decide +kernel
theorem dX4_rename_7 : decode cX4_rename 7 = .ok (.bipush (-11), 2) := by decide +kernel
theorem dX4_rename_9 : decode cX4_rename 9 = .ok (.ireturn, 1) := by decide +kernel
theorem dX4_rename_10 : decode cX4_rename 10 = .ok (.aload_n 0, 1) := by decide +kernel
theorem dX4_rename_11 : decode cX4_rename 11 = .ok (.getfield 19, 3) := by decide +kernel
theorem dX4_rename_14 : decode cX4_rename 14 = .ok (.iload_n 1, 1) := by decide +kernel
theorem dX4_rename_15 : decode cX4_rename 15 = .ok (.invokevirtual 44, 3) := by decide +kernel
theorem dX4_rename_18 : decode cX4_rename 18 = .ok (.istore_n 3, 1) := by decide +kernel
theorem dX4_rename_19 : decode cX4_rename 19 = .ok (.iload_n 3, 1) := by decide +kernel
theorem dX4_rename_20 : decode cX4_rename 20 = .ok (.iconst (-1), 1) := by decide +kernel
theorem dX4_rename_21 : decode cX4_rename 21 = .ok (.if_icmp .ne 6, 3) := by decide +kernel
theorem dX4_rename_24 : decode cX4_rename 24 = .ok (.bipush (-3), 2) := by decide +kernel
theorem dX4_rename_26 : decode cX4_rename 26 = .ok (.ireturn, 1) := by decide +kernel
theorem dX4_rename_27 : decode cX4_rename 27 = .ok (.iload_n 2, 1) := by decide +kernel
theorem dX4_rename_28 : decode cX4_rename 28 = .ok (.invokestatic 37, 3) := by decide +kernel
theorem dX4_rename_31 : decode cX4_rename 31 = .ok (.ifCond .ne 6, 3) := by decide +kernel
theorem dX4_rename_34 : decode cX4_rename 34 = .ok (.bipush (-12), 2) := by decide +kernel
theorem dX4_rename_36 : decode cX4_rename 36 = .ok (.ireturn, 1) := by decide +kernel
theorem dX4_rename_37 : decode cX4_rename 37 = .ok (.iload_n 1, 1) := by decide +kernel
theorem dX4_rename_38 : decode cX4_rename 38 = .ok (.iload_n 2, 1) := by decide +kernel
theorem dX4_rename_39 : decode cX4_rename 39 = .ok (.if_icmp .ne 5, 3) := by decide +kernel
theorem dX4_rename_42 : decode cX4_rename 42 = .ok (.iconst 0, 1) := by decide +kernel
theorem dX4_rename_43 : decode cX4_rename 43 = .ok (.ireturn, 1) := by decide +kernel
theorem dX4_rename_44 : decode cX4_rename 44 = .ok (.aload_n 0, 1) := by decide +kernel
theorem dX4_rename_45 : decode cX4_rename 45 = .ok (.getfield 19, 3) := by decide +kernel
theorem dX4_rename_48 : decode cX4_rename 48 = .ok (.iload_n 2, 1) := by decide +kernel
theorem dX4_rename_49 : decode cX4_rename 49 = .ok (.invokevirtual 44, 3) := by decide +kernel
theorem dX4_rename_52 : decode cX4_rename 52 = .ok (.istore 4, 2) := by decide +kernel
theorem dX4_rename_54 : decode cX4_rename 54 = .ok (.iload 4, 2) := by decide +kernel
theorem dX4_rename_56 : decode cX4_rename 56 = .ok (.iconst (-1), 1) := by decide +kernel
theorem dX4_rename_57 : decode cX4_rename 57 = .ok (.if_icmp .eq 24, 3) := by decide +kernel
theorem dX4_rename_60 : decode cX4_rename 60 = .ok (.aload_n 0, 1) := by decide +kernel
theorem dX4_rename_61 : decode cX4_rename 61 = .ok (.iload 4, 2) := by decide +kernel
theorem dX4_rename_63 : decode cX4_rename 63 = .ok (.invokevirtual 56, 3) := by decide +kernel
theorem dX4_rename_66 : decode cX4_rename 66 = .ok (.ifCond .eq 6, 3) := by decide +kernel
theorem dX4_rename_69 : decode cX4_rename 69 = .ok (.bipush (-4), 2) := by decide +kernel
theorem dX4_rename_71 : decode cX4_rename 71 = .ok (.ireturn, 1) := by decide +kernel
theorem dX4_rename_72 : decode cX4_rename 72 = .ok (.aload_n 0, 1) := by decide +kernel
theorem dX4_rename_73 : decode cX4_rename 73 = .ok (.getfield 19, 3) := by decide +kernel
theorem dX4_rename_76 : decode cX4_rename 76 = .ok (.iload 4, 2) := by decide +kernel
theorem dX4_rename_78 : decode cX4_rename 78 = .ok (.invokevirtual 59, 3) := by decide +kernel
theorem dX4_rename_81 : decode cX4_rename 81 = .ok (.aload_n 0, 1) := by decide +kernel
theorem dX4_rename_82 : decode cX4_rename 82 = .ok (.getfield 19, 3) := by decide +kernel
theorem dX4_rename_85 : decode cX4_rename 85 = .ok (.iload_n 3, 1) := by decide +kernel
theorem dX4_rename_86 : decode cX4_rename 86 = .ok (.iload_n 2, 1) := by decide +kernel
theorem dX4_rename_87 : decode cX4_rename 87 = .ok (.invokevirtual 89, 3) := by decide +kernel
theorem dX4_rename_90 : decode cX4_rename 90 = .ok (.iconst 0, 1) := by decide +kernel
theorem dX4_rename_91 : decode cX4_rename 91 = .ok (.ireturn, 1) := by decide +kernel
set_option maxRecDepth 20000 in
theorem ggX4_setQuota_X4_isOwner : GoodIn wsX4_setQuota wsX4_isOwner := goodIn_r _ [6] (by decide +kernel) (by decide +kernel)
set_option maxRecDepth 20000 in
theorem gX4_setQuota_X4_isOwner : GoodIn wsX4_setQuota (va_wsS RX4 41 yX4_isOwner wsX4_isOwner) := goodIn_app (goodIn_of _ (by decide +kernel)) ggX4_setQuota_X4_isOwner
set_option maxRecDepth 20000 in
theorem ggX4_setQuota_X2_usageOf : GoodIn wsX4_setQuota wsX2_usageOf := goodIn_r _ [11, 12, 13, 14, 10, 15, 16, 17, 18, 19, 20, 21, 22, 23, 24, 25, 26, 27, 28, 29, 30, 31, 42] (by decide +kernel) (by decide +kernel)
set_option maxRecDepth 20000 in
theorem gX4_setQuota_X2_usageOf : GoodIn wsX4_setQuota (wsV RX4 92 RX2 yX2_usageOf wsX2_usageOf) := goodIn_app (goodIn_of _ (by decide +kernel)) ggX4_setQuota_X2_usageOf
set_option maxRecDepth 20000 in
theorem ggX4_setQuota_X2_putQuota : GoodIn wsX4_setQuota wsX2_putQuota := goodIn_r _ [35, 16, 42] (by decide +kernel) (by decide +kernel)
set_option maxRecDepth 20000 in
theorem gX4_setQuota_X2_putQuota : GoodIn wsX4_setQuota (wsV RX4 95 RX2 yX2_putQuota wsX2_putQuota) := goodIn_app (goodIn_of _ (by decide +kernel)) ggX4_setQuota_X2_putQuota
theorem dX4_setQuota_0 : decode cX4_setQuota 0 = .ok (.aload_n 0, 1) := by decide +kernel
theorem dX4_setQuota_1 : decode cX4_setQuota 1 = .ok (.getfield 33, 3) := by decide +kernel
theorem dX4_setQuota_4 : decode cX4_setQuota 4 = .ok (.ifCond .ne 6, 3) := by decide +kernel
theorem dX4_setQuota_7 : decode cX4_setQuota 7 = .ok (.bipush (-11), 2) := by decide +kernel
theorem dX4_setQuota_9 : decode cX4_setQuota 9 = .ok (.ireturn, 1) := by decide +kernel
theorem dX4_setQuota_10 : decode cX4_setQuota 10 = .ok (.iload_n 1, 1) := by decide +kernel
theorem dX4_setQuota_11 : decode cX4_setQuota 11 = .ok (.invokestatic 41, 3) := by decide +kernel
theorem dX4_setQuota_14 : decode cX4_setQuota 14 = .ok (.ifCond .eq 13, 3) := by decide +kernel
theorem dX4_setQuota_17 : decode cX4_setQuota 17 = .ok (.iload_n 2, 1) := by decide +kernel
theorem dX4_setQuota_18 : decode cX4_setQuota 18 = .ok (.ifCond .lt 9, 3) := by decide +kernel
theorem dX4_setQuota_21 : decode cX4_setQuota 21 = .ok (.iload_n 2, 1) := by decide +kernel
theorem dX4_setQuota_22 : decode cX4_setQuota 22 = .ok (.bipush 32, 2) := by decide +kernel
theorem dX4_setQuota_24 : decode cX4_setQuota 24 = .ok (.if_icmp .le 6, 3) := by decide +kernel
theorem dX4_setQuota_27 : decode cX4_setQuota 27 = .ok (.bipush (-12), 2) := by decide +kernel
theorem dX4_setQuota_29 : decode cX4_setQuota 29 = .ok (.ireturn, 1) := by decide +kernel
theorem dX4_setQuota_30 : decode cX4_setQuota 30 = .ok (.aload_n 0, 1) := by decide +kernel
theorem dX4_setQuota_31 : decode cX4_setQuota 31 = .ok (.getfield 19, 3) := by decide +kernel
theorem dX4_setQuota_34 : decode cX4_setQuota 34 = .ok (.iload_n 1, 1) := by decide +kernel
theorem dX4_setQuota_35 : decode cX4_setQuota 35 = .ok (.invokevirtual 92, 3) := by decide +kernel
theorem dX4_setQuota_38 : decode cX4_setQuota 38 = .ok (.iload_n 2, 1) := by decide +kernel
theorem dX4_setQuota_39 : decode cX4_setQuota 39 = .ok (.if_icmp .le 6, 3) := by decide +kernel
theorem dX4_setQuota_42 : decode cX4_setQuota 42 = .ok (.bipush (-10), 2) := by decide +kernel
theorem dX4_setQuota_44 : decode cX4_setQuota 44 = .ok (.ireturn, 1) := by decide +kernel
theorem dX4_setQuota_45 : decode cX4_setQuota 45 = .ok (.aload_n 0, 1) := by decide +kernel
theorem dX4_setQuota_46 : decode cX4_setQuota 46 = .ok (.getfield 19, 3) := by decide +kernel
theorem dX4_setQuota_49 : decode cX4_setQuota 49 = .ok (.iload_n 1, 1) := by decide +kernel
theorem dX4_setQuota_50 : decode cX4_setQuota 50 = .ok (.iload_n 2, 1) := by decide +kernel
theorem dX4_setQuota_51 : decode cX4_setQuota 51 = .ok (.invokevirtual 95, 3) := by decide +kernel
theorem dX4_setQuota_54 : decode cX4_setQuota 54 = .ok (.iconst 0, 1) := by decide +kernel
theorem dX4_setQuota_55 : decode cX4_setQuota 55 = .ok (.ireturn, 1) := by decide +kernel
set_option maxRecDepth 20000 in
theorem ggX4_usage_X4_isOwner : GoodIn wsX4_usage wsX4_isOwner := goodIn_r _ [6] (by decide +kernel) (by decide +kernel)
set_option maxRecDepth 20000 in
theorem gX4_usage_X4_isOwner : GoodIn wsX4_usage (va_wsS RX4 41 yX4_isOwner wsX4_isOwner) := goodIn_app (goodIn_of _ (by decide +kernel)) ggX4_usage_X4_isOwner
set_option maxRecDepth 20000 in
theorem ggX4_usage_X2_usageOf : GoodIn wsX4_usage wsX2_usageOf := goodIn_r _ [11, 12, 13, 14, 10, 15, 16, 17, 18, 19, 20, 21, 22, 23, 24, 25, 26, 27, 28, 29, 30, 31, 38] (by decide +kernel) (by decide +kernel)
set_option maxRecDepth 20000 in
theorem gX4_usage_X2_usageOf : GoodIn wsX4_usage (wsV RX4 92 RX2 yX2_usageOf wsX2_usageOf) := goodIn_app (goodIn_of _ (by decide +kernel)) ggX4_usage_X2_usageOf
theorem dX4_usage_0 : decode cX4_usage 0 = .ok (.aload_n 0, 1) := by decide +kernel
theorem dX4_usage_1 : decode cX4_usage 1 = .ok (.getfield 33, 3) := by decide +kernel
theorem dX4_usage_4 : decode cX4_usage 4 = .ok (.ifCond .ne 6, 3) := by decide +kernel
theorem dX4_usage_7 : decode cX4_usage 7 = .ok (.bipush (-11), 2) := by decide +kernel
theorem dX4_usage_9 : decode cX4_usage 9 = .ok (.ireturn, 1) := by decide +kernel
theorem dX4_usage_10 : decode cX4_usage 10 = .ok (.iload_n 1, 1) := by decide +kernel
theorem dX4_usage_11 : decode cX4_usage 11 = .ok (.invokestatic 41, 3) := by decide +kernel
theorem dX4_usage_14 : decode cX4_usage 14 = .ok (.ifCond .ne 6, 3) := by decide +kernel
theorem dX4_usage_17 : decode cX4_usage 17 = .ok (.bipush (-12), 2) := by decide +kernel
theorem dX4_usage_19 : decode cX4_usage 19 = .ok (.ireturn, 1) := by decide +kernel
theorem dX4_usage_20 : decode cX4_usage 20 = .ok (.aload_n 0, 1) := by decide +kernel
theorem dX4_usage_21 : decode cX4_usage 21 = .ok (.getfield 19, 3) := by decide +kernel
theorem dX4_usage_24 : decode cX4_usage 24 = .ok (.iload_n 1, 1) := by decide +kernel
theorem dX4_usage_25 : decode cX4_usage 25 = .ok (.invokevirtual 92, 3) := by decide +kernel
theorem dX4_usage_28 : decode cX4_usage 28 = .ok (.ireturn, 1) := by decide +kernel
set_option maxRecDepth 20000 in
theorem ggX4_free_X2_freeRunsOf : GoodIn wsX4_free wsX2_freeRunsOf := goodIn_r _ [7, 8, 9, 10, 6, 11, 12, 13, 14, 15, 16, 23] (by decide +kernel) (by decide +kernel)
set_option maxRecDepth 20000 in
theorem gX4_free_X2_freeRunsOf : GoodIn wsX4_free (wsV RX4 98 RX2 yX2_freeRunsOf wsX2_freeRunsOf) := goodIn_app (goodIn_of _ (by decide +kernel)) ggX4_free_X2_freeRunsOf
theorem dX4_free_0 : decode cX4_free 0 = .ok (.aload_n 0, 1) := by decide +kernel
theorem dX4_free_1 : decode cX4_free 1 = .ok (.getfield 33, 3) := by decide +kernel
theorem dX4_free_4 : decode cX4_free 4 = .ok (.ifCond .ne 6, 3) := by decide +kernel
theorem dX4_free_7 : decode cX4_free 7 = .ok (.bipush (-11), 2) := by decide +kernel
theorem dX4_free_9 : decode cX4_free 9 = .ok (.ireturn, 1) := by decide +kernel
theorem dX4_free_10 : decode cX4_free 10 = .ok (.iload_n 1, 1) := by decide +kernel
theorem dX4_free_11 : decode cX4_free 11 = .ok (.ifCond .lt 8, 3) := by decide +kernel
theorem dX4_free_14 : decode cX4_free 14 = .ok (.iload_n 1, 1) := by decide +kernel
theorem dX4_free_15 : decode cX4_free 15 = .ok (.iconst 5, 1) := by decide +kernel
theorem dX4_free_16 : decode cX4_free 16 = .ok (.if_icmp .le 6, 3) := by decide +kernel
theorem dX4_free_19 : decode cX4_free 19 = .ok (.bipush (-12), 2) := by decide +kernel
theorem dX4_free_21 : decode cX4_free 21 = .ok (.ireturn, 1) := by decide +kernel
theorem dX4_free_22 : decode cX4_free 22 = .ok (.aload_n 0, 1) := by decide +kernel
theorem dX4_free_23 : decode cX4_free 23 = .ok (.getfield 19, 3) := by decide +kernel
theorem dX4_free_26 : decode cX4_free 26 = .ok (.iload_n 1, 1) := by decide +kernel
theorem dX4_free_27 : decode cX4_free 27 = .ok (.invokevirtual 98, 3) := by decide +kernel
theorem dX4_free_30 : decode cX4_free 30 = .ok (.ireturn, 1) := by decide +kernel
set_option maxRecDepth 20000 in
theorem ggX4_sync_X4_countChanges : GoodIn wsX4_sync wsX4_countChanges := goodIn_r _ [6, 7, 8, 9, 5, 10, 11, 12, 13, 14, 32, 33, 34, 35, 36, 37, 38, 39] (by decide +kernel) (by decide +kernel)
set_option maxRecDepth 20000 in
theorem gX4_sync_X4_countChanges : GoodIn wsX4_sync (wsV RX4 101 RX4 yX4_countChanges wsX4_countChanges) := goodIn_app (goodIn_of _ (by decide +kernel)) ggX4_sync_X4_countChanges
set_option maxRecDepth 20000 in
theorem ggX4_sync_X4_writeJournal : GoodIn wsX4_sync wsX4_writeJournal := goodIn_r _ [18, 13, 14, 7, 8, 9, 5, 10, 11, 12, 19, 20, 21, 22, 23, 24, 25, 26, 27, 32, 33, 34, 35, 36, 37, 39, 38] (by decide +kernel) (by decide +kernel)
set_option maxRecDepth 20000 in
theorem gX4_sync_X4_writeJournal : GoodIn wsX4_sync (wsV RX4 104 RX4 yX4_writeJournal wsX4_writeJournal) := goodIn_app (goodIn_of _ (by decide +kernel)) ggX4_sync_X4_writeJournal
set_option maxRecDepth 20000 in
theorem ggX4_sync_X4_writeHome : GoodIn wsX4_sync wsX4_writeHome := goodIn_r _ [31, 13, 14, 7, 8, 9, 5, 10, 11, 12, 19, 20, 21, 22, 23, 32, 33, 34, 35, 36, 37, 39, 38] (by decide +kernel) (by decide +kernel)
set_option maxRecDepth 20000 in
theorem gX4_sync_X4_writeHome : GoodIn wsX4_sync (wsV RX4 107 RX4 yX4_writeHome wsX4_writeHome) := goodIn_app (goodIn_of _ (by decide +kernel)) ggX4_sync_X4_writeHome
set_option maxRecDepth 20000 in
theorem ggX4_sync_X4_writeCell : GoodIn wsX4_sync wsX4_writeCell := goodIn_r _ [22, 23, 11, 12, 32, 33, 34, 35, 36, 37, 38] (by decide +kernel) (by decide +kernel)
set_option maxRecDepth 20000 in
theorem gX4_sync_X4_writeCell : GoodIn wsX4_sync (wsV RX4 111 RX4 yX4_writeCell wsX4_writeCell) := goodIn_app (goodIn_of _ (by decide +kernel)) ggX4_sync_X4_writeCell
theorem dX4_sync_0 : decode cX4_sync 0 = .ok (.aload_n 0, 1) := by decide +kernel
theorem dX4_sync_1 : decode cX4_sync 1 = .ok (.getfield 33, 3) := by decide +kernel
theorem dX4_sync_4 : decode cX4_sync 4 = .ok (.ifCond .ne 6, 3) := by decide +kernel
theorem dX4_sync_7 : decode cX4_sync 7 = .ok (.bipush (-11), 2) := by decide +kernel
theorem dX4_sync_9 : decode cX4_sync 9 = .ok (.ireturn, 1) := by decide +kernel
theorem dX4_sync_10 : decode cX4_sync 10 = .ok (.aload_n 0, 1) := by decide +kernel
theorem dX4_sync_11 : decode cX4_sync 11 = .ok (.invokevirtual 101, 3) := by decide +kernel
theorem dX4_sync_14 : decode cX4_sync 14 = .ok (.istore_n 1, 1) := by decide +kernel
theorem dX4_sync_15 : decode cX4_sync 15 = .ok (.iload_n 1, 1) := by decide +kernel
theorem dX4_sync_16 : decode cX4_sync 16 = .ok (.ifCond .ne 5, 3) := by decide +kernel
theorem dX4_sync_19 : decode cX4_sync 19 = .ok (.iconst 0, 1) := by decide +kernel
theorem dX4_sync_20 : decode cX4_sync 20 = .ok (.ireturn, 1) := by decide +kernel
theorem dX4_sync_21 : decode cX4_sync 21 = .ok (.aload_n 0, 1) := by decide +kernel
theorem dX4_sync_22 : decode cX4_sync 22 = .ok (.iload_n 1, 1) := by decide +kernel
theorem dX4_sync_23 : decode cX4_sync 23 = .ok (.invokevirtual 104, 3) := by decide +kernel
theorem dX4_sync_26 : decode cX4_sync 26 = .ok (.ifCond .eq 22, 3) := by decide +kernel
theorem dX4_sync_29 : decode cX4_sync 29 = .ok (.aload_n 0, 1) := by decide +kernel
theorem dX4_sync_30 : decode cX4_sync 30 = .ok (.invokevirtual 107, 3) := by decide +kernel
theorem dX4_sync_33 : decode cX4_sync 33 = .ok (.ifCond .eq 15, 3) := by decide +kernel
theorem dX4_sync_36 : decode cX4_sync 36 = .ok (.aload_n 0, 1) := by decide +kernel
theorem dX4_sync_37 : decode cX4_sync 37 = .ok (.bipush 110, 2) := by decide +kernel
theorem dX4_sync_39 : decode cX4_sync 39 = .ok (.iconst 0, 1) := by decide +kernel
theorem dX4_sync_40 : decode cX4_sync 40 = .ok (.invokevirtual 111, 3) := by decide +kernel
theorem dX4_sync_43 : decode cX4_sync 43 = .ok (.ifCond .eq 5, 3) := by decide +kernel
theorem dX4_sync_46 : decode cX4_sync 46 = .ok (.iload_n 1, 1) := by decide +kernel
theorem dX4_sync_47 : decode cX4_sync 47 = .ok (.ireturn, 1) := by decide +kernel
theorem dX4_sync_48 : decode cX4_sync 48 = .ok (.aload_n 0, 1) := by decide +kernel
theorem dX4_sync_49 : decode cX4_sync 49 = .ok (.iconst 0, 1) := by decide +kernel
theorem dX4_sync_50 : decode cX4_sync 50 = .ok (.putfield 33, 3) := by decide +kernel
theorem dX4_sync_53 : decode cX4_sync 53 = .ok (.bipush (-11), 2) := by decide +kernel
theorem dX4_sync_55 : decode cX4_sync 55 = .ok (.ireturn, 1) := by decide +kernel
theorem dX4_crashAfter_0 : decode cX4_crashAfter 0 = .ok (.aload_n 0, 1) := by decide +kernel
theorem dX4_crashAfter_1 : decode cX4_crashAfter 1 = .ok (.getfield 33, 3) := by decide +kernel
theorem dX4_crashAfter_4 : decode cX4_crashAfter 4 = .ok (.ifCond .eq 8, 3) := by decide +kernel
theorem dX4_crashAfter_7 : decode cX4_crashAfter 7 = .ok (.iload_n 1, 1) := by decide +kernel
theorem dX4_crashAfter_8 : decode cX4_crashAfter 8 = .ok (.iconst (-1), 1) := by decide +kernel
theorem dX4_crashAfter_9 : decode cX4_crashAfter 9 = .ok (.if_icmp .ge 5, 3) := by decide +kernel
theorem dX4_crashAfter_12 : decode cX4_crashAfter 12 = .ok (.iconst 0, 1) := by decide +kernel
theorem dX4_crashAfter_13 : decode cX4_crashAfter 13 = .ok (.ireturn, 1) := by decide +kernel
theorem dX4_crashAfter_14 : decode cX4_crashAfter 14 = .ok (.aload_n 0, 1) := by decide +kernel
theorem dX4_crashAfter_15 : decode cX4_crashAfter 15 = .ok (.iload_n 1, 1) := by decide +kernel
theorem dX4_crashAfter_16 : decode cX4_crashAfter 16 = .ok (.putfield 115, 3) := by decide +kernel
theorem dX4_crashAfter_19 : decode cX4_crashAfter 19 = .ok (.iconst 1, 1) := by decide +kernel
theorem dX4_crashAfter_20 : decode cX4_crashAfter 20 = .ok (.ireturn, 1) := by decide +kernel
set_option maxRecDepth 20000 in
theorem ggX4_mount_X1_journalHolds : GoodIn wsX4_mount wsX1_journalHolds := goodIn_r _ [10, 11, 12, 13, 9, 14, 151] (by decide +kernel) (by decide +kernel)
set_option maxRecDepth 20000 in
theorem gX4_mount_X1_journalHolds : GoodIn wsX4_mount (wsV RX4 119 RX1 yX1_journalHolds wsX1_journalHolds) := goodIn_app (goodIn_of _ (by decide +kernel)) ggX4_mount_X1_journalHolds
set_option maxRecDepth 20000 in
theorem ggX4_mount_X1_replayJournal : GoodIn wsX4_mount wsX1_replayJournal := goodIn_r _ [18, 11, 19, 20, 21, 9, 22, 151] (by decide +kernel) (by decide +kernel)
set_option maxRecDepth 20000 in
theorem gX4_mount_X1_replayJournal : GoodIn wsX4_mount (wsV RX4 122 RX1 yX1_replayJournal wsX1_replayJournal) := goodIn_app (goodIn_of _ (by decide +kernel)) ggX4_mount_X1_replayJournal
set_option maxRecDepth 20000 in
theorem ggX4_mount_X2_copyFrom : GoodIn wsX4_mount wsX2_copyFrom := goodIn_r _ [27, 28, 29, 30, 31, 32, 152] (by decide +kernel) (by decide +kernel)
set_option maxRecDepth 20000 in
theorem gX4_mount_X2_copyFrom : GoodIn wsX4_mount (wsV RX4 128 RX2 yX2_copyFrom wsX2_copyFrom) := goodIn_app (goodIn_of _ (by decide +kernel)) ggX4_mount_X2_copyFrom
set_option maxRecDepth 20000 in
theorem ggX4_mount_X0_leastBroken : GoodIn wsX4_mount wsX0_leastBroken := goodIn_r _ [36, 37, 38, 39, 35, 40, 41, 42, 43, 26, 44, 28, 45, 46, 47, 48, 49, 50, 51, 52, 53, 54, 55, 56, 57, 58, 59, 60, 61, 62, 63, 64, 65, 66, 67, 68, 69, 70, 71, 72, 73, 74, 75, 76, 77, 78, 79, 80, 81, 82, 83, 84, 85, 86, 87, 88, 89, 90, 91, 92, 93, 94, 95, 96, 97, 98, 99, 100, 101, 102, 103, 104, 105, 106, 107, 108, 109, 110, 111, 112, 113, 114, 115, 116, 117, 118, 119, 120, 121, 122, 123, 124, 125, 126, 127, 128, 129, 130, 131, 132, 133, 134, 135, 136, 137, 152] (by decide +kernel) (by decide +kernel)
set_option maxRecDepth 20000 in
theorem gX4_mount_X0_leastBroken : GoodIn wsX4_mount (va_wsS RX4 132 yX0_leastBroken wsX0_leastBroken) := goodIn_app (goodIn_of _ (by decide +kernel)) ggX4_mount_X0_leastBroken
set_option maxRecDepth 20000 in
theorem ggX4_mount_X4_goUp : GoodIn wsX4_mount wsX4_goUp := goodIn_r _ [142, 143, 144, 1, 145, 146, 147, 148, 149, 150] (by decide +kernel) (by decide +kernel)
set_option maxRecDepth 20000 in
theorem gX4_mount_X4_goUp : GoodIn wsX4_mount (wsV RX4 138 RX4 yX4_goUp wsX4_goUp) := goodIn_app (goodIn_of _ (by decide +kernel)) ggX4_mount_X4_goUp
theorem dX4_mount_0 : decode cX4_mount 0 = .ok (.aload_n 0, 1) := by decide +kernel
theorem dX4_mount_1 : decode cX4_mount 1 = .ok (.getfield 33, 3) := by decide +kernel
theorem dX4_mount_4 : decode cX4_mount 4 = .ok (.ifCond .eq 6, 3) := by decide +kernel
theorem dX4_mount_7 : decode cX4_mount 7 = .ok (.bipush (-4), 2) := by decide +kernel
theorem dX4_mount_9 : decode cX4_mount 9 = .ok (.ireturn, 1) := by decide +kernel
theorem dX4_mount_10 : decode cX4_mount 10 = .ok (.aload_n 0, 1) := by decide +kernel
theorem dX4_mount_11 : decode cX4_mount 11 = .ok (.getfield 10, 3) := by decide +kernel
theorem dX4_mount_14 : decode cX4_mount 14 = .ok (.invokevirtual 119, 3) := by decide +kernel
theorem dX4_mount_17 : decode cX4_mount 17 = .ok (.ifCond .eq 10, 3) := by decide +kernel
theorem dX4_mount_20 : decode cX4_mount 20 = .ok (.aload_n 0, 1) := by decide +kernel
theorem dX4_mount_21 : decode cX4_mount 21 = .ok (.getfield 10, 3) := by decide +kernel
theorem dX4_mount_24 : decode cX4_mount 24 = .ok (.invokevirtual 122, 3) := by decide +kernel
theorem dX4_mount_27 : decode cX4_mount 27 = .ok (.aload_n 0, 1) := by decide +kernel
theorem dX4_mount_28 : decode cX4_mount 28 = .ok (.getfield 23, 3) := by decide +kernel
theorem dX4_mount_31 : decode cX4_mount 31 = .ok (.aload_n 0, 1) := by decide +kernel
theorem dX4_mount_32 : decode cX4_mount 32 = .ok (.getfield 10, 3) := by decide +kernel
theorem dX4_mount_35 : decode cX4_mount 35 = .ok (.getfield 125, 3) := by decide +kernel
theorem dX4_mount_38 : decode cX4_mount 38 = .ok (.invokevirtual 128, 3) := by decide +kernel
theorem dX4_mount_41 : decode cX4_mount 41 = .ok (.aload_n 0, 1) := by decide +kernel
theorem dX4_mount_42 : decode cX4_mount 42 = .ok (.getfield 23, 3) := by decide +kernel
theorem dX4_mount_45 : decode cX4_mount 45 = .ok (.invokestatic 132, 3) := by decide +kernel
theorem dX4_mount_48 : decode cX4_mount 48 = .ok (.ifCond .eq 6, 3) := by decide +kernel
theorem dX4_mount_51 : decode cX4_mount 51 = .ok (.bipush (-13), 2) := by decide +kernel
theorem dX4_mount_53 : decode cX4_mount 53 = .ok (.ireturn, 1) := by decide +kernel
theorem dX4_mount_54 : decode cX4_mount 54 = .ok (.aload_n 0, 1) := by decide +kernel
theorem dX4_mount_55 : decode cX4_mount 55 = .ok (.getfield 19, 3) := by decide +kernel
theorem dX4_mount_58 : decode cX4_mount 58 = .ok (.aload_n 0, 1) := by decide +kernel
theorem dX4_mount_59 : decode cX4_mount 59 = .ok (.getfield 10, 3) := by decide +kernel
theorem dX4_mount_62 : decode cX4_mount 62 = .ok (.getfield 125, 3) := by decide +kernel
theorem dX4_mount_65 : decode cX4_mount 65 = .ok (.invokevirtual 128, 3) := by decide +kernel
theorem dX4_mount_68 : decode cX4_mount 68 = .ok (.aload_n 0, 1) := by decide +kernel
theorem dX4_mount_69 : decode cX4_mount 69 = .ok (.invokevirtual 138, 3) := by decide +kernel
theorem dX4_mount_72 : decode cX4_mount 72 = .ok (.iconst 0, 1) := by decide +kernel
theorem dX4_mount_73 : decode cX4_mount 73 = .ok (.ireturn, 1) := by decide +kernel
theorem dX4_corrupt_0 : decode cX4_corrupt 0 = .ok (.aload_n 0, 1) := by decide +kernel
theorem dX4_corrupt_1 : decode cX4_corrupt 1 = .ok (.getfield 33, 3) := by decide +kernel
theorem dX4_corrupt_4 : decode cX4_corrupt 4 = .ok (.ifCond .ne 14, 3) := by decide +kernel
theorem dX4_corrupt_7 : decode cX4_corrupt 7 = .ok (.iload_n 1, 1) := by decide +kernel
theorem dX4_corrupt_8 : decode cX4_corrupt 8 = .ok (.ifCond .lt 10, 3) := by decide +kernel
theorem dX4_corrupt_11 : decode cX4_corrupt 11 = .ok (.iload_n 1, 1) := by decide +kernel
theorem dX4_corrupt_12 : decode cX4_corrupt 12 = .ok (.sipush 332, 3) := by decide +kernel
theorem dX4_corrupt_15 : decode cX4_corrupt 15 = .ok (.if_icmp .lt 5, 3) := by decide +kernel
theorem dX4_corrupt_18 : decode cX4_corrupt 18 = .ok (.iconst 0, 1) := by decide +kernel
theorem dX4_corrupt_19 : decode cX4_corrupt 19 = .ok (.ireturn, 1) := by decide +kernel
theorem dX4_corrupt_20 : decode cX4_corrupt 20 = .ok (.aload_n 0, 1) := by decide +kernel
theorem dX4_corrupt_21 : decode cX4_corrupt 21 = .ok (.getfield 10, 3) := by decide +kernel
theorem dX4_corrupt_24 : decode cX4_corrupt 24 = .ok (.getfield 125, 3) := by decide +kernel
theorem dX4_corrupt_27 : decode cX4_corrupt 27 = .ok (.iload_n 1, 1) := by decide +kernel
theorem dX4_corrupt_28 : decode cX4_corrupt 28 = .ok (.iload_n 2, 1) := by decide +kernel
theorem dX4_corrupt_29 : decode cX4_corrupt 29 = .ok (.iastore, 1) := by decide +kernel
theorem dX4_corrupt_30 : decode cX4_corrupt 30 = .ok (.iconst 1, 1) := by decide +kernel
theorem dX4_corrupt_31 : decode cX4_corrupt 31 = .ok (.ireturn, 1) := by decide +kernel
set_option maxRecDepth 20000 in
theorem ggX4_fsck_X2_copyFrom : GoodIn wsX4_fsck wsX2_copyFrom := goodIn_r _ [9, 10, 11, 12, 13, 14, 140] (by decide +kernel) (by decide +kernel)
set_option maxRecDepth 20000 in
theorem gX4_fsck_X2_copyFrom : GoodIn wsX4_fsck (wsV RX4 128 RX2 yX2_copyFrom wsX2_copyFrom) := goodIn_app (goodIn_of _ (by decide +kernel)) ggX4_fsck_X2_copyFrom
set_option maxRecDepth 20000 in
theorem ggX4_fsck_X1_journalHolds : GoodIn wsX4_fsck wsX1_journalHolds := goodIn_r _ [19, 20, 21, 22, 18, 23, 139] (by decide +kernel) (by decide +kernel)
set_option maxRecDepth 20000 in
theorem gX4_fsck_X1_journalHolds : GoodIn wsX4_fsck (wsV RX4 119 RX1 yX1_journalHolds wsX1_journalHolds) := goodIn_app (goodIn_of _ (by decide +kernel)) ggX4_fsck_X1_journalHolds
set_option maxRecDepth 20000 in
theorem ggX4_fsck_X1_replayInto : GoodIn wsX4_fsck wsX1_replayInto := goodIn_r _ [27, 20, 139] (by decide +kernel) (by decide +kernel)
set_option maxRecDepth 20000 in
theorem gX4_fsck_X1_replayInto : GoodIn wsX4_fsck (wsV RX4 142 RX1 yX1_replayInto wsX1_replayInto) := goodIn_app (goodIn_of _ (by decide +kernel)) ggX4_fsck_X1_replayInto
set_option maxRecDepth 20000 in
theorem ggX4_fsck_X0_leastBroken : GoodIn wsX4_fsck wsX0_leastBroken := goodIn_r _ [31, 32, 33, 34, 30, 35, 36, 37, 38, 8, 39, 10, 40, 41, 42, 43, 44, 45, 46, 47, 48, 49, 50, 51, 52, 53, 54, 55, 56, 57, 58, 59, 60, 61, 62, 63, 64, 65, 66, 67, 68, 69, 70, 71, 72, 73, 74, 75, 76, 77, 78, 79, 80, 81, 82, 83, 84, 85, 86, 87, 88, 89, 90, 91, 92, 93, 94, 95, 96, 97, 98, 99, 100, 101, 102, 103, 104, 105, 106, 107, 108, 109, 110, 111, 112, 113, 114, 115, 116, 117, 118, 119, 120, 121, 122, 123, 124, 125, 126, 127, 128, 129, 130, 131, 132, 140] (by decide +kernel) (by decide +kernel)
set_option maxRecDepth 20000 in
theorem gX4_fsck_X0_leastBroken : GoodIn wsX4_fsck (va_wsS RX4 132 yX0_leastBroken wsX0_leastBroken) := goodIn_app (goodIn_of _ (by decide +kernel)) ggX4_fsck_X0_leastBroken
theorem dX4_fsck_0 : decode cX4_fsck 0 = .ok (.aload_n 0, 1) := by decide +kernel
theorem dX4_fsck_1 : decode cX4_fsck 1 = .ok (.getfield 23, 3) := by decide +kernel
theorem dX4_fsck_4 : decode cX4_fsck 4 = .ok (.aload_n 0, 1) := by decide +kernel
theorem dX4_fsck_5 : decode cX4_fsck 5 = .ok (.getfield 10, 3) := by decide +kernel
theorem dX4_fsck_8 : decode cX4_fsck 8 = .ok (.getfield 125, 3) := by decide +kernel
theorem dX4_fsck_11 : decode cX4_fsck 11 = .ok (.invokevirtual 128, 3) := by decide +kernel
theorem dX4_fsck_14 : decode cX4_fsck 14 = .ok (.aload_n 0, 1) := by decide +kernel
theorem dX4_fsck_15 : decode cX4_fsck 15 = .ok (.getfield 10, 3) := by decide +kernel
theorem dX4_fsck_18 : decode cX4_fsck 18 = .ok (.invokevirtual 119, 3) := by decide +kernel
theorem dX4_fsck_21 : decode cX4_fsck 21 = .ok (.ifCond .eq 17, 3) := by decide +kernel
theorem dX4_fsck_24 : decode cX4_fsck 24 = .ok (.aload_n 0, 1) := by decide +kernel
theorem dX4_fsck_25 : decode cX4_fsck 25 = .ok (.getfield 10, 3) := by decide +kernel
theorem dX4_fsck_28 : decode cX4_fsck 28 = .ok (.aload_n 0, 1) := by decide +kernel
theorem dX4_fsck_29 : decode cX4_fsck 29 = .ok (.getfield 23, 3) := by decide +kernel
theorem dX4_fsck_32 : decode cX4_fsck 32 = .ok (.getfield 141, 3) := by decide +kernel
theorem dX4_fsck_35 : decode cX4_fsck 35 = .ok (.invokevirtual 142, 3) := by decide +kernel
theorem dX4_fsck_38 : decode cX4_fsck 38 = .ok (.aload_n 0, 1) := by decide +kernel
theorem dX4_fsck_39 : decode cX4_fsck 39 = .ok (.getfield 23, 3) := by decide +kernel
theorem dX4_fsck_42 : decode cX4_fsck 42 = .ok (.invokestatic 132, 3) := by decide +kernel
theorem dX4_fsck_45 : decode cX4_fsck 45 = .ok (.ireturn, 1) := by decide +kernel
theorem dX4_peek_0 : decode cX4_peek 0 = .ok (.iload_n 1, 1) := by decide +kernel
theorem dX4_peek_1 : decode cX4_peek 1 = .ok (.ifCond .lt 10, 3) := by decide +kernel
theorem dX4_peek_4 : decode cX4_peek 4 = .ok (.iload_n 1, 1) := by decide +kernel
theorem dX4_peek_5 : decode cX4_peek 5 = .ok (.sipush 332, 3) := by decide +kernel
theorem dX4_peek_8 : decode cX4_peek 8 = .ok (.if_icmp .lt 5, 3) := by decide +kernel
theorem dX4_peek_11 : decode cX4_peek 11 = .ok (.iconst 0, 1) := by decide +kernel
theorem dX4_peek_12 : decode cX4_peek 12 = .ok (.ireturn, 1) := by decide +kernel
theorem dX4_peek_13 : decode cX4_peek 13 = .ok (.aload_n 0, 1) := by decide +kernel
theorem dX4_peek_14 : decode cX4_peek 14 = .ok (.getfield 10, 3) := by decide +kernel
theorem dX4_peek_17 : decode cX4_peek 17 = .ok (.getfield 125, 3) := by decide +kernel
theorem dX4_peek_20 : decode cX4_peek 20 = .ok (.iload_n 1, 1) := by decide +kernel
theorem dX4_peek_21 : decode cX4_peek 21 = .ok (.iaload, 1) := by decide +kernel
theorem dX4_peek_22 : decode cX4_peek 22 = .ok (.ireturn, 1) := by decide +kernel
set_option maxRecDepth 20000 in
theorem ggX4_startAfresh_X1_clear : GoodIn wsX4_startAfresh wsX1_clear := goodIn_r _ [8, 9, 34] (by decide +kernel) (by decide +kernel)
set_option maxRecDepth 20000 in
theorem gX4_startAfresh_X1_clear : GoodIn wsX4_startAfresh (wsV RX4 145 RX1 yX1_clear wsX1_clear) := goodIn_app (goodIn_of _ (by decide +kernel)) ggX4_startAfresh_X1_clear
set_option maxRecDepth 20000 in
theorem ggX4_startAfresh_X2_copyFrom : GoodIn wsX4_startAfresh wsX2_copyFrom := goodIn_r _ [14, 15, 16, 17, 18, 19, 35] (by decide +kernel) (by decide +kernel)
set_option maxRecDepth 20000 in
theorem gX4_startAfresh_X2_copyFrom : GoodIn wsX4_startAfresh (wsV RX4 128 RX2 yX2_copyFrom wsX2_copyFrom) := goodIn_app (goodIn_of _ (by decide +kernel)) ggX4_startAfresh_X2_copyFrom
set_option maxRecDepth 20000 in
theorem ggX4_startAfresh_X4_goUp : GoodIn wsX4_startAfresh wsX4_goUp := goodIn_r _ [24, 25, 26, 27, 28, 29, 30, 31, 32, 33] (by decide +kernel) (by decide +kernel)
set_option maxRecDepth 20000 in
theorem gX4_startAfresh_X4_goUp : GoodIn wsX4_startAfresh (wsV RX4 138 RX4 yX4_goUp wsX4_goUp) := goodIn_app (goodIn_of _ (by decide +kernel)) ggX4_startAfresh_X4_goUp
theorem dX4_startAfresh_0 : decode cX4_startAfresh 0 = .ok (.aload_n 0, 1) := by decide +kernel
theorem dX4_startAfresh_1 : decode cX4_startAfresh 1 = .ok (.getfield 10, 3) := by decide +kernel
theorem dX4_startAfresh_4 : decode cX4_startAfresh 4 = .ok (.invokevirtual 145, 3) := by decide +kernel
theorem dX4_startAfresh_7 : decode cX4_startAfresh 7 = .ok (.aload_n 0, 1) := by decide +kernel
theorem dX4_startAfresh_8 : decode cX4_startAfresh 8 = .ok (.getfield 19, 3) := by decide +kernel
theorem dX4_startAfresh_11 : decode cX4_startAfresh 11 = .ok (.aload_n 0, 1) := by decide +kernel
theorem dX4_startAfresh_12 : decode cX4_startAfresh 12 = .ok (.getfield 10, 3) := by decide +kernel
theorem dX4_startAfresh_15 : decode cX4_startAfresh 15 = .ok (.getfield 125, 3) := by decide +kernel
theorem dX4_startAfresh_18 : decode cX4_startAfresh 18 = .ok (.invokevirtual 128, 3) := by decide +kernel
theorem dX4_startAfresh_21 : decode cX4_startAfresh 21 = .ok (.aload_n 0, 1) := by decide +kernel
theorem dX4_startAfresh_22 : decode cX4_startAfresh 22 = .ok (.invokevirtual 138, 3) := by decide +kernel
theorem dX4_startAfresh_25 : decode cX4_startAfresh 25 = .ok (.return_, 1) := by decide +kernel
theorem dX4_goUp_0 : decode cX4_goUp 0 = .ok (.iconst 0, 1) := by decide +kernel
theorem dX4_goUp_1 : decode cX4_goUp 1 = .ok (.istore_n 1, 1) := by decide +kernel
theorem dX4_goUp_2 : decode cX4_goUp 2 = .ok (.iload_n 1, 1) := by decide +kernel
theorem dX4_goUp_3 : decode cX4_goUp 3 = .ok (.iconst 4, 1) := by decide +kernel
theorem dX4_goUp_4 : decode cX4_goUp 4 = .ok (.if_icmp .ge 16, 3) := by decide +kernel
theorem dX4_goUp_7 : decode cX4_goUp 7 = .ok (.aload_n 0, 1) := by decide +kernel
theorem dX4_goUp_8 : decode cX4_goUp 8 = .ok (.getfield 26, 3) := by decide +kernel
theorem dX4_goUp_11 : decode cX4_goUp 11 = .ok (.iload_n 1, 1) := by decide +kernel
theorem dX4_goUp_12 : decode cX4_goUp 12 = .ok (.iconst (-1), 1) := by decide +kernel
theorem dX4_goUp_13 : decode cX4_goUp 13 = .ok (.iastore, 1) := by decide +kernel
theorem dX4_goUp_14 : decode cX4_goUp 14 = .ok (.iinc 1 1, 3) := by decide +kernel
theorem dX4_goUp_17 : decode cX4_goUp 17 = .ok (.goto (-15), 3) := by decide +kernel
theorem dX4_goUp_20 : decode cX4_goUp 20 = .ok (.aload_n 0, 1) := by decide +kernel
theorem dX4_goUp_21 : decode cX4_goUp 21 = .ok (.iconst (-1), 1) := by decide +kernel
theorem dX4_goUp_22 : decode cX4_goUp 22 = .ok (.putfield 115, 3) := by decide +kernel
theorem dX4_goUp_25 : decode cX4_goUp 25 = .ok (.aload_n 0, 1) := by decide +kernel
theorem dX4_goUp_26 : decode cX4_goUp 26 = .ok (.iconst 1, 1) := by decide +kernel
theorem dX4_goUp_27 : decode cX4_goUp 27 = .ok (.putfield 33, 3) := by decide +kernel
theorem dX4_goUp_30 : decode cX4_goUp 30 = .ok (.return_, 1) := by decide +kernel
theorem dX4_closedHandle_0 : decode cX4_closedHandle 0 = .ok (.iconst 0, 1) := by decide +kernel
theorem dX4_closedHandle_1 : decode cX4_closedHandle 1 = .ok (.istore_n 1, 1) := by decide +kernel
theorem dX4_closedHandle_2 : decode cX4_closedHandle 2 = .ok (.iload_n 1, 1) := by decide +kernel
theorem dX4_closedHandle_3 : decode cX4_closedHandle 3 = .ok (.iconst 4, 1) := by decide +kernel
theorem dX4_closedHandle_4 : decode cX4_closedHandle 4 = .ok (.if_icmp .ge 21, 3) := by decide +kernel
theorem dX4_closedHandle_7 : decode cX4_closedHandle 7 = .ok (.aload_n 0, 1) := by decide +kernel
theorem dX4_closedHandle_8 : decode cX4_closedHandle 8 = .ok (.getfield 26, 3) := by decide +kernel
theorem dX4_closedHandle_11 : decode cX4_closedHandle 11 = .ok (.iload_n 1, 1) := by decide +kernel
theorem dX4_closedHandle_12 : decode cX4_closedHandle 12 = .ok (.iaload, 1) := by decide +kernel
theorem dX4_closedHandle_13 : decode cX4_closedHandle 13 = .ok (.iconst (-1), 1) := by decide +kernel
theorem dX4_closedHandle_14 : decode cX4_closedHandle 14 = .ok (.if_icmp .ne 5, 3) := by decide +kernel
theorem dX4_closedHandle_17 : decode cX4_closedHandle 17 = .ok (.iload_n 1, 1) := by decide +kernel
theorem dX4_closedHandle_18 : decode cX4_closedHandle 18 = .ok (.ireturn, 1) := by decide +kernel
theorem dX4_closedHandle_19 : decode cX4_closedHandle 19 = .ok (.iinc 1 1, 3) := by decide +kernel
theorem dX4_closedHandle_22 : decode cX4_closedHandle 22 = .ok (.goto (-20), 3) := by decide +kernel
theorem dX4_closedHandle_25 : decode cX4_closedHandle 25 = .ok (.iconst (-1), 1) := by decide +kernel
theorem dX4_closedHandle_26 : decode cX4_closedHandle 26 = .ok (.ireturn, 1) := by decide +kernel
theorem dX4_isOpen_0 : decode cX4_isOpen 0 = .ok (.iload_n 1, 1) := by decide +kernel
theorem dX4_isOpen_1 : decode cX4_isOpen 1 = .ok (.ifCond .lt 22, 3) := by decide +kernel
theorem dX4_isOpen_4 : decode cX4_isOpen 4 = .ok (.iload_n 1, 1) := by decide +kernel
theorem dX4_isOpen_5 : decode cX4_isOpen 5 = .ok (.iconst 4, 1) := by decide +kernel
theorem dX4_isOpen_6 : decode cX4_isOpen 6 = .ok (.if_icmp .ge 17, 3) := by decide +kernel
theorem dX4_isOpen_9 : decode cX4_isOpen 9 = .ok (.aload_n 0, 1) := by decide +kernel
theorem dX4_isOpen_10 : decode cX4_isOpen 10 = .ok (.getfield 26, 3) := by decide +kernel
theorem dX4_isOpen_13 : decode cX4_isOpen 13 = .ok (.iload_n 1, 1) := by decide +kernel
theorem dX4_isOpen_14 : decode cX4_isOpen 14 = .ok (.iaload, 1) := by decide +kernel
theorem dX4_isOpen_15 : decode cX4_isOpen 15 = .ok (.iconst (-1), 1) := by decide +kernel
theorem dX4_isOpen_16 : decode cX4_isOpen 16 = .ok (.if_icmp .eq 7, 3) := by decide +kernel
theorem dX4_isOpen_19 : decode cX4_isOpen 19 = .ok (.iconst 1, 1) := by decide +kernel
theorem dX4_isOpen_20 : decode cX4_isOpen 20 = .ok (.goto 4, 3) := by decide +kernel
theorem dX4_isOpen_23 : decode cX4_isOpen 23 = .ok (.iconst 0, 1) := by decide +kernel
theorem dX4_isOpen_24 : decode cX4_isOpen 24 = .ok (.ireturn, 1) := by decide +kernel
theorem dX4_isInUse_0 : decode cX4_isInUse 0 = .ok (.iconst 0, 1) := by decide +kernel
theorem dX4_isInUse_1 : decode cX4_isInUse 1 = .ok (.istore_n 2, 1) := by decide +kernel
theorem dX4_isInUse_2 : decode cX4_isInUse 2 = .ok (.iload_n 2, 1) := by decide +kernel
theorem dX4_isInUse_3 : decode cX4_isInUse 3 = .ok (.iconst 4, 1) := by decide +kernel
theorem dX4_isInUse_4 : decode cX4_isInUse 4 = .ok (.if_icmp .ge 21, 3) := by decide +kernel
theorem dX4_isInUse_7 : decode cX4_isInUse 7 = .ok (.aload_n 0, 1) := by decide +kernel
theorem dX4_isInUse_8 : decode cX4_isInUse 8 = .ok (.getfield 26, 3) := by decide +kernel
theorem dX4_isInUse_11 : decode cX4_isInUse 11 = .ok (.iload_n 2, 1) := by decide +kernel
theorem dX4_isInUse_12 : decode cX4_isInUse 12 = .ok (.iaload, 1) := by decide +kernel
theorem dX4_isInUse_13 : decode cX4_isInUse 13 = .ok (.iload_n 1, 1) := by decide +kernel
theorem dX4_isInUse_14 : decode cX4_isInUse 14 = .ok (.if_icmp .ne 5, 3) := by decide +kernel
theorem dX4_isInUse_17 : decode cX4_isInUse 17 = .ok (.iconst 1, 1) := by decide +kernel
theorem dX4_isInUse_18 : decode cX4_isInUse 18 = .ok (.ireturn, 1) := by decide +kernel
theorem dX4_isInUse_19 : decode cX4_isInUse 19 = .ok (.iinc 2 1, 3) := by decide +kernel
theorem dX4_isInUse_22 : decode cX4_isInUse 22 = .ok (.goto (-20), 3) := by decide +kernel
theorem dX4_isInUse_25 : decode cX4_isInUse 25 = .ok (.iconst 0, 1) := by decide +kernel
theorem dX4_isInUse_26 : decode cX4_isInUse 26 = .ok (.ireturn, 1) := by decide +kernel
theorem dX4_isName_0 : decode cX4_isName 0 = .ok (.iload_n 0, 1) := by decide +kernel
theorem dX4_isName_1 : decode cX4_isName 1 = .ok (.iconst 1, 1) := by decide +kernel
theorem dX4_isName_2 : decode cX4_isName 2 = .ok (.if_icmp .lt 13, 3) := by decide +kernel
theorem dX4_isName_5 : decode cX4_isName 5 = .ok (.iload_n 0, 1) := by decide +kernel
theorem dX4_isName_6 : decode cX4_isName 6 = .ok (.bipush 99, 2) := by decide +kernel
theorem dX4_isName_8 : decode cX4_isName 8 = .ok (.if_icmp .gt 7, 3) := by decide +kernel
theorem dX4_isName_11 : decode cX4_isName 11 = .ok (.iconst 1, 1) := by decide +kernel
theorem dX4_isName_12 : decode cX4_isName 12 = .ok (.goto 4, 3) := by decide +kernel
theorem dX4_isName_15 : decode cX4_isName 15 = .ok (.iconst 0, 1) := by decide +kernel
theorem dX4_isName_16 : decode cX4_isName 16 = .ok (.ireturn, 1) := by decide +kernel
theorem dX4_isOwner_0 : decode cX4_isOwner 0 = .ok (.iload_n 0, 1) := by decide +kernel
theorem dX4_isOwner_1 : decode cX4_isOwner 1 = .ok (.ifCond .lt 12, 3) := by decide +kernel
theorem dX4_isOwner_4 : decode cX4_isOwner 4 = .ok (.iload_n 0, 1) := by decide +kernel
theorem dX4_isOwner_5 : decode cX4_isOwner 5 = .ok (.iconst 3, 1) := by decide +kernel
theorem dX4_isOwner_6 : decode cX4_isOwner 6 = .ok (.if_icmp .ge 7, 3) := by decide +kernel
theorem dX4_isOwner_9 : decode cX4_isOwner 9 = .ok (.iconst 1, 1) := by decide +kernel
theorem dX4_isOwner_10 : decode cX4_isOwner 10 = .ok (.goto 4, 3) := by decide +kernel
theorem dX4_isOwner_13 : decode cX4_isOwner 13 = .ok (.iconst 0, 1) := by decide +kernel
theorem dX4_isOwner_14 : decode cX4_isOwner 14 = .ok (.ireturn, 1) := by decide +kernel
theorem dX4_isChanged_0 : decode cX4_isChanged 0 = .ok (.aload_n 0, 1) := by decide +kernel
theorem dX4_isChanged_1 : decode cX4_isChanged 1 = .ok (.getfield 10, 3) := by decide +kernel
theorem dX4_isChanged_4 : decode cX4_isChanged 4 = .ok (.getfield 125, 3) := by decide +kernel
theorem dX4_isChanged_7 : decode cX4_isChanged 7 = .ok (.iload_n 1, 1) := by decide +kernel
theorem dX4_isChanged_8 : decode cX4_isChanged 8 = .ok (.iaload, 1) := by decide +kernel
theorem dX4_isChanged_9 : decode cX4_isChanged 9 = .ok (.aload_n 0, 1) := by decide +kernel
theorem dX4_isChanged_10 : decode cX4_isChanged 10 = .ok (.getfield 19, 3) := by decide +kernel
theorem dX4_isChanged_13 : decode cX4_isChanged 13 = .ok (.getfield 141, 3) := by decide +kernel
theorem dX4_isChanged_16 : decode cX4_isChanged 16 = .ok (.iload_n 1, 1) := by decide +kernel
theorem dX4_isChanged_17 : decode cX4_isChanged 17 = .ok (.iaload, 1) := by decide +kernel
theorem dX4_isChanged_18 : decode cX4_isChanged 18 = .ok (.if_icmp .eq 7, 3) := by decide +kernel
theorem dX4_isChanged_21 : decode cX4_isChanged 21 = .ok (.iconst 1, 1) := by decide +kernel
theorem dX4_isChanged_22 : decode cX4_isChanged 22 = .ok (.goto 4, 3) := by decide +kernel
theorem dX4_isChanged_25 : decode cX4_isChanged 25 = .ok (.iconst 0, 1) := by decide +kernel
theorem dX4_isChanged_26 : decode cX4_isChanged 26 = .ok (.ireturn, 1) := by decide +kernel
set_option maxRecDepth 20000 in
theorem ggX4_countChanges_X4_isChanged : GoodIn wsX4_countChanges wsX4_isChanged := goodIn_r _ [5, 6, 7, 8, 9, 10, 11, 12, 13, 14, 15, 16, 17] (by decide +kernel) (by decide +kernel)
set_option maxRecDepth 20000 in
theorem gX4_countChanges_X4_isChanged : GoodIn wsX4_countChanges (wsV RX4 148 RX4 yX4_isChanged wsX4_isChanged) := goodIn_app (goodIn_of _ (by decide +kernel)) ggX4_countChanges_X4_isChanged
theorem dX4_countChanges_0 : decode cX4_countChanges 0 = .ok (.iconst 0, 1) := by decide +kernel
theorem dX4_countChanges_1 : decode cX4_countChanges 1 = .ok (.istore_n 1, 1) := by decide +kernel
theorem dX4_countChanges_2 : decode cX4_countChanges 2 = .ok (.iconst 0, 1) := by decide +kernel
theorem dX4_countChanges_3 : decode cX4_countChanges 3 = .ok (.istore_n 2, 1) := by decide +kernel
theorem dX4_countChanges_4 : decode cX4_countChanges 4 = .ok (.iload_n 2, 1) := by decide +kernel
theorem dX4_countChanges_5 : decode cX4_countChanges 5 = .ok (.bipush 110, 2) := by decide +kernel
theorem dX4_countChanges_7 : decode cX4_countChanges 7 = .ok (.if_icmp .ge 20, 3) := by decide +kernel
theorem dX4_countChanges_10 : decode cX4_countChanges 10 = .ok (.aload_n 0, 1) := by decide +kernel
theorem dX4_countChanges_11 : decode cX4_countChanges 11 = .ok (.iload_n 2, 1) := by decide +kernel
theorem dX4_countChanges_12 : decode cX4_countChanges 12 = .ok (.invokevirtual 148, 3) := by decide +kernel
theorem dX4_countChanges_15 : decode cX4_countChanges 15 = .ok (.ifCond .eq 6, 3) := by decide +kernel
theorem dX4_countChanges_18 : decode cX4_countChanges 18 = .ok (.iinc 1 1, 3) := by decide +kernel
theorem dX4_countChanges_21 : decode cX4_countChanges 21 = .ok (.iinc 2 1, 3) := by decide +kernel
theorem dX4_countChanges_24 : decode cX4_countChanges 24 = .ok (.goto (-20), 3) := by decide +kernel
theorem dX4_countChanges_27 : decode cX4_countChanges 27 = .ok (.iload_n 1, 1) := by decide +kernel
theorem dX4_countChanges_28 : decode cX4_countChanges 28 = .ok (.ireturn, 1) := by decide +kernel
set_option maxRecDepth 20000 in
theorem ggX4_writeJournal_X4_isChanged : GoodIn wsX4_writeJournal wsX4_isChanged := goodIn_r _ [7, 8, 9, 1, 2, 19, 20, 21, 22, 23, 24, 26, 25] (by decide +kernel) (by decide +kernel)
set_option maxRecDepth 20000 in
theorem gX4_writeJournal_X4_isChanged : GoodIn wsX4_writeJournal (wsV RX4 148 RX4 yX4_isChanged wsX4_isChanged) := goodIn_app (goodIn_of _ (by decide +kernel)) ggX4_writeJournal_X4_isChanged
set_option maxRecDepth 20000 in
theorem ggX4_writeJournal_X4_writeCell : GoodIn wsX4_writeJournal wsX4_writeCell := goodIn_r _ [13, 14, 8, 9, 19, 20, 21, 22, 23, 24, 26] (by decide +kernel) (by decide +kernel)
set_option maxRecDepth 20000 in
theorem gX4_writeJournal_X4_writeCell : GoodIn wsX4_writeJournal (wsV RX4 111 RX4 yX4_writeCell wsX4_writeCell) := goodIn_app (goodIn_of _ (by decide +kernel)) ggX4_writeJournal_X4_writeCell
set_option maxRecDepth 20000 in
theorem ggX4_writeJournal_X1_nextCheck : GoodIn wsX4_writeJournal wsX1_nextCheck := goodIn_r _ [18] (by decide +kernel) (by decide +kernel)
set_option maxRecDepth 20000 in
theorem gX4_writeJournal_X1_nextCheck : GoodIn wsX4_writeJournal (va_wsS RX4 151 yX1_nextCheck wsX1_nextCheck) := goodIn_app (goodIn_of _ (by decide +kernel)) ggX4_writeJournal_X1_nextCheck
theorem dX4_writeJournal_0 : decode cX4_writeJournal 0 = .ok (.iload_n 1, 1) := by decide +kernel
theorem dX4_writeJournal_1 : decode cX4_writeJournal 1 = .ok (.istore_n 2, 1) := by decide +kernel
theorem dX4_writeJournal_2 : decode cX4_writeJournal 2 = .ok (.bipush 112, 2) := by decide +kernel
theorem dX4_writeJournal_4 : decode cX4_writeJournal 4 = .ok (.istore_n 3, 1) := by decide +kernel
theorem dX4_writeJournal_5 : decode cX4_writeJournal 5 = .ok (.iconst 0, 1) := by decide +kernel
theorem dX4_writeJournal_6 : decode cX4_writeJournal 6 = .ok (.istore 4, 2) := by decide +kernel
theorem dX4_writeJournal_8 : decode cX4_writeJournal 8 = .ok (.iload 4, 2) := by decide +kernel
theorem dX4_writeJournal_10 : decode cX4_writeJournal 10 = .ok (.bipush 110, 2) := by decide +kernel
theorem dX4_writeJournal_12 : decode cX4_writeJournal 12 = .ok (.if_icmp .ge 66, 3) := by decide +kernel
theorem dX4_writeJournal_15 : decode cX4_writeJournal 15 = .ok (.aload_n 0, 1) := by decide +kernel
theorem dX4_writeJournal_16 : decode cX4_writeJournal 16 = .ok (.iload 4, 2) := by decide +kernel
theorem dX4_writeJournal_18 : decode cX4_writeJournal 18 = .ok (.invokevirtual 148, 3) := by decide +kernel
theorem dX4_writeJournal_21 : decode cX4_writeJournal 21 = .ok (.ifCond .eq 51, 3) := by decide +kernel
theorem dX4_writeJournal_24 : decode cX4_writeJournal 24 = .ok (.aload_n 0, 1) := by decide +kernel
theorem dX4_writeJournal_25 : decode cX4_writeJournal 25 = .ok (.getfield 19, 3) := by decide +kernel
theorem dX4_writeJournal_28 : decode cX4_writeJournal 28 = .ok (.getfield 141, 3) := by decide +kernel
theorem dX4_writeJournal_31 : decode cX4_writeJournal 31 = .ok (.iload 4, 2) := by decide +kernel
theorem dX4_writeJournal_33 : decode cX4_writeJournal 33 = .ok (.iaload, 1) := by decide +kernel
theorem dX4_writeJournal_34 : decode cX4_writeJournal 34 = .ok (.istore 5, 2) := by decide +kernel
theorem dX4_writeJournal_36 : decode cX4_writeJournal 36 = .ok (.aload_n 0, 1) := by decide +kernel
theorem dX4_writeJournal_37 : decode cX4_writeJournal 37 = .ok (.iload_n 3, 1) := by decide +kernel
theorem dX4_writeJournal_38 : decode cX4_writeJournal 38 = .ok (.iload 4, 2) := by decide +kernel
theorem dX4_writeJournal_40 : decode cX4_writeJournal 40 = .ok (.invokevirtual 111, 3) := by decide +kernel
theorem dX4_writeJournal_43 : decode cX4_writeJournal 43 = .ok (.ifCond .eq 15, 3) := by decide +kernel
theorem dX4_writeJournal_46 : decode cX4_writeJournal 46 = .ok (.aload_n 0, 1) := by decide +kernel
theorem dX4_writeJournal_47 : decode cX4_writeJournal 47 = .ok (.iload_n 3, 1) := by decide +kernel
theorem dX4_writeJournal_48 : decode cX4_writeJournal 48 = .ok (.iconst 1, 1) := by decide +kernel
theorem dX4_writeJournal_49 : decode cX4_writeJournal 49 = .ok (.iadd, 1) := by decide +kernel
theorem dX4_writeJournal_50 : decode cX4_writeJournal 50 = .ok (.iload 5, 2) := by decide +kernel
theorem dX4_writeJournal_52 : decode cX4_writeJournal 52 = .ok (.invokevirtual 111, 3) := by decide +kernel
theorem dX4_writeJournal_55 : decode cX4_writeJournal 55 = .ok (.ifCond .ne 5, 3) := by decide +kernel
theorem dX4_writeJournal_58 : decode cX4_writeJournal 58 = .ok (.iconst 0, 1) := by decide +kernel
theorem dX4_writeJournal_59 : decode cX4_writeJournal 59 = .ok (.ireturn, 1) := by decide +kernel
theorem dX4_writeJournal_60 : decode cX4_writeJournal 60 = .ok (.iload_n 2, 1) := by decide +kernel
theorem dX4_writeJournal_61 : decode cX4_writeJournal 61 = .ok (.iload 4, 2) := by decide +kernel
theorem dX4_writeJournal_63 : decode cX4_writeJournal 63 = .ok (.iload 5, 2) := by decide +kernel
theorem dX4_writeJournal_65 : decode cX4_writeJournal 65 = .ok (.invokestatic 151, 3) := by decide +kernel
theorem dX4_writeJournal_68 : decode cX4_writeJournal 68 = .ok (.istore_n 2, 1) := by decide +kernel
theorem dX4_writeJournal_69 : decode cX4_writeJournal 69 = .ok (.iinc 3 2, 3) := by decide +kernel
theorem dX4_writeJournal_72 : decode cX4_writeJournal 72 = .ok (.iinc 4 1, 3) := by decide +kernel
theorem dX4_writeJournal_75 : decode cX4_writeJournal 75 = .ok (.goto (-67), 3) := by decide +kernel
theorem dX4_writeJournal_78 : decode cX4_writeJournal 78 = .ok (.aload_n 0, 1) := by decide +kernel
theorem dX4_writeJournal_79 : decode cX4_writeJournal 79 = .ok (.bipush 111, 2) := by decide +kernel
theorem dX4_writeJournal_81 : decode cX4_writeJournal 81 = .ok (.iload_n 2, 1) := by decide +kernel
theorem dX4_writeJournal_82 : decode cX4_writeJournal 82 = .ok (.invokevirtual 111, 3) := by decide +kernel
theorem dX4_writeJournal_85 : decode cX4_writeJournal 85 = .ok (.ifCond .eq 17, 3) := by decide +kernel
theorem dX4_writeJournal_88 : decode cX4_writeJournal 88 = .ok (.aload_n 0, 1) := by decide +kernel
theorem dX4_writeJournal_89 : decode cX4_writeJournal 89 = .ok (.bipush 110, 2) := by decide +kernel
theorem dX4_writeJournal_91 : decode cX4_writeJournal 91 = .ok (.iload_n 1, 1) := by decide +kernel
theorem dX4_writeJournal_92 : decode cX4_writeJournal 92 = .ok (.invokevirtual 111, 3) := by decide +kernel
theorem dX4_writeJournal_95 : decode cX4_writeJournal 95 = .ok (.ifCond .eq 7, 3) := by decide +kernel
theorem dX4_writeJournal_98 : decode cX4_writeJournal 98 = .ok (.iconst 1, 1) := by decide +kernel
theorem dX4_writeJournal_99 : decode cX4_writeJournal 99 = .ok (.goto 4, 3) := by decide +kernel
theorem dX4_writeJournal_102 : decode cX4_writeJournal 102 = .ok (.iconst 0, 1) := by decide +kernel
theorem dX4_writeJournal_103 : decode cX4_writeJournal 103 = .ok (.ireturn, 1) := by decide +kernel
set_option maxRecDepth 20000 in
theorem ggX4_writeHome_X4_isChanged : GoodIn wsX4_writeHome wsX4_isChanged := goodIn_r _ [7, 8, 9, 1, 2, 15, 16, 17, 18, 19, 20, 22, 21] (by decide +kernel) (by decide +kernel)
set_option maxRecDepth 20000 in
theorem gX4_writeHome_X4_isChanged : GoodIn wsX4_writeHome (wsV RX4 148 RX4 yX4_isChanged wsX4_isChanged) := goodIn_app (goodIn_of _ (by decide +kernel)) ggX4_writeHome_X4_isChanged
set_option maxRecDepth 20000 in
theorem ggX4_writeHome_X4_writeCell : GoodIn wsX4_writeHome wsX4_writeCell := goodIn_r _ [13, 14, 8, 9, 15, 16, 17, 18, 19, 20, 22] (by decide +kernel) (by decide +kernel)
set_option maxRecDepth 20000 in
theorem gX4_writeHome_X4_writeCell : GoodIn wsX4_writeHome (wsV RX4 111 RX4 yX4_writeCell wsX4_writeCell) := goodIn_app (goodIn_of _ (by decide +kernel)) ggX4_writeHome_X4_writeCell
theorem dX4_writeHome_0 : decode cX4_writeHome 0 = .ok (.iconst 0, 1) := by decide +kernel
theorem dX4_writeHome_1 : decode cX4_writeHome 1 = .ok (.istore_n 1, 1) := by decide +kernel
theorem dX4_writeHome_2 : decode cX4_writeHome 2 = .ok (.iload_n 1, 1) := by decide +kernel
theorem dX4_writeHome_3 : decode cX4_writeHome 3 = .ok (.bipush 110, 2) := by decide +kernel
theorem dX4_writeHome_5 : decode cX4_writeHome 5 = .ok (.if_icmp .ge 36, 3) := by decide +kernel
theorem dX4_writeHome_8 : decode cX4_writeHome 8 = .ok (.aload_n 0, 1) := by decide +kernel
theorem dX4_writeHome_9 : decode cX4_writeHome 9 = .ok (.iload_n 1, 1) := by decide +kernel
theorem dX4_writeHome_10 : decode cX4_writeHome 10 = .ok (.invokevirtual 148, 3) := by decide +kernel
theorem dX4_writeHome_13 : decode cX4_writeHome 13 = .ok (.ifCond .eq 22, 3) := by decide +kernel
theorem dX4_writeHome_16 : decode cX4_writeHome 16 = .ok (.aload_n 0, 1) := by decide +kernel
theorem dX4_writeHome_17 : decode cX4_writeHome 17 = .ok (.iload_n 1, 1) := by decide +kernel
theorem dX4_writeHome_18 : decode cX4_writeHome 18 = .ok (.aload_n 0, 1) := by decide +kernel
theorem dX4_writeHome_19 : decode cX4_writeHome 19 = .ok (.getfield 19, 3) := by decide +kernel
theorem dX4_writeHome_22 : decode cX4_writeHome 22 = .ok (.getfield 141, 3) := by decide +kernel
theorem dX4_writeHome_25 : decode cX4_writeHome 25 = .ok (.iload_n 1, 1) := by decide +kernel
theorem dX4_writeHome_26 : decode cX4_writeHome 26 = .ok (.iaload, 1) := by decide +kernel
theorem dX4_writeHome_27 : decode cX4_writeHome 27 = .ok (.invokevirtual 111, 3) := by decide +kernel
theorem dX4_writeHome_30 : decode cX4_writeHome 30 = .ok (.ifCond .ne 5, 3) := by decide +kernel
theorem dX4_writeHome_33 : decode cX4_writeHome 33 = .ok (.iconst 0, 1) := by decide +kernel
theorem dX4_writeHome_34 : decode cX4_writeHome 34 = .ok (.ireturn, 1) := by decide +kernel
theorem dX4_writeHome_35 : decode cX4_writeHome 35 = .ok (.iinc 1 1, 3) := by decide +kernel
theorem dX4_writeHome_38 : decode cX4_writeHome 38 = .ok (.goto (-36), 3) := by decide +kernel
theorem dX4_writeHome_41 : decode cX4_writeHome 41 = .ok (.iconst 1, 1) := by decide +kernel
theorem dX4_writeHome_42 : decode cX4_writeHome 42 = .ok (.ireturn, 1) := by decide +kernel
theorem dX4_writeCell_0 : decode cX4_writeCell 0 = .ok (.aload_n 0, 1) := by decide +kernel
theorem dX4_writeCell_1 : decode cX4_writeCell 1 = .ok (.getfield 115, 3) := by decide +kernel
theorem dX4_writeCell_4 : decode cX4_writeCell 4 = .ok (.ifCond .ne 5, 3) := by decide +kernel
theorem dX4_writeCell_7 : decode cX4_writeCell 7 = .ok (.iconst 0, 1) := by decide +kernel
theorem dX4_writeCell_8 : decode cX4_writeCell 8 = .ok (.ireturn, 1) := by decide +kernel
theorem dX4_writeCell_9 : decode cX4_writeCell 9 = .ok (.aload_n 0, 1) := by decide +kernel
theorem dX4_writeCell_10 : decode cX4_writeCell 10 = .ok (.getfield 115, 3) := by decide +kernel
theorem dX4_writeCell_13 : decode cX4_writeCell 13 = .ok (.ifCond .le 13, 3) := by decide +kernel
theorem dX4_writeCell_16 : decode cX4_writeCell 16 = .ok (.aload_n 0, 1) := by decide +kernel
theorem dX4_writeCell_17 : decode cX4_writeCell 17 = .ok (.dup, 1) := by decide +kernel
theorem dX4_writeCell_18 : decode cX4_writeCell 18 = .ok (.getfield 115, 3) := by decide +kernel
theorem dX4_writeCell_21 : decode cX4_writeCell 21 = .ok (.iconst 1, 1) := by decide +kernel
theorem dX4_writeCell_22 : decode cX4_writeCell 22 = .ok (.isub, 1) := by decide +kernel
theorem dX4_writeCell_23 : decode cX4_writeCell 23 = .ok (.putfield 115, 3) := by decide +kernel
theorem dX4_writeCell_26 : decode cX4_writeCell 26 = .ok (.aload_n 0, 1) := by decide +kernel
theorem dX4_writeCell_27 : decode cX4_writeCell 27 = .ok (.getfield 10, 3) := by decide +kernel
theorem dX4_writeCell_30 : decode cX4_writeCell 30 = .ok (.getfield 125, 3) := by decide +kernel
theorem dX4_writeCell_33 : decode cX4_writeCell 33 = .ok (.iload_n 1, 1) := by decide +kernel
theorem dX4_writeCell_34 : decode cX4_writeCell 34 = .ok (.iload_n 2, 1) := by decide +kernel
theorem dX4_writeCell_35 : decode cX4_writeCell 35 = .ok (.iastore, 1) := by decide +kernel
theorem dX4_writeCell_36 : decode cX4_writeCell 36 = .ok (.iconst 1, 1) := by decide +kernel
theorem dX4_writeCell_37 : decode cX4_writeCell 37 = .ok (.ireturn, 1) := by decide +kernel
