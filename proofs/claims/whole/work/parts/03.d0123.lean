set_option maxRecDepth 20000 in
theorem ggX0_leastBroken_X0_slotsAreInRange : GoodIn wsX0_leastBroken wsX0_slotsAreInRange := goodIn_r _ [5, 6, 7, 8, 9, 10, 11, 12, 13, 4, 14, 15, 16, 17, 18, 19, 20, 21, 22, 23, 24, 25, 1, 105] (by decide +kernel) (by decide +kernel)
set_option maxRecDepth 20000 in
theorem gX0_leastBroken_X0_slotsAreInRange : GoodIn wsX0_leastBroken (va_wsS RX0 9 yX0_slotsAreInRange wsX0_slotsAreInRange) := goodIn_app (goodIn_of _ (by decide +kernel)) ggX0_leastBroken_X0_slotsAreInRange
set_option maxRecDepth 20000 in
theorem ggX0_leastBroken_X0_namesDiffer : GoodIn wsX0_leastBroken wsX0_namesDiffer := goodIn_r _ [28, 6, 7, 8, 9, 10, 11, 105] (by decide +kernel) (by decide +kernel)
set_option maxRecDepth 20000 in
theorem gX0_leastBroken_X0_namesDiffer : GoodIn wsX0_leastBroken (va_wsS RX0 15 yX0_namesDiffer wsX0_namesDiffer) := goodIn_app (goodIn_of _ (by decide +kernel)) ggX0_leastBroken_X0_namesDiffer
set_option maxRecDepth 20000 in
theorem ggX0_leastBroken_X0_extentsAreRuns : GoodIn wsX0_leastBroken wsX0_extentsAreRuns := goodIn_r _ [31, 32, 33, 34, 9, 35, 11, 36, 37, 38, 39, 40, 41, 42, 43, 44, 45, 46, 47, 48, 49, 50, 51, 105] (by decide +kernel) (by decide +kernel)
set_option maxRecDepth 20000 in
theorem gX0_leastBroken_X0_extentsAreRuns : GoodIn wsX0_leastBroken (va_wsS RX0 18 yX0_extentsAreRuns wsX0_extentsAreRuns) := goodIn_app (goodIn_of _ (by decide +kernel)) ggX0_leastBroken_X0_extentsAreRuns
set_option maxRecDepth 20000 in
theorem ggX0_leastBroken_X0_runsAreApart : GoodIn wsX0_leastBroken wsX0_runsAreApart := goodIn_r _ [54, 32, 33, 34, 9, 35, 11, 55, 56, 38, 57, 43, 44, 45, 49, 50, 51, 58, 59, 60, 105] (by decide +kernel) (by decide +kernel)
set_option maxRecDepth 20000 in
theorem gX0_leastBroken_X0_runsAreApart : GoodIn wsX0_leastBroken (va_wsS RX0 21 yX0_runsAreApart wsX0_runsAreApart) := goodIn_app (goodIn_of _ (by decide +kernel)) ggX0_leastBroken_X0_runsAreApart
set_option maxRecDepth 20000 in
theorem ggX0_leastBroken_X0_runsFitLengths : GoodIn wsX0_leastBroken wsX0_runsFitLengths := goodIn_r _ [63, 19, 20, 21, 9, 22, 11, 64, 65, 66, 67, 68, 69, 70, 71, 33, 34, 35, 72, 47, 38, 48, 49, 50, 51, 73, 74, 75, 76, 32, 77, 105] (by decide +kernel) (by decide +kernel)
set_option maxRecDepth 20000 in
theorem gX0_leastBroken_X0_runsFitLengths : GoodIn wsX0_leastBroken (va_wsS RX0 24 yX0_runsFitLengths wsX0_runsFitLengths) := goodIn_app (goodIn_of _ (by decide +kernel)) ggX0_leastBroken_X0_runsFitLengths
set_option maxRecDepth 20000 in
theorem ggX0_leastBroken_X0_bitsOfAllRuns : GoodIn wsX0_leastBroken wsX0_bitsOfAllRuns := goodIn_r _ [80, 32, 33, 34, 9, 35, 11, 55, 56, 38, 57, 43, 44, 45, 49, 50, 51, 58, 59, 60, 105] (by decide +kernel) (by decide +kernel)
set_option maxRecDepth 20000 in
theorem gX0_leastBroken_X0_bitsOfAllRuns : GoodIn wsX0_leastBroken (va_wsS RX0 33 yX0_bitsOfAllRuns wsX0_bitsOfAllRuns) := goodIn_app (goodIn_of _ (by decide +kernel)) ggX0_leastBroken_X0_bitsOfAllRuns
set_option maxRecDepth 20000 in
theorem ggX0_leastBroken_X0_quotasCoverUsage : GoodIn wsX0_leastBroken wsX0_quotasCoverUsage := goodIn_r _ [83, 84, 85, 86, 9, 87, 11, 88, 89, 90, 91, 92, 16, 17, 18, 93, 68, 69, 70, 71, 33, 34, 35, 72, 47, 38, 48, 49, 50, 51, 12, 13, 4, 14, 105] (by decide +kernel) (by decide +kernel)
set_option maxRecDepth 20000 in
theorem gX0_leastBroken_X0_quotasCoverUsage : GoodIn wsX0_leastBroken (va_wsS RX0 37 yX0_quotasCoverUsage wsX0_quotasCoverUsage) := goodIn_app (goodIn_of _ (by decide +kernel)) ggX0_leastBroken_X0_quotasCoverUsage
set_option maxRecDepth 20000 in
theorem ggX0_leastBroken_X0_looseWordsAreZero : GoodIn wsX0_leastBroken wsX0_looseWordsAreZero := goodIn_r _ [96, 1, 97, 98, 4, 99, 19, 20, 21, 9, 22, 11, 100, 101, 102, 103, 71, 33, 34, 35, 72, 47, 38, 48, 49, 50, 51, 104, 44, 45, 105] (by decide +kernel) (by decide +kernel)
set_option maxRecDepth 20000 in
theorem gX0_leastBroken_X0_looseWordsAreZero : GoodIn wsX0_leastBroken (va_wsS RX0 40 yX0_looseWordsAreZero wsX0_looseWordsAreZero) := goodIn_app (goodIn_of _ (by decide +kernel)) ggX0_leastBroken_X0_looseWordsAreZero
theorem dX0_leastBroken_0 : decode cX0_leastBroken 0 = .ok (.aload_n 0, 1) := by decide +kernel
theorem dX0_leastBroken_1 : decode cX0_leastBroken 1 = .ok (.invokestatic 9, 3) := by decide +kernel
theorem dX0_leastBroken_4 : decode cX0_leastBroken 4 = .ok (.ifCond .ne 5, 3) := by decide +kernel
theorem dX0_leastBroken_7 : decode cX0_leastBroken 7 = .ok (.iconst 1, 1) := by decide +kernel
theorem dX0_leastBroken_8 : decode cX0_leastBroken 8 = .ok (.ireturn, 1) := by decide +kernel
theorem dX0_leastBroken_9 : decode cX0_leastBroken 9 = .ok (.aload_n 0, 1) := by decide +kernel
theorem dX0_leastBroken_10 : decode cX0_leastBroken 10 = .ok (.invokestatic 15, 3) := by decide +kernel
theorem dX0_leastBroken_13 : decode cX0_leastBroken 13 = .ok (.ifCond .ne 5, 3) := by decide +kernel
theorem dX0_leastBroken_16 : decode cX0_leastBroken 16 = .ok (.iconst 2, 1) := by decide +kernel
theorem dX0_leastBroken_17 : decode cX0_leastBroken 17 = .ok (.ireturn, 1) := by decide +kernel
theorem dX0_leastBroken_18 : decode cX0_leastBroken 18 = .ok (.aload_n 0, 1) := by decide +kernel
theorem dX0_leastBroken_19 : decode cX0_leastBroken 19 = .ok (.invokestatic 18, 3) := by decide +kernel
theorem dX0_leastBroken_22 : decode cX0_leastBroken 22 = .ok (.ifCond .ne 5, 3) := by decide +kernel
theorem dX0_leastBroken_25 : decode cX0_leastBroken 25 = .ok (.iconst 3, 1) := by decide +kernel
theorem dX0_leastBroken_26 : decode cX0_leastBroken 26 = .ok (.ireturn, 1) := by decide +kernel
theorem dX0_leastBroken_27 : decode cX0_leastBroken 27 = .ok (.aload_n 0, 1) := by decide +kernel
theorem dX0_leastBroken_28 : decode cX0_leastBroken 28 = .ok (.invokestatic 21, 3) := by decide +kernel
theorem dX0_leastBroken_31 : decode cX0_leastBroken 31 = .ok (.ifCond .ne 5, 3) := by decide +kernel
theorem dX0_leastBroken_34 : decode cX0_leastBroken 34 = .ok (.iconst 4, 1) := by decide +kernel
theorem dX0_leastBroken_35 : decode cX0_leastBroken 35 = .ok (.ireturn, 1) := by decide +kernel
theorem dX0_leastBroken_36 : decode cX0_leastBroken 36 = .ok (.aload_n 0, 1) := by decide +kernel
theorem dX0_leastBroken_37 : decode cX0_leastBroken 37 = .ok (.invokestatic 24, 3) := by decide +kernel
theorem dX0_leastBroken_40 : decode cX0_leastBroken 40 = .ok (.ifCond .ne 5, 3) := by decide +kernel
theorem dX0_leastBroken_43 : decode cX0_leastBroken 43 = .ok (.iconst 5, 1) := by decide +kernel
theorem dX0_leastBroken_44 : decode cX0_leastBroken 44 = .ok (.ireturn, 1) := by decide +kernel
theorem dX0_leastBroken_45 : decode cX0_leastBroken 45 = .ok (.aload_n 0, 1) := by decide +kernel
theorem dX0_leastBroken_46 : decode cX0_leastBroken 46 = .ok (.getfield 27, 3) := by decide +kernel
theorem dX0_leastBroken_49 : decode cX0_leastBroken 49 = .ok (.bipush 45, 2) := by decide +kernel
theorem dX0_leastBroken_51 : decode cX0_leastBroken 51 = .ok (.iaload, 1) := by decide +kernel
theorem dX0_leastBroken_52 : decode cX0_leastBroken 52 = .ok (.aload_n 0, 1) := by decide +kernel
theorem dX0_leastBroken_53 : decode cX0_leastBroken 53 = .ok (.invokestatic 33, 3) := by decide +kernel
theorem dX0_leastBroken_56 : decode cX0_leastBroken 56 = .ok (.if_icmp .eq 6, 3) := by decide +kernel
theorem dX0_leastBroken_59 : decode cX0_leastBroken 59 = .ok (.bipush 6, 2) := by decide +kernel
theorem dX0_leastBroken_61 : decode cX0_leastBroken 61 = .ok (.ireturn, 1) := by decide +kernel
theorem dX0_leastBroken_62 : decode cX0_leastBroken 62 = .ok (.aload_n 0, 1) := by decide +kernel
theorem dX0_leastBroken_63 : decode cX0_leastBroken 63 = .ok (.invokestatic 37, 3) := by decide +kernel
theorem dX0_leastBroken_66 : decode cX0_leastBroken 66 = .ok (.ifCond .ne 6, 3) := by decide +kernel
theorem dX0_leastBroken_69 : decode cX0_leastBroken 69 = .ok (.bipush 7, 2) := by decide +kernel
theorem dX0_leastBroken_71 : decode cX0_leastBroken 71 = .ok (.ireturn, 1) := by decide +kernel
theorem dX0_leastBroken_72 : decode cX0_leastBroken 72 = .ok (.aload_n 0, 1) := by decide +kernel
theorem dX0_leastBroken_73 : decode cX0_leastBroken 73 = .ok (.invokestatic 40, 3) := by decide +kernel
theorem dX0_leastBroken_76 : decode cX0_leastBroken 76 = .ok (.ifCond .eq 7, 3) := by decide +kernel
theorem dX0_leastBroken_79 : decode cX0_leastBroken 79 = .ok (.iconst 0, 1) := by decide +kernel
theorem dX0_leastBroken_80 : decode cX0_leastBroken 80 = .ok (.goto 5, 3) := by decide +kernel
theorem dX0_leastBroken_83 : decode cX0_leastBroken 83 = .ok (.bipush 8, 2) := by decide +kernel
theorem dX0_leastBroken_85 : decode cX0_leastBroken 85 = .ok (.ireturn, 1) := by decide +kernel
theorem dX0_isIn_0 : decode cX0_isIn 0 = .ok (.iload_n 0, 1) := by decide +kernel
theorem dX0_isIn_1 : decode cX0_isIn 1 = .ok (.iload_n 1, 1) := by decide +kernel
theorem dX0_isIn_2 : decode cX0_isIn 2 = .ok (.if_icmp .lt 12, 3) := by decide +kernel
theorem dX0_isIn_5 : decode cX0_isIn 5 = .ok (.iload_n 0, 1) := by decide +kernel
theorem dX0_isIn_6 : decode cX0_isIn 6 = .ok (.iload_n 2, 1) := by decide +kernel
theorem dX0_isIn_7 : decode cX0_isIn 7 = .ok (.if_icmp .gt 7, 3) := by decide +kernel
theorem dX0_isIn_10 : decode cX0_isIn 10 = .ok (.iconst 1, 1) := by decide +kernel
theorem dX0_isIn_11 : decode cX0_isIn 11 = .ok (.goto 4, 3) := by decide +kernel
theorem dX0_isIn_14 : decode cX0_isIn 14 = .ok (.iconst 0, 1) := by decide +kernel
theorem dX0_isIn_15 : decode cX0_isIn 15 = .ok (.ireturn, 1) := by decide +kernel
set_option maxRecDepth 20000 in
theorem ggX0_slotsAreInRange_X2_nameOf : GoodIn wsX0_slotsAreInRange wsX2_nameOf := goodIn_r _ [5, 6, 23] (by decide +kernel) (by decide +kernel)
set_option maxRecDepth 20000 in
theorem gX0_slotsAreInRange_X2_nameOf : GoodIn wsX0_slotsAreInRange (wsV RX0 43 RX2 yX2_nameOf wsX2_nameOf) := goodIn_app (goodIn_of _ (by decide +kernel)) ggX0_slotsAreInRange_X2_nameOf
set_option maxRecDepth 20000 in
theorem ggX0_slotsAreInRange_X0_isIn : GoodIn wsX0_slotsAreInRange wsX0_isIn := goodIn_r _ [10] (by decide +kernel) (by decide +kernel)
set_option maxRecDepth 20000 in
theorem gX0_slotsAreInRange_X0_isIn : GoodIn wsX0_slotsAreInRange (va_wsS RX0 47 yX0_isIn wsX0_isIn) := goodIn_app (goodIn_of _ (by decide +kernel)) ggX0_slotsAreInRange_X0_isIn
set_option maxRecDepth 20000 in
theorem ggX0_slotsAreInRange_X2_ownerOf : GoodIn wsX0_slotsAreInRange wsX2_ownerOf := goodIn_r _ [14, 6, 23] (by decide +kernel) (by decide +kernel)
set_option maxRecDepth 20000 in
theorem gX0_slotsAreInRange_X2_ownerOf : GoodIn wsX0_slotsAreInRange (wsV RX0 51 RX2 yX2_ownerOf wsX2_ownerOf) := goodIn_app (goodIn_of _ (by decide +kernel)) ggX0_slotsAreInRange_X2_ownerOf
set_option maxRecDepth 20000 in
theorem ggX0_slotsAreInRange_X2_lengthOf : GoodIn wsX0_slotsAreInRange wsX2_lengthOf := goodIn_r _ [18, 6, 23] (by decide +kernel) (by decide +kernel)
set_option maxRecDepth 20000 in
theorem gX0_slotsAreInRange_X2_lengthOf : GoodIn wsX0_slotsAreInRange (wsV RX0 54 RX2 yX2_lengthOf wsX2_lengthOf) := goodIn_app (goodIn_of _ (by decide +kernel)) ggX0_slotsAreInRange_X2_lengthOf
set_option maxRecDepth 20000 in
theorem ggX0_slotsAreInRange_X0_isAllZero : GoodIn wsX0_slotsAreInRange wsX0_isAllZero := goodIn_r _ [21, 22, 23] (by decide +kernel) (by decide +kernel)
set_option maxRecDepth 20000 in
theorem gX0_slotsAreInRange_X0_isAllZero : GoodIn wsX0_slotsAreInRange (va_wsS RX0 57 yX0_isAllZero wsX0_isAllZero) := goodIn_app (goodIn_of _ (by decide +kernel)) ggX0_slotsAreInRange_X0_isAllZero
theorem dX0_slotsAreInRange_0 : decode cX0_slotsAreInRange 0 = .ok (.iconst 0, 1) := by decide +kernel
theorem dX0_slotsAreInRange_1 : decode cX0_slotsAreInRange 1 = .ok (.istore_n 1, 1) := by decide +kernel
theorem dX0_slotsAreInRange_2 : decode cX0_slotsAreInRange 2 = .ok (.iload_n 1, 1) := by decide +kernel
theorem dX0_slotsAreInRange_3 : decode cX0_slotsAreInRange 3 = .ok (.bipush 6, 2) := by decide +kernel
theorem dX0_slotsAreInRange_5 : decode cX0_slotsAreInRange 5 = .ok (.if_icmp .ge 70, 3) := by decide +kernel
theorem dX0_slotsAreInRange_8 : decode cX0_slotsAreInRange 8 = .ok (.aload_n 0, 1) := by decide +kernel
theorem dX0_slotsAreInRange_9 : decode cX0_slotsAreInRange 9 = .ok (.iload_n 1, 1) := by decide +kernel
theorem dX0_slotsAreInRange_10 : decode cX0_slotsAreInRange 10 = .ok (.invokevirtual 43, 3) := by decide +kernel
theorem dX0_slotsAreInRange_13 : decode cX0_slotsAreInRange 13 = .ok (.iconst 0, 1) := by decide +kernel
theorem dX0_slotsAreInRange_14 : decode cX0_slotsAreInRange 14 = .ok (.bipush 99, 2) := by decide +kernel
theorem dX0_slotsAreInRange_16 : decode cX0_slotsAreInRange 16 = .ok (.invokestatic 47, 3) := by decide +kernel
theorem dX0_slotsAreInRange_19 : decode cX0_slotsAreInRange 19 = .ok (.ifCond .eq 30, 3) := by decide +kernel
theorem dX0_slotsAreInRange_22 : decode cX0_slotsAreInRange 22 = .ok (.aload_n 0, 1) := by decide +kernel
theorem dX0_slotsAreInRange_23 : decode cX0_slotsAreInRange 23 = .ok (.iload_n 1, 1) := by decide +kernel
theorem dX0_slotsAreInRange_24 : decode cX0_slotsAreInRange 24 = .ok (.invokevirtual 51, 3) := by decide +kernel
theorem dX0_slotsAreInRange_27 : decode cX0_slotsAreInRange 27 = .ok (.iconst 0, 1) := by decide +kernel
theorem dX0_slotsAreInRange_28 : decode cX0_slotsAreInRange 28 = .ok (.iconst 2, 1) := by decide +kernel
theorem dX0_slotsAreInRange_29 : decode cX0_slotsAreInRange 29 = .ok (.invokestatic 47, 3) := by decide +kernel
theorem dX0_slotsAreInRange_32 : decode cX0_slotsAreInRange 32 = .ok (.ifCond .eq 17, 3) := by decide +kernel
theorem dX0_slotsAreInRange_35 : decode cX0_slotsAreInRange 35 = .ok (.aload_n 0, 1) := by decide +kernel
theorem dX0_slotsAreInRange_36 : decode cX0_slotsAreInRange 36 = .ok (.iload_n 1, 1) := by decide +kernel
theorem dX0_slotsAreInRange_37 : decode cX0_slotsAreInRange 37 = .ok (.invokevirtual 54, 3) := by decide +kernel
theorem dX0_slotsAreInRange_40 : decode cX0_slotsAreInRange 40 = .ok (.iconst 0, 1) := by decide +kernel
theorem dX0_slotsAreInRange_41 : decode cX0_slotsAreInRange 41 = .ok (.bipush 64, 2) := by decide +kernel
theorem dX0_slotsAreInRange_43 : decode cX0_slotsAreInRange 43 = .ok (.invokestatic 47, 3) := by decide +kernel
theorem dX0_slotsAreInRange_46 : decode cX0_slotsAreInRange 46 = .ok (.ifCond .ne 5, 3) := by decide +kernel
theorem dX0_slotsAreInRange_49 : decode cX0_slotsAreInRange 49 = .ok (.iconst 0, 1) := by decide +kernel
theorem dX0_slotsAreInRange_50 : decode cX0_slotsAreInRange 50 = .ok (.ireturn, 1) := by decide +kernel
theorem dX0_slotsAreInRange_51 : decode cX0_slotsAreInRange 51 = .ok (.aload_n 0, 1) := by decide +kernel
theorem dX0_slotsAreInRange_52 : decode cX0_slotsAreInRange 52 = .ok (.iload_n 1, 1) := by decide +kernel
theorem dX0_slotsAreInRange_53 : decode cX0_slotsAreInRange 53 = .ok (.invokevirtual 43, 3) := by decide +kernel
theorem dX0_slotsAreInRange_56 : decode cX0_slotsAreInRange 56 = .ok (.ifCond .ne 13, 3) := by decide +kernel
theorem dX0_slotsAreInRange_59 : decode cX0_slotsAreInRange 59 = .ok (.aload_n 0, 1) := by decide +kernel
theorem dX0_slotsAreInRange_60 : decode cX0_slotsAreInRange 60 = .ok (.iload_n 1, 1) := by decide +kernel
theorem dX0_slotsAreInRange_61 : decode cX0_slotsAreInRange 61 = .ok (.invokestatic 57, 3) := by decide +kernel
theorem dX0_slotsAreInRange_64 : decode cX0_slotsAreInRange 64 = .ok (.ifCond .ne 5, 3) := by decide +kernel
theorem dX0_slotsAreInRange_67 : decode cX0_slotsAreInRange 67 = .ok (.iconst 0, 1) := by decide +kernel
theorem dX0_slotsAreInRange_68 : decode cX0_slotsAreInRange 68 = .ok (.ireturn, 1) := by decide +kernel
theorem dX0_slotsAreInRange_69 : decode cX0_slotsAreInRange 69 = .ok (.iinc 1 1, 3) := by decide +kernel
theorem dX0_slotsAreInRange_72 : decode cX0_slotsAreInRange 72 = .ok (.goto (-70), 3) := by decide +kernel
theorem dX0_slotsAreInRange_75 : decode cX0_slotsAreInRange 75 = .ok (.iconst 1, 1) := by decide +kernel
theorem dX0_slotsAreInRange_76 : decode cX0_slotsAreInRange 76 = .ok (.ireturn, 1) := by decide +kernel
theorem dX0_isAllZero_0 : decode cX0_isAllZero 0 = .ok (.iconst 0, 1) := by decide +kernel
theorem dX0_isAllZero_1 : decode cX0_isAllZero 1 = .ok (.istore_n 2, 1) := by decide +kernel
theorem dX0_isAllZero_2 : decode cX0_isAllZero 2 = .ok (.iload_n 2, 1) := by decide +kernel
theorem dX0_isAllZero_3 : decode cX0_isAllZero 3 = .ok (.bipush 7, 2) := by decide +kernel
theorem dX0_isAllZero_5 : decode cX0_isAllZero 5 = .ok (.if_icmp .ge 25, 3) := by decide +kernel
theorem dX0_isAllZero_8 : decode cX0_isAllZero 8 = .ok (.aload_n 0, 1) := by decide +kernel
theorem dX0_isAllZero_9 : decode cX0_isAllZero 9 = .ok (.getfield 27, 3) := by decide +kernel
theorem dX0_isAllZero_12 : decode cX0_isAllZero 12 = .ok (.bipush 7, 2) := by decide +kernel
theorem dX0_isAllZero_14 : decode cX0_isAllZero 14 = .ok (.iload_n 1, 1) := by decide +kernel
theorem dX0_isAllZero_15 : decode cX0_isAllZero 15 = .ok (.imul, 1) := by decide +kernel
theorem dX0_isAllZero_16 : decode cX0_isAllZero 16 = .ok (.iload_n 2, 1) := by decide +kernel
theorem dX0_isAllZero_17 : decode cX0_isAllZero 17 = .ok (.iadd, 1) := by decide +kernel
theorem dX0_isAllZero_18 : decode cX0_isAllZero 18 = .ok (.iaload, 1) := by decide +kernel
theorem dX0_isAllZero_19 : decode cX0_isAllZero 19 = .ok (.ifCond .eq 5, 3) := by decide +kernel
theorem dX0_isAllZero_22 : decode cX0_isAllZero 22 = .ok (.iconst 0, 1) := by decide +kernel
theorem dX0_isAllZero_23 : decode cX0_isAllZero 23 = .ok (.ireturn, 1) := by decide +kernel
theorem dX0_isAllZero_24 : decode cX0_isAllZero 24 = .ok (.iinc 2 1, 3) := by decide +kernel
theorem dX0_isAllZero_27 : decode cX0_isAllZero 27 = .ok (.goto (-25), 3) := by decide +kernel
theorem dX0_isAllZero_30 : decode cX0_isAllZero 30 = .ok (.iconst 1, 1) := by decide +kernel
theorem dX0_isAllZero_31 : decode cX0_isAllZero 31 = .ok (.ireturn, 1) := by decide +kernel
set_option maxRecDepth 20000 in
theorem ggX0_namesDiffer_X2_nameOf : GoodIn wsX0_namesDiffer wsX2_nameOf := goodIn_r _ [5, 6, 7] (by decide +kernel) (by decide +kernel)
set_option maxRecDepth 20000 in
theorem gX0_namesDiffer_X2_nameOf : GoodIn wsX0_namesDiffer (wsV RX0 43 RX2 yX2_nameOf wsX2_nameOf) := goodIn_app (goodIn_of _ (by decide +kernel)) ggX0_namesDiffer_X2_nameOf
theorem dX0_namesDiffer_0 : decode cX0_namesDiffer 0 = .ok (.iconst 1, 1) := by decide +kernel
theorem dX0_namesDiffer_1 : decode cX0_namesDiffer 1 = .ok (.istore_n 1, 1) := by decide +kernel
theorem dX0_namesDiffer_2 : decode cX0_namesDiffer 2 = .ok (.iload_n 1, 1) := by decide +kernel
theorem dX0_namesDiffer_3 : decode cX0_namesDiffer 3 = .ok (.bipush 6, 2) := by decide +kernel
theorem dX0_namesDiffer_5 : decode cX0_namesDiffer 5 = .ok (.if_icmp .ge 45, 3) := by decide +kernel
theorem dX0_namesDiffer_8 : decode cX0_namesDiffer 8 = .ok (.iconst 0, 1) := by decide +kernel
theorem dX0_namesDiffer_9 : decode cX0_namesDiffer 9 = .ok (.istore_n 2, 1) := by decide +kernel
theorem dX0_namesDiffer_10 : decode cX0_namesDiffer 10 = .ok (.iload_n 2, 1) := by decide +kernel
theorem dX0_namesDiffer_11 : decode cX0_namesDiffer 11 = .ok (.iload_n 1, 1) := by decide +kernel
theorem dX0_namesDiffer_12 : decode cX0_namesDiffer 12 = .ok (.if_icmp .ge 32, 3) := by decide +kernel
theorem dX0_namesDiffer_15 : decode cX0_namesDiffer 15 = .ok (.aload_n 0, 1) := by decide +kernel
theorem dX0_namesDiffer_16 : decode cX0_namesDiffer 16 = .ok (.iload_n 1, 1) := by decide +kernel
theorem dX0_namesDiffer_17 : decode cX0_namesDiffer 17 = .ok (.invokevirtual 43, 3) := by decide +kernel
theorem dX0_namesDiffer_20 : decode cX0_namesDiffer 20 = .ok (.ifCond .eq 18, 3) := by decide +kernel
theorem dX0_namesDiffer_23 : decode cX0_namesDiffer 23 = .ok (.aload_n 0, 1) := by decide +kernel
theorem dX0_namesDiffer_24 : decode cX0_namesDiffer 24 = .ok (.iload_n 1, 1) := by decide +kernel
theorem dX0_namesDiffer_25 : decode cX0_namesDiffer 25 = .ok (.invokevirtual 43, 3) := by decide +kernel
theorem dX0_namesDiffer_28 : decode cX0_namesDiffer 28 = .ok (.aload_n 0, 1) := by decide +kernel
theorem dX0_namesDiffer_29 : decode cX0_namesDiffer 29 = .ok (.iload_n 2, 1) := by decide +kernel
theorem dX0_namesDiffer_30 : decode cX0_namesDiffer 30 = .ok (.invokevirtual 43, 3) := by decide +kernel
theorem dX0_namesDiffer_33 : decode cX0_namesDiffer 33 = .ok (.if_icmp .ne 5, 3) := by decide +kernel
theorem dX0_namesDiffer_36 : decode cX0_namesDiffer 36 = .ok (.iconst 0, 1) := by decide +kernel
theorem dX0_namesDiffer_37 : decode cX0_namesDiffer 37 = .ok (.ireturn, 1) := by decide +kernel
theorem dX0_namesDiffer_38 : decode cX0_namesDiffer 38 = .ok (.iinc 2 1, 3) := by decide +kernel
theorem dX0_namesDiffer_41 : decode cX0_namesDiffer 41 = .ok (.goto (-31), 3) := by decide +kernel
theorem dX0_namesDiffer_44 : decode cX0_namesDiffer 44 = .ok (.iinc 1 1, 3) := by decide +kernel
theorem dX0_namesDiffer_47 : decode cX0_namesDiffer 47 = .ok (.goto (-45), 3) := by decide +kernel
theorem dX0_namesDiffer_50 : decode cX0_namesDiffer 50 = .ok (.iconst 1, 1) := by decide +kernel
theorem dX0_namesDiffer_51 : decode cX0_namesDiffer 51 = .ok (.ireturn, 1) := by decide +kernel
set_option maxRecDepth 20000 in
theorem ggX0_extentsAreRuns_X2_extentOf : GoodIn wsX0_extentsAreRuns wsX2_extentOf := goodIn_r _ [5, 6, 23] (by decide +kernel) (by decide +kernel)
set_option maxRecDepth 20000 in
theorem gX0_extentsAreRuns_X2_extentOf : GoodIn wsX0_extentsAreRuns (wsV RX0 61 RX2 yX2_extentOf wsX2_extentOf) := goodIn_app (goodIn_of _ (by decide +kernel)) ggX0_extentsAreRuns_X2_extentOf
set_option maxRecDepth 20000 in
theorem ggX0_extentsAreRuns_X3_isRun : GoodIn wsX0_extentsAreRuns wsX3_isRun := goodIn_r _ [10, 11, 12, 9, 13, 14, 15, 16, 17, 18, 19, 20, 21, 22] (by decide +kernel) (by decide +kernel)
set_option maxRecDepth 20000 in
theorem gX0_extentsAreRuns_X3_isRun : GoodIn wsX0_extentsAreRuns (va_wsS RX0 65 yX3_isRun wsX3_isRun) := goodIn_app (goodIn_of _ (by decide +kernel)) ggX0_extentsAreRuns_X3_isRun
theorem dX0_extentsAreRuns_0 : decode cX0_extentsAreRuns 0 = .ok (.iconst 0, 1) := by decide +kernel
theorem dX0_extentsAreRuns_1 : decode cX0_extentsAreRuns 1 = .ok (.istore_n 1, 1) := by decide +kernel
theorem dX0_extentsAreRuns_2 : decode cX0_extentsAreRuns 2 = .ok (.iload_n 1, 1) := by decide +kernel
theorem dX0_extentsAreRuns_3 : decode cX0_extentsAreRuns 3 = .ok (.bipush 6, 2) := by decide +kernel
theorem dX0_extentsAreRuns_5 : decode cX0_extentsAreRuns 5 = .ok (.if_icmp .ge 56, 3) := by decide +kernel
theorem dX0_extentsAreRuns_8 : decode cX0_extentsAreRuns 8 = .ok (.iconst 0, 1) := by decide +kernel
theorem dX0_extentsAreRuns_9 : decode cX0_extentsAreRuns 9 = .ok (.istore_n 2, 1) := by decide +kernel
theorem dX0_extentsAreRuns_10 : decode cX0_extentsAreRuns 10 = .ok (.iconst 0, 1) := by decide +kernel
theorem dX0_extentsAreRuns_11 : decode cX0_extentsAreRuns 11 = .ok (.istore_n 3, 1) := by decide +kernel
theorem dX0_extentsAreRuns_12 : decode cX0_extentsAreRuns 12 = .ok (.iload_n 3, 1) := by decide +kernel
theorem dX0_extentsAreRuns_13 : decode cX0_extentsAreRuns 13 = .ok (.iconst 4, 1) := by decide +kernel
theorem dX0_extentsAreRuns_14 : decode cX0_extentsAreRuns 14 = .ok (.if_icmp .ge 41, 3) := by decide +kernel
theorem dX0_extentsAreRuns_17 : decode cX0_extentsAreRuns 17 = .ok (.aload_n 0, 1) := by decide +kernel
theorem dX0_extentsAreRuns_18 : decode cX0_extentsAreRuns 18 = .ok (.iload_n 1, 1) := by decide +kernel
theorem dX0_extentsAreRuns_19 : decode cX0_extentsAreRuns 19 = .ok (.iload_n 3, 1) := by decide +kernel
theorem dX0_extentsAreRuns_20 : decode cX0_extentsAreRuns 20 = .ok (.invokevirtual 61, 3) := by decide +kernel
theorem dX0_extentsAreRuns_23 : decode cX0_extentsAreRuns 23 = .ok (.istore 4, 2) := by decide +kernel
theorem dX0_extentsAreRuns_25 : decode cX0_extentsAreRuns 25 = .ok (.iload 4, 2) := by decide +kernel
theorem dX0_extentsAreRuns_27 : decode cX0_extentsAreRuns 27 = .ok (.ifCond .ne 8, 3) := by decide +kernel
theorem dX0_extentsAreRuns_30 : decode cX0_extentsAreRuns 30 = .ok (.iconst 1, 1) := by decide +kernel
theorem dX0_extentsAreRuns_31 : decode cX0_extentsAreRuns 31 = .ok (.istore_n 2, 1) := by decide +kernel
theorem dX0_extentsAreRuns_32 : decode cX0_extentsAreRuns 32 = .ok (.goto 17, 3) := by decide +kernel
theorem dX0_extentsAreRuns_35 : decode cX0_extentsAreRuns 35 = .ok (.iload_n 2, 1) := by decide +kernel
theorem dX0_extentsAreRuns_36 : decode cX0_extentsAreRuns 36 = .ok (.ifCond .ne 11, 3) := by decide +kernel
theorem dX0_extentsAreRuns_39 : decode cX0_extentsAreRuns 39 = .ok (.iload 4, 2) := by decide +kernel
theorem dX0_extentsAreRuns_41 : decode cX0_extentsAreRuns 41 = .ok (.invokestatic 65, 3) := by decide +kernel
theorem dX0_extentsAreRuns_44 : decode cX0_extentsAreRuns 44 = .ok (.ifCond .ne 5, 3) := by decide +kernel
theorem dX0_extentsAreRuns_47 : decode cX0_extentsAreRuns 47 = .ok (.iconst 0, 1) := by decide +kernel
theorem dX0_extentsAreRuns_48 : decode cX0_extentsAreRuns 48 = .ok (.ireturn, 1) := by decide +kernel
theorem dX0_extentsAreRuns_49 : decode cX0_extentsAreRuns 49 = .ok (.iinc 3 1, 3) := by decide +kernel
theorem dX0_extentsAreRuns_52 : decode cX0_extentsAreRuns 52 = .ok (.goto (-40), 3) := by decide +kernel
theorem dX0_extentsAreRuns_55 : decode cX0_extentsAreRuns 55 = .ok (.iinc 1 1, 3) := by decide +kernel
theorem dX0_extentsAreRuns_58 : decode cX0_extentsAreRuns 58 = .ok (.goto (-56), 3) := by decide +kernel
theorem dX0_extentsAreRuns_61 : decode cX0_extentsAreRuns 61 = .ok (.iconst 1, 1) := by decide +kernel
theorem dX0_extentsAreRuns_62 : decode cX0_extentsAreRuns 62 = .ok (.ireturn, 1) := by decide +kernel
set_option maxRecDepth 20000 in
theorem ggX0_runsAreApart_X2_extentOf : GoodIn wsX0_runsAreApart wsX2_extentOf := goodIn_r _ [5, 6, 20] (by decide +kernel) (by decide +kernel)
set_option maxRecDepth 20000 in
theorem gX0_runsAreApart_X2_extentOf : GoodIn wsX0_runsAreApart (wsV RX0 61 RX2 yX2_extentOf wsX2_extentOf) := goodIn_app (goodIn_of _ (by decide +kernel)) ggX0_runsAreApart_X2_extentOf
set_option maxRecDepth 20000 in
theorem ggX0_runsAreApart_X3_bitsOf : GoodIn wsX0_runsAreApart wsX3_bitsOf := goodIn_r _ [10, 11, 12, 9, 13, 14, 15, 16, 17, 18, 19] (by decide +kernel) (by decide +kernel)
set_option maxRecDepth 20000 in
theorem gX0_runsAreApart_X3_bitsOf : GoodIn wsX0_runsAreApart (va_wsS RX0 71 yX3_bitsOf wsX3_bitsOf) := goodIn_app (goodIn_of _ (by decide +kernel)) ggX0_runsAreApart_X3_bitsOf
theorem dX0_runsAreApart_0 : decode cX0_runsAreApart 0 = .ok (.iconst 0, 1) := by decide +kernel
theorem dX0_runsAreApart_1 : decode cX0_runsAreApart 1 = .ok (.istore_n 1, 1) := by decide +kernel
theorem dX0_runsAreApart_2 : decode cX0_runsAreApart 2 = .ok (.iconst 0, 1) := by decide +kernel
theorem dX0_runsAreApart_3 : decode cX0_runsAreApart 3 = .ok (.istore_n 2, 1) := by decide +kernel
theorem dX0_runsAreApart_4 : decode cX0_runsAreApart 4 = .ok (.iload_n 2, 1) := by decide +kernel
theorem dX0_runsAreApart_5 : decode cX0_runsAreApart 5 = .ok (.bipush 6, 2) := by decide +kernel
theorem dX0_runsAreApart_7 : decode cX0_runsAreApart 7 = .ok (.if_icmp .ge 47, 3) := by decide +kernel
theorem dX0_runsAreApart_10 : decode cX0_runsAreApart 10 = .ok (.iconst 0, 1) := by decide +kernel
theorem dX0_runsAreApart_11 : decode cX0_runsAreApart 11 = .ok (.istore_n 3, 1) := by decide +kernel
theorem dX0_runsAreApart_12 : decode cX0_runsAreApart 12 = .ok (.iload_n 3, 1) := by decide +kernel
theorem dX0_runsAreApart_13 : decode cX0_runsAreApart 13 = .ok (.iconst 4, 1) := by decide +kernel
theorem dX0_runsAreApart_14 : decode cX0_runsAreApart 14 = .ok (.if_icmp .ge 34, 3) := by decide +kernel
theorem dX0_runsAreApart_17 : decode cX0_runsAreApart 17 = .ok (.aload_n 0, 1) := by decide +kernel
theorem dX0_runsAreApart_18 : decode cX0_runsAreApart 18 = .ok (.iload_n 2, 1) := by decide +kernel
theorem dX0_runsAreApart_19 : decode cX0_runsAreApart 19 = .ok (.iload_n 3, 1) := by decide +kernel
theorem dX0_runsAreApart_20 : decode cX0_runsAreApart 20 = .ok (.invokevirtual 61, 3) := by decide +kernel
theorem dX0_runsAreApart_23 : decode cX0_runsAreApart 23 = .ok (.invokestatic 71, 3) := by decide +kernel
theorem dX0_runsAreApart_26 : decode cX0_runsAreApart 26 = .ok (.istore 4, 2) := by decide +kernel
theorem dX0_runsAreApart_28 : decode cX0_runsAreApart 28 = .ok (.iload_n 1, 1) := by decide +kernel
theorem dX0_runsAreApart_29 : decode cX0_runsAreApart 29 = .ok (.iload 4, 2) := by decide +kernel
theorem dX0_runsAreApart_31 : decode cX0_runsAreApart 31 = .ok (.iand, 1) := by decide +kernel
theorem dX0_runsAreApart_32 : decode cX0_runsAreApart 32 = .ok (.ifCond .eq 5, 3) := by decide +kernel
theorem dX0_runsAreApart_35 : decode cX0_runsAreApart 35 = .ok (.iconst 0, 1) := by decide +kernel
theorem dX0_runsAreApart_36 : decode cX0_runsAreApart 36 = .ok (.ireturn, 1) := by decide +kernel
theorem dX0_runsAreApart_37 : decode cX0_runsAreApart 37 = .ok (.iload_n 1, 1) := by decide +kernel
theorem dX0_runsAreApart_38 : decode cX0_runsAreApart 38 = .ok (.iload 4, 2) := by decide +kernel
theorem dX0_runsAreApart_40 : decode cX0_runsAreApart 40 = .ok (.ior, 1) := by decide +kernel
theorem dX0_runsAreApart_41 : decode cX0_runsAreApart 41 = .ok (.istore_n 1, 1) := by decide +kernel
theorem dX0_runsAreApart_42 : decode cX0_runsAreApart 42 = .ok (.iinc 3 1, 3) := by decide +kernel
theorem dX0_runsAreApart_45 : decode cX0_runsAreApart 45 = .ok (.goto (-33), 3) := by decide +kernel
theorem dX0_runsAreApart_48 : decode cX0_runsAreApart 48 = .ok (.iinc 2 1, 3) := by decide +kernel
theorem dX0_runsAreApart_51 : decode cX0_runsAreApart 51 = .ok (.goto (-47), 3) := by decide +kernel
theorem dX0_runsAreApart_54 : decode cX0_runsAreApart 54 = .ok (.iconst 1, 1) := by decide +kernel
theorem dX0_runsAreApart_55 : decode cX0_runsAreApart 55 = .ok (.ireturn, 1) := by decide +kernel
set_option maxRecDepth 20000 in
theorem ggX0_runsFitLengths_X2_lengthOf : GoodIn wsX0_runsFitLengths wsX2_lengthOf := goodIn_r _ [5, 6, 31] (by decide +kernel) (by decide +kernel)
set_option maxRecDepth 20000 in
theorem gX0_runsFitLengths_X2_lengthOf : GoodIn wsX0_runsFitLengths (wsV RX0 54 RX2 yX2_lengthOf wsX2_lengthOf) := goodIn_app (goodIn_of _ (by decide +kernel)) ggX0_runsFitLengths_X2_lengthOf
set_option maxRecDepth 20000 in
theorem ggX0_runsFitLengths_X2_needOf : GoodIn wsX0_runsFitLengths wsX2_needOf := goodIn_r _ [9] (by decide +kernel) (by decide +kernel)
set_option maxRecDepth 20000 in
theorem gX0_runsFitLengths_X2_needOf : GoodIn wsX0_runsFitLengths (va_wsS RX0 74 yX2_needOf wsX2_needOf) := goodIn_app (goodIn_of _ (by decide +kernel)) ggX0_runsFitLengths_X2_needOf
set_option maxRecDepth 20000 in
theorem ggX0_runsFitLengths_X2_blocksOf : GoodIn wsX0_runsFitLengths wsX2_blocksOf := goodIn_r _ [13, 14, 15, 16, 4, 17, 6, 18, 19, 20, 21, 22, 23, 24, 31] (by decide +kernel) (by decide +kernel)
set_option maxRecDepth 20000 in
theorem gX0_runsFitLengths_X2_blocksOf : GoodIn wsX0_runsFitLengths (wsV RX0 77 RX2 yX2_blocksOf wsX2_blocksOf) := goodIn_app (goodIn_of _ (by decide +kernel)) ggX0_runsFitLengths_X2_blocksOf
set_option maxRecDepth 20000 in
theorem ggX0_runsFitLengths_X2_runsOf : GoodIn wsX0_runsFitLengths wsX2_runsOf := goodIn_r _ [28, 14, 15, 16, 4, 17, 6, 31] (by decide +kernel) (by decide +kernel)
set_option maxRecDepth 20000 in
theorem gX0_runsFitLengths_X2_runsOf : GoodIn wsX0_runsFitLengths (wsV RX0 80 RX2 yX2_runsOf wsX2_runsOf) := goodIn_app (goodIn_of _ (by decide +kernel)) ggX0_runsFitLengths_X2_runsOf
set_option maxRecDepth 20000 in
theorem ggX0_runsFitLengths_X2_extentOf : GoodIn wsX0_runsFitLengths wsX2_extentOf := goodIn_r _ [17, 6, 31] (by decide +kernel) (by decide +kernel)
set_option maxRecDepth 20000 in
theorem gX0_runsFitLengths_X2_extentOf : GoodIn wsX0_runsFitLengths (wsV RX0 61 RX2 yX2_extentOf wsX2_extentOf) := goodIn_app (goodIn_of _ (by decide +kernel)) ggX0_runsFitLengths_X2_extentOf
set_option maxRecDepth 20000 in
theorem ggX0_runsFitLengths_X3_blocksOf : GoodIn wsX0_runsFitLengths wsX3_blocksOf := goodIn_r _ [21, 22, 23, 20, 24] (by decide +kernel) (by decide +kernel)
set_option maxRecDepth 20000 in
theorem gX0_runsFitLengths_X3_blocksOf : GoodIn wsX0_runsFitLengths (va_wsS RX0 83 yX3_blocksOf wsX3_blocksOf) := goodIn_app (goodIn_of _ (by decide +kernel)) ggX0_runsFitLengths_X3_blocksOf
theorem dX0_runsFitLengths_0 : decode cX0_runsFitLengths 0 = .ok (.iconst 0, 1) := by decide +kernel
theorem dX0_runsFitLengths_1 : decode cX0_runsFitLengths 1 = .ok (.istore_n 1, 1) := by decide +kernel
theorem dX0_runsFitLengths_2 : decode cX0_runsFitLengths 2 = .ok (.iload_n 1, 1) := by decide +kernel
theorem dX0_runsFitLengths_3 : decode cX0_runsFitLengths 3 = .ok (.bipush 6, 2) := by decide +kernel
theorem dX0_runsFitLengths_5 : decode cX0_runsFitLengths 5 = .ok (.if_icmp .ge 63, 3) := by decide +kernel
theorem dX0_runsFitLengths_8 : decode cX0_runsFitLengths 8 = .ok (.aload_n 0, 1) := by decide +kernel
theorem dX0_runsFitLengths_9 : decode cX0_runsFitLengths 9 = .ok (.iload_n 1, 1) := by decide +kernel
theorem dX0_runsFitLengths_10 : decode cX0_runsFitLengths 10 = .ok (.invokevirtual 54, 3) := by decide +kernel
theorem dX0_runsFitLengths_13 : decode cX0_runsFitLengths 13 = .ok (.invokestatic 74, 3) := by decide +kernel
theorem dX0_runsFitLengths_16 : decode cX0_runsFitLengths 16 = .ok (.istore_n 2, 1) := by decide +kernel
theorem dX0_runsFitLengths_17 : decode cX0_runsFitLengths 17 = .ok (.aload_n 0, 1) := by decide +kernel
theorem dX0_runsFitLengths_18 : decode cX0_runsFitLengths 18 = .ok (.iload_n 1, 1) := by decide +kernel
theorem dX0_runsFitLengths_19 : decode cX0_runsFitLengths 19 = .ok (.invokevirtual 77, 3) := by decide +kernel
theorem dX0_runsFitLengths_22 : decode cX0_runsFitLengths 22 = .ok (.istore_n 3, 1) := by decide +kernel
theorem dX0_runsFitLengths_23 : decode cX0_runsFitLengths 23 = .ok (.aload_n 0, 1) := by decide +kernel
theorem dX0_runsFitLengths_24 : decode cX0_runsFitLengths 24 = .ok (.iload_n 1, 1) := by decide +kernel
theorem dX0_runsFitLengths_25 : decode cX0_runsFitLengths 25 = .ok (.invokevirtual 80, 3) := by decide +kernel
theorem dX0_runsFitLengths_28 : decode cX0_runsFitLengths 28 = .ok (.istore 4, 2) := by decide +kernel
theorem dX0_runsFitLengths_30 : decode cX0_runsFitLengths 30 = .ok (.iload_n 3, 1) := by decide +kernel
theorem dX0_runsFitLengths_31 : decode cX0_runsFitLengths 31 = .ok (.iload_n 2, 1) := by decide +kernel
theorem dX0_runsFitLengths_32 : decode cX0_runsFitLengths 32 = .ok (.if_icmp .ge 5, 3) := by decide +kernel
theorem dX0_runsFitLengths_35 : decode cX0_runsFitLengths 35 = .ok (.iconst 0, 1) := by decide +kernel
theorem dX0_runsFitLengths_36 : decode cX0_runsFitLengths 36 = .ok (.ireturn, 1) := by decide +kernel
theorem dX0_runsFitLengths_37 : decode cX0_runsFitLengths 37 = .ok (.iload 4, 2) := by decide +kernel
theorem dX0_runsFitLengths_39 : decode cX0_runsFitLengths 39 = .ok (.ifCond .le 23, 3) := by decide +kernel
theorem dX0_runsFitLengths_42 : decode cX0_runsFitLengths 42 = .ok (.iload_n 3, 1) := by decide +kernel
theorem dX0_runsFitLengths_43 : decode cX0_runsFitLengths 43 = .ok (.aload_n 0, 1) := by decide +kernel
theorem dX0_runsFitLengths_44 : decode cX0_runsFitLengths 44 = .ok (.iload_n 1, 1) := by decide +kernel
theorem dX0_runsFitLengths_45 : decode cX0_runsFitLengths 45 = .ok (.iload 4, 2) := by decide +kernel
theorem dX0_runsFitLengths_47 : decode cX0_runsFitLengths 47 = .ok (.iconst 1, 1) := by decide +kernel
theorem dX0_runsFitLengths_48 : decode cX0_runsFitLengths 48 = .ok (.isub, 1) := by decide +kernel
theorem dX0_runsFitLengths_49 : decode cX0_runsFitLengths 49 = .ok (.invokevirtual 61, 3) := by decide +kernel
theorem dX0_runsFitLengths_52 : decode cX0_runsFitLengths 52 = .ok (.invokestatic 83, 3) := by decide +kernel
theorem dX0_runsFitLengths_55 : decode cX0_runsFitLengths 55 = .ok (.isub, 1) := by decide +kernel
theorem dX0_runsFitLengths_56 : decode cX0_runsFitLengths 56 = .ok (.iload_n 2, 1) := by decide +kernel
theorem dX0_runsFitLengths_57 : decode cX0_runsFitLengths 57 = .ok (.if_icmp .lt 5, 3) := by decide +kernel
theorem dX0_runsFitLengths_60 : decode cX0_runsFitLengths 60 = .ok (.iconst 0, 1) := by decide +kernel
theorem dX0_runsFitLengths_61 : decode cX0_runsFitLengths 61 = .ok (.ireturn, 1) := by decide +kernel
theorem dX0_runsFitLengths_62 : decode cX0_runsFitLengths 62 = .ok (.iinc 1 1, 3) := by decide +kernel
theorem dX0_runsFitLengths_65 : decode cX0_runsFitLengths 65 = .ok (.goto (-63), 3) := by decide +kernel
theorem dX0_runsFitLengths_68 : decode cX0_runsFitLengths 68 = .ok (.iconst 1, 1) := by decide +kernel
theorem dX0_runsFitLengths_69 : decode cX0_runsFitLengths 69 = .ok (.ireturn, 1) := by decide +kernel
set_option maxRecDepth 20000 in
theorem ggX0_bitsOfAllRuns_X2_extentOf : GoodIn wsX0_bitsOfAllRuns wsX2_extentOf := goodIn_r _ [5, 6, 20] (by decide +kernel) (by decide +kernel)
set_option maxRecDepth 20000 in
theorem gX0_bitsOfAllRuns_X2_extentOf : GoodIn wsX0_bitsOfAllRuns (wsV RX0 61 RX2 yX2_extentOf wsX2_extentOf) := goodIn_app (goodIn_of _ (by decide +kernel)) ggX0_bitsOfAllRuns_X2_extentOf
set_option maxRecDepth 20000 in
theorem ggX0_bitsOfAllRuns_X3_bitsOf : GoodIn wsX0_bitsOfAllRuns wsX3_bitsOf := goodIn_r _ [10, 11, 12, 9, 13, 14, 15, 16, 17, 18, 19] (by decide +kernel) (by decide +kernel)
set_option maxRecDepth 20000 in
theorem gX0_bitsOfAllRuns_X3_bitsOf : GoodIn wsX0_bitsOfAllRuns (va_wsS RX0 71 yX3_bitsOf wsX3_bitsOf) := goodIn_app (goodIn_of _ (by decide +kernel)) ggX0_bitsOfAllRuns_X3_bitsOf
theorem dX0_bitsOfAllRuns_0 : decode cX0_bitsOfAllRuns 0 = .ok (.iconst 0, 1) := by decide +kernel
theorem dX0_bitsOfAllRuns_1 : decode cX0_bitsOfAllRuns 1 = .ok (.istore_n 1, 1) := by decide +kernel
theorem dX0_bitsOfAllRuns_2 : decode cX0_bitsOfAllRuns 2 = .ok (.iconst 0, 1) := by decide +kernel
theorem dX0_bitsOfAllRuns_3 : decode cX0_bitsOfAllRuns 3 = .ok (.istore_n 2, 1) := by decide +kernel
theorem dX0_bitsOfAllRuns_4 : decode cX0_bitsOfAllRuns 4 = .ok (.iload_n 2, 1) := by decide +kernel
theorem dX0_bitsOfAllRuns_5 : decode cX0_bitsOfAllRuns 5 = .ok (.bipush 6, 2) := by decide +kernel
theorem dX0_bitsOfAllRuns_7 : decode cX0_bitsOfAllRuns 7 = .ok (.if_icmp .ge 34, 3) := by decide +kernel
theorem dX0_bitsOfAllRuns_10 : decode cX0_bitsOfAllRuns 10 = .ok (.iconst 0, 1) := by decide +kernel
theorem dX0_bitsOfAllRuns_11 : decode cX0_bitsOfAllRuns 11 = .ok (.istore_n 3, 1) := by decide +kernel
theorem dX0_bitsOfAllRuns_12 : decode cX0_bitsOfAllRuns 12 = .ok (.iload_n 3, 1) := by decide +kernel
theorem dX0_bitsOfAllRuns_13 : decode cX0_bitsOfAllRuns 13 = .ok (.iconst 4, 1) := by decide +kernel
theorem dX0_bitsOfAllRuns_14 : decode cX0_bitsOfAllRuns 14 = .ok (.if_icmp .ge 21, 3) := by decide +kernel
theorem dX0_bitsOfAllRuns_17 : decode cX0_bitsOfAllRuns 17 = .ok (.iload_n 1, 1) := by decide +kernel
theorem dX0_bitsOfAllRuns_18 : decode cX0_bitsOfAllRuns 18 = .ok (.aload_n 0, 1) := by decide +kernel
theorem dX0_bitsOfAllRuns_19 : decode cX0_bitsOfAllRuns 19 = .ok (.iload_n 2, 1) := by decide +kernel
theorem dX0_bitsOfAllRuns_20 : decode cX0_bitsOfAllRuns 20 = .ok (.iload_n 3, 1) := by decide +kernel
theorem dX0_bitsOfAllRuns_21 : decode cX0_bitsOfAllRuns 21 = .ok (.invokevirtual 61, 3) := by decide +kernel
theorem dX0_bitsOfAllRuns_24 : decode cX0_bitsOfAllRuns 24 = .ok (.invokestatic 71, 3) := by decide +kernel
theorem dX0_bitsOfAllRuns_27 : decode cX0_bitsOfAllRuns 27 = .ok (.ior, 1) := by decide +kernel
theorem dX0_bitsOfAllRuns_28 : decode cX0_bitsOfAllRuns 28 = .ok (.istore_n 1, 1) := by decide +kernel
theorem dX0_bitsOfAllRuns_29 : decode cX0_bitsOfAllRuns 29 = .ok (.iinc 3 1, 3) := by decide +kernel
theorem dX0_bitsOfAllRuns_32 : decode cX0_bitsOfAllRuns 32 = .ok (.goto (-20), 3) := by decide +kernel
theorem dX0_bitsOfAllRuns_35 : decode cX0_bitsOfAllRuns 35 = .ok (.iinc 2 1, 3) := by decide +kernel
theorem dX0_bitsOfAllRuns_38 : decode cX0_bitsOfAllRuns 38 = .ok (.goto (-34), 3) := by decide +kernel
theorem dX0_bitsOfAllRuns_41 : decode cX0_bitsOfAllRuns 41 = .ok (.iload_n 1, 1) := by decide +kernel
theorem dX0_bitsOfAllRuns_42 : decode cX0_bitsOfAllRuns 42 = .ok (.ireturn, 1) := by decide +kernel
set_option maxRecDepth 20000 in
theorem ggX0_quotasCoverUsage_X2_quotaOf : GoodIn wsX0_quotasCoverUsage wsX2_quotaOf := goodIn_r _ [5, 6, 34] (by decide +kernel) (by decide +kernel)
set_option maxRecDepth 20000 in
theorem gX0_quotasCoverUsage_X2_quotaOf : GoodIn wsX0_quotasCoverUsage (wsV RX0 84 RX2 yX2_quotaOf wsX2_quotaOf) := goodIn_app (goodIn_of _ (by decide +kernel)) ggX0_quotasCoverUsage_X2_quotaOf
set_option maxRecDepth 20000 in
theorem ggX0_quotasCoverUsage_X2_usageOf : GoodIn wsX0_quotasCoverUsage wsX2_usageOf := goodIn_r _ [10, 11, 12, 13, 4, 14, 6, 15, 16, 17, 18, 19, 20, 21, 22, 23, 24, 25, 26, 27, 28, 29, 34] (by decide +kernel) (by decide +kernel)
set_option maxRecDepth 20000 in
theorem gX0_quotasCoverUsage_X2_usageOf : GoodIn wsX0_quotasCoverUsage (wsV RX0 87 RX2 yX2_usageOf wsX2_usageOf) := goodIn_app (goodIn_of _ (by decide +kernel)) ggX0_quotasCoverUsage_X2_usageOf
set_option maxRecDepth 20000 in
theorem ggX0_quotasCoverUsage_X0_isIn : GoodIn wsX0_quotasCoverUsage wsX0_isIn := goodIn_r _ [33] (by decide +kernel) (by decide +kernel)
set_option maxRecDepth 20000 in
theorem gX0_quotasCoverUsage_X0_isIn : GoodIn wsX0_quotasCoverUsage (va_wsS RX0 47 yX0_isIn wsX0_isIn) := goodIn_app (goodIn_of _ (by decide +kernel)) ggX0_quotasCoverUsage_X0_isIn
theorem dX0_quotasCoverUsage_0 : decode cX0_quotasCoverUsage 0 = .ok (.iconst 0, 1) := by decide +kernel
theorem dX0_quotasCoverUsage_1 : decode cX0_quotasCoverUsage 1 = .ok (.istore_n 1, 1) := by decide +kernel
theorem dX0_quotasCoverUsage_2 : decode cX0_quotasCoverUsage 2 = .ok (.iload_n 1, 1) := by decide +kernel
theorem dX0_quotasCoverUsage_3 : decode cX0_quotasCoverUsage 3 = .ok (.iconst 3, 1) := by decide +kernel
theorem dX0_quotasCoverUsage_4 : decode cX0_quotasCoverUsage 4 = .ok (.if_icmp .ge 29, 3) := by decide +kernel
theorem dX0_quotasCoverUsage_7 : decode cX0_quotasCoverUsage 7 = .ok (.aload_n 0, 1) := by decide +kernel
theorem dX0_quotasCoverUsage_8 : decode cX0_quotasCoverUsage 8 = .ok (.iload_n 1, 1) := by decide +kernel
theorem dX0_quotasCoverUsage_9 : decode cX0_quotasCoverUsage 9 = .ok (.invokevirtual 84, 3) := by decide +kernel
theorem dX0_quotasCoverUsage_12 : decode cX0_quotasCoverUsage 12 = .ok (.aload_n 0, 1) := by decide +kernel
theorem dX0_quotasCoverUsage_13 : decode cX0_quotasCoverUsage 13 = .ok (.iload_n 1, 1) := by decide +kernel
theorem dX0_quotasCoverUsage_14 : decode cX0_quotasCoverUsage 14 = .ok (.invokevirtual 87, 3) := by decide +kernel
theorem dX0_quotasCoverUsage_17 : decode cX0_quotasCoverUsage 17 = .ok (.bipush 32, 2) := by decide +kernel
theorem dX0_quotasCoverUsage_19 : decode cX0_quotasCoverUsage 19 = .ok (.invokestatic 47, 3) := by decide +kernel
theorem dX0_quotasCoverUsage_22 : decode cX0_quotasCoverUsage 22 = .ok (.ifCond .ne 5, 3) := by decide +kernel
theorem dX0_quotasCoverUsage_25 : decode cX0_quotasCoverUsage 25 = .ok (.iconst 0, 1) := by decide +kernel
theorem dX0_quotasCoverUsage_26 : decode cX0_quotasCoverUsage 26 = .ok (.ireturn, 1) := by decide +kernel
theorem dX0_quotasCoverUsage_27 : decode cX0_quotasCoverUsage 27 = .ok (.iinc 1 1, 3) := by decide +kernel
theorem dX0_quotasCoverUsage_30 : decode cX0_quotasCoverUsage 30 = .ok (.goto (-28), 3) := by decide +kernel
theorem dX0_quotasCoverUsage_33 : decode cX0_quotasCoverUsage 33 = .ok (.iconst 1, 1) := by decide +kernel
theorem dX0_quotasCoverUsage_34 : decode cX0_quotasCoverUsage 34 = .ok (.ireturn, 1) := by decide +kernel
set_option maxRecDepth 20000 in
theorem ggX0_looseWordsAreZero_X0_bitsOfWords : GoodIn wsX0_looseWordsAreZero wsX0_bitsOfWords := goodIn_r _ [5, 6, 7, 8, 9, 10, 11, 12, 13, 14, 15, 16, 17, 18, 19, 20, 21, 22, 23, 24, 25, 26, 27, 28, 29, 30] (by decide +kernel) (by decide +kernel)
set_option maxRecDepth 20000 in
theorem gX0_looseWordsAreZero_X0_bitsOfWords : GoodIn wsX0_looseWordsAreZero (va_wsS RX0 90 yX0_bitsOfWords wsX0_bitsOfWords) := goodIn_app (goodIn_of _ (by decide +kernel)) ggX0_looseWordsAreZero_X0_bitsOfWords
theorem dX0_looseWordsAreZero_0 : decode cX0_looseWordsAreZero 0 = .ok (.lconst 0, 1) := by decide +kernel
theorem dX0_looseWordsAreZero_1 : decode cX0_looseWordsAreZero 1 = .ok (.lstore_n 1, 1) := by decide +kernel
theorem dX0_looseWordsAreZero_2 : decode cX0_looseWordsAreZero 2 = .ok (.iconst 0, 1) := by decide +kernel
theorem dX0_looseWordsAreZero_3 : decode cX0_looseWordsAreZero 3 = .ok (.istore_n 3, 1) := by decide +kernel
theorem dX0_looseWordsAreZero_4 : decode cX0_looseWordsAreZero 4 = .ok (.iload_n 3, 1) := by decide +kernel
theorem dX0_looseWordsAreZero_5 : decode cX0_looseWordsAreZero 5 = .ok (.bipush 6, 2) := by decide +kernel
theorem dX0_looseWordsAreZero_7 : decode cX0_looseWordsAreZero 7 = .ok (.if_icmp .ge 17, 3) := by decide +kernel
theorem dX0_looseWordsAreZero_10 : decode cX0_looseWordsAreZero 10 = .ok (.lload_n 1, 1) := by decide +kernel
theorem dX0_looseWordsAreZero_11 : decode cX0_looseWordsAreZero 11 = .ok (.aload_n 0, 1) := by decide +kernel
theorem dX0_looseWordsAreZero_12 : decode cX0_looseWordsAreZero 12 = .ok (.iload_n 3, 1) := by decide +kernel
theorem dX0_looseWordsAreZero_13 : decode cX0_looseWordsAreZero 13 = .ok (.invokestatic 90, 3) := by decide +kernel
theorem dX0_looseWordsAreZero_16 : decode cX0_looseWordsAreZero 16 = .ok (.lor, 1) := by decide +kernel
theorem dX0_looseWordsAreZero_17 : decode cX0_looseWordsAreZero 17 = .ok (.lstore_n 1, 1) := by decide +kernel
theorem dX0_looseWordsAreZero_18 : decode cX0_looseWordsAreZero 18 = .ok (.iinc 3 1, 3) := by decide +kernel
theorem dX0_looseWordsAreZero_21 : decode cX0_looseWordsAreZero 21 = .ok (.goto (-17), 3) := by decide +kernel
theorem dX0_looseWordsAreZero_24 : decode cX0_looseWordsAreZero 24 = .ok (.iconst 0, 1) := by decide +kernel
theorem dX0_looseWordsAreZero_25 : decode cX0_looseWordsAreZero 25 = .ok (.istore_n 3, 1) := by decide +kernel
theorem dX0_looseWordsAreZero_26 : decode cX0_looseWordsAreZero 26 = .ok (.iload_n 3, 1) := by decide +kernel
theorem dX0_looseWordsAreZero_27 : decode cX0_looseWordsAreZero 27 = .ok (.bipush 64, 2) := by decide +kernel
theorem dX0_looseWordsAreZero_29 : decode cX0_looseWordsAreZero 29 = .ok (.if_icmp .ge 33, 3) := by decide +kernel
theorem dX0_looseWordsAreZero_32 : decode cX0_looseWordsAreZero 32 = .ok (.lload_n 1, 1) := by decide +kernel
theorem dX0_looseWordsAreZero_33 : decode cX0_looseWordsAreZero 33 = .ok (.iload_n 3, 1) := by decide +kernel
theorem dX0_looseWordsAreZero_34 : decode cX0_looseWordsAreZero 34 = .ok (.lushr, 1) := by decide +kernel
theorem dX0_looseWordsAreZero_35 : decode cX0_looseWordsAreZero 35 = .ok (.lconst 1, 1) := by decide +kernel
theorem dX0_looseWordsAreZero_36 : decode cX0_looseWordsAreZero 36 = .ok (.land, 1) := by decide +kernel
theorem dX0_looseWordsAreZero_37 : decode cX0_looseWordsAreZero 37 = .ok (.lconst 0, 1) := by decide +kernel
theorem dX0_looseWordsAreZero_38 : decode cX0_looseWordsAreZero 38 = .ok (.lcmp, 1) := by decide +kernel
theorem dX0_looseWordsAreZero_39 : decode cX0_looseWordsAreZero 39 = .ok (.ifCond .ne 17, 3) := by decide +kernel
theorem dX0_looseWordsAreZero_42 : decode cX0_looseWordsAreZero 42 = .ok (.aload_n 0, 1) := by decide +kernel
theorem dX0_looseWordsAreZero_43 : decode cX0_looseWordsAreZero 43 = .ok (.getfield 27, 3) := by decide +kernel
theorem dX0_looseWordsAreZero_46 : decode cX0_looseWordsAreZero 46 = .ok (.bipush 46, 2) := by decide +kernel
theorem dX0_looseWordsAreZero_48 : decode cX0_looseWordsAreZero 48 = .ok (.iload_n 3, 1) := by decide +kernel
theorem dX0_looseWordsAreZero_49 : decode cX0_looseWordsAreZero 49 = .ok (.iadd, 1) := by decide +kernel
theorem dX0_looseWordsAreZero_50 : decode cX0_looseWordsAreZero 50 = .ok (.iaload, 1) := by decide +kernel
theorem dX0_looseWordsAreZero_51 : decode cX0_looseWordsAreZero 51 = .ok (.ifCond .eq 5, 3) := by decide +kernel
theorem dX0_looseWordsAreZero_54 : decode cX0_looseWordsAreZero 54 = .ok (.iconst 0, 1) := by decide +kernel
theorem dX0_looseWordsAreZero_55 : decode cX0_looseWordsAreZero 55 = .ok (.ireturn, 1) := by decide +kernel
theorem dX0_looseWordsAreZero_56 : decode cX0_looseWordsAreZero 56 = .ok (.iinc 3 1, 3) := by decide +kernel
theorem dX0_looseWordsAreZero_59 : decode cX0_looseWordsAreZero 59 = .ok (.goto (-33), 3) := by decide +kernel
theorem dX0_looseWordsAreZero_62 : decode cX0_looseWordsAreZero 62 = .ok (.iconst 1, 1) := by decide +kernel
theorem dX0_looseWordsAreZero_63 : decode cX0_looseWordsAreZero 63 = .ok (.ireturn, 1) := by decide +kernel
set_option maxRecDepth 20000 in
theorem ggX0_bitsOfWords_X2_lengthOf : GoodIn wsX0_bitsOfWords wsX2_lengthOf := goodIn_r _ [5, 6, 25] (by decide +kernel) (by decide +kernel)
set_option maxRecDepth 20000 in
theorem gX0_bitsOfWords_X2_lengthOf : GoodIn wsX0_bitsOfWords (wsV RX0 54 RX2 yX2_lengthOf wsX2_lengthOf) := goodIn_app (goodIn_of _ (by decide +kernel)) ggX0_bitsOfWords_X2_lengthOf
set_option maxRecDepth 20000 in
theorem ggX0_bitsOfWords_X2_wordIndex : GoodIn wsX0_bitsOfWords wsX2_wordIndex := goodIn_r _ [10, 11, 12, 13, 4, 14, 6, 15, 16, 17, 18, 19, 20, 21, 22, 23, 24, 25] (by decide +kernel) (by decide +kernel)
set_option maxRecDepth 20000 in
theorem gX0_bitsOfWords_X2_wordIndex : GoodIn wsX0_bitsOfWords (wsV RX0 94 RX2 yX2_wordIndex wsX2_wordIndex) := goodIn_app (goodIn_of _ (by decide +kernel)) ggX0_bitsOfWords_X2_wordIndex
theorem dX0_bitsOfWords_0 : decode cX0_bitsOfWords 0 = .ok (.lconst 0, 1) := by decide +kernel
theorem dX0_bitsOfWords_1 : decode cX0_bitsOfWords 1 = .ok (.lstore_n 2, 1) := by decide +kernel
theorem dX0_bitsOfWords_2 : decode cX0_bitsOfWords 2 = .ok (.aload_n 0, 1) := by decide +kernel
theorem dX0_bitsOfWords_3 : decode cX0_bitsOfWords 3 = .ok (.iload_n 1, 1) := by decide +kernel
theorem dX0_bitsOfWords_4 : decode cX0_bitsOfWords 4 = .ok (.invokevirtual 54, 3) := by decide +kernel
theorem dX0_bitsOfWords_7 : decode cX0_bitsOfWords 7 = .ok (.istore 4, 2) := by decide +kernel
theorem dX0_bitsOfWords_9 : decode cX0_bitsOfWords 9 = .ok (.iconst 0, 1) := by decide +kernel
theorem dX0_bitsOfWords_10 : decode cX0_bitsOfWords 10 = .ok (.istore 5, 2) := by decide +kernel
theorem dX0_bitsOfWords_12 : decode cX0_bitsOfWords 12 = .ok (.iload 5, 2) := by decide +kernel
theorem dX0_bitsOfWords_14 : decode cX0_bitsOfWords 14 = .ok (.iload 4, 2) := by decide +kernel
theorem dX0_bitsOfWords_16 : decode cX0_bitsOfWords 16 = .ok (.if_icmp .ge 31, 3) := by decide +kernel
theorem dX0_bitsOfWords_19 : decode cX0_bitsOfWords 19 = .ok (.aload_n 0, 1) := by decide +kernel
theorem dX0_bitsOfWords_20 : decode cX0_bitsOfWords 20 = .ok (.iload_n 1, 1) := by decide +kernel
theorem dX0_bitsOfWords_21 : decode cX0_bitsOfWords 21 = .ok (.iload 5, 2) := by decide +kernel
theorem dX0_bitsOfWords_23 : decode cX0_bitsOfWords 23 = .ok (.invokevirtual 94, 3) := by decide +kernel
theorem dX0_bitsOfWords_26 : decode cX0_bitsOfWords 26 = .ok (.istore 6, 2) := by decide +kernel
theorem dX0_bitsOfWords_28 : decode cX0_bitsOfWords 28 = .ok (.iload 6, 2) := by decide +kernel
theorem dX0_bitsOfWords_30 : decode cX0_bitsOfWords 30 = .ok (.iconst (-1), 1) := by decide +kernel
theorem dX0_bitsOfWords_31 : decode cX0_bitsOfWords 31 = .ok (.if_icmp .eq 10, 3) := by decide +kernel
theorem dX0_bitsOfWords_34 : decode cX0_bitsOfWords 34 = .ok (.lload_n 2, 1) := by decide +kernel
theorem dX0_bitsOfWords_35 : decode cX0_bitsOfWords 35 = .ok (.lconst 1, 1) := by decide +kernel
theorem dX0_bitsOfWords_36 : decode cX0_bitsOfWords 36 = .ok (.iload 6, 2) := by decide +kernel
theorem dX0_bitsOfWords_38 : decode cX0_bitsOfWords 38 = .ok (.lshl, 1) := by decide +kernel
theorem dX0_bitsOfWords_39 : decode cX0_bitsOfWords 39 = .ok (.lor, 1) := by decide +kernel
theorem dX0_bitsOfWords_40 : decode cX0_bitsOfWords 40 = .ok (.lstore_n 2, 1) := by decide +kernel
theorem dX0_bitsOfWords_41 : decode cX0_bitsOfWords 41 = .ok (.iinc 5 1, 3) := by decide +kernel
theorem dX0_bitsOfWords_44 : decode cX0_bitsOfWords 44 = .ok (.goto (-32), 3) := by decide +kernel
theorem dX0_bitsOfWords_47 : decode cX0_bitsOfWords 47 = .ok (.lload_n 2, 1) := by decide +kernel
theorem dX0_bitsOfWords_48 : decode cX0_bitsOfWords 48 = .ok (.lreturn, 1) := by decide +kernel
theorem dX1_init_0 : decode cX1_init 0 = .ok (.aload_n 0, 1) := by decide +kernel
theorem dX1_init_1 : decode cX1_init 1 = .ok (.invokespecial 3, 3) := by decide +kernel
theorem dX1_init_4 : decode cX1_init 4 = .ok (.aload_n 0, 1) := by decide +kernel
theorem dX1_init_5 : decode cX1_init 5 = .ok (.sipush 332, 3) := by decide +kernel
theorem dX1_init_8 : decode cX1_init 8 = .ok (.newarray .int, 2) := by decide +kernel
theorem dX1_init_10 : decode cX1_init 10 = .ok (.putfield 9, 3) := by decide +kernel
theorem dX1_init_13 : decode cX1_init 13 = .ok (.return_, 1) := by decide +kernel
theorem dX1_clear_0 : decode cX1_clear 0 = .ok (.iconst 0, 1) := by decide +kernel
theorem dX1_clear_1 : decode cX1_clear 1 = .ok (.istore_n 1, 1) := by decide +kernel
theorem dX1_clear_2 : decode cX1_clear 2 = .ok (.iload_n 1, 1) := by decide +kernel
theorem dX1_clear_3 : decode cX1_clear 3 = .ok (.sipush 332, 3) := by decide +kernel
theorem dX1_clear_6 : decode cX1_clear 6 = .ok (.if_icmp .ge 16, 3) := by decide +kernel
theorem dX1_clear_9 : decode cX1_clear 9 = .ok (.aload_n 0, 1) := by decide +kernel
theorem dX1_clear_10 : decode cX1_clear 10 = .ok (.getfield 9, 3) := by decide +kernel
theorem dX1_clear_13 : decode cX1_clear 13 = .ok (.iload_n 1, 1) := by decide +kernel
theorem dX1_clear_14 : decode cX1_clear 14 = .ok (.iconst 0, 1) := by decide +kernel
theorem dX1_clear_15 : decode cX1_clear 15 = .ok (.iastore, 1) := by decide +kernel
theorem dX1_clear_16 : decode cX1_clear 16 = .ok (.iinc 1 1, 3) := by decide +kernel
theorem dX1_clear_19 : decode cX1_clear 19 = .ok (.goto (-17), 3) := by decide +kernel
theorem dX1_clear_22 : decode cX1_clear 22 = .ok (.iconst 0, 1) := by decide +kernel
theorem dX1_clear_23 : decode cX1_clear 23 = .ok (.istore_n 1, 1) := by decide +kernel
theorem dX1_clear_24 : decode cX1_clear 24 = .ok (.iload_n 1, 1) := by decide +kernel
theorem dX1_clear_25 : decode cX1_clear 25 = .ok (.iconst 3, 1) := by decide +kernel
theorem dX1_clear_26 : decode cX1_clear 26 = .ok (.if_icmp .ge 20, 3) := by decide +kernel
theorem dX1_clear_29 : decode cX1_clear 29 = .ok (.aload_n 0, 1) := by decide +kernel
theorem dX1_clear_30 : decode cX1_clear 30 = .ok (.getfield 9, 3) := by decide +kernel
theorem dX1_clear_33 : decode cX1_clear 33 = .ok (.bipush 42, 2) := by decide +kernel
theorem dX1_clear_35 : decode cX1_clear 35 = .ok (.iload_n 1, 1) := by decide +kernel
theorem dX1_clear_36 : decode cX1_clear 36 = .ok (.iadd, 1) := by decide +kernel
theorem dX1_clear_37 : decode cX1_clear 37 = .ok (.bipush 32, 2) := by decide +kernel
theorem dX1_clear_39 : decode cX1_clear 39 = .ok (.iastore, 1) := by decide +kernel
theorem dX1_clear_40 : decode cX1_clear 40 = .ok (.iinc 1 1, 3) := by decide +kernel
theorem dX1_clear_43 : decode cX1_clear 43 = .ok (.goto (-19), 3) := by decide +kernel
theorem dX1_clear_46 : decode cX1_clear 46 = .ok (.return_, 1) := by decide +kernel
set_option maxRecDepth 20000 in
theorem ggX1_journalHolds_X1_nextCheck : GoodIn wsX1_journalHolds wsX1_nextCheck := goodIn_r _ [5] (by decide +kernel) (by decide +kernel)
set_option maxRecDepth 20000 in
theorem gX1_journalHolds_X1_nextCheck : GoodIn wsX1_journalHolds (va_wsS RX1 15 yX1_nextCheck wsX1_nextCheck) := goodIn_app (goodIn_of _ (by decide +kernel)) ggX1_journalHolds_X1_nextCheck
theorem dX1_journalHolds_0 : decode cX1_journalHolds 0 = .ok (.aload_n 0, 1) := by decide +kernel
theorem dX1_journalHolds_1 : decode cX1_journalHolds 1 = .ok (.getfield 9, 3) := by decide +kernel
theorem dX1_journalHolds_4 : decode cX1_journalHolds 4 = .ok (.bipush 110, 2) := by decide +kernel
theorem dX1_journalHolds_6 : decode cX1_journalHolds 6 = .ok (.iaload, 1) := by decide +kernel
theorem dX1_journalHolds_7 : decode cX1_journalHolds 7 = .ok (.istore_n 1, 1) := by decide +kernel
theorem dX1_journalHolds_8 : decode cX1_journalHolds 8 = .ok (.iload_n 1, 1) := by decide +kernel
theorem dX1_journalHolds_9 : decode cX1_journalHolds 9 = .ok (.iconst 1, 1) := by decide +kernel
theorem dX1_journalHolds_10 : decode cX1_journalHolds 10 = .ok (.if_icmp .lt 9, 3) := by decide +kernel
theorem dX1_journalHolds_13 : decode cX1_journalHolds 13 = .ok (.iload_n 1, 1) := by decide +kernel
theorem dX1_journalHolds_14 : decode cX1_journalHolds 14 = .ok (.bipush 110, 2) := by decide +kernel
theorem dX1_journalHolds_16 : decode cX1_journalHolds 16 = .ok (.if_icmp .le 5, 3) := by decide +kernel
theorem dX1_journalHolds_19 : decode cX1_journalHolds 19 = .ok (.iconst 0, 1) := by decide +kernel
theorem dX1_journalHolds_20 : decode cX1_journalHolds 20 = .ok (.ireturn, 1) := by decide +kernel
theorem dX1_journalHolds_21 : decode cX1_journalHolds 21 = .ok (.iload_n 1, 1) := by decide +kernel
theorem dX1_journalHolds_22 : decode cX1_journalHolds 22 = .ok (.istore_n 2, 1) := by decide +kernel
theorem dX1_journalHolds_23 : decode cX1_journalHolds 23 = .ok (.iconst (-1), 1) := by decide +kernel
theorem dX1_journalHolds_24 : decode cX1_journalHolds 24 = .ok (.istore_n 3, 1) := by decide +kernel
theorem dX1_journalHolds_25 : decode cX1_journalHolds 25 = .ok (.iconst 0, 1) := by decide +kernel
theorem dX1_journalHolds_26 : decode cX1_journalHolds 26 = .ok (.istore 4, 2) := by decide +kernel
theorem dX1_journalHolds_28 : decode cX1_journalHolds 28 = .ok (.iload 4, 2) := by decide +kernel
theorem dX1_journalHolds_30 : decode cX1_journalHolds 30 = .ok (.iload_n 1, 1) := by decide +kernel
theorem dX1_journalHolds_31 : decode cX1_journalHolds 31 = .ok (.if_icmp .ge 62, 3) := by decide +kernel
theorem dX1_journalHolds_34 : decode cX1_journalHolds 34 = .ok (.aload_n 0, 1) := by decide +kernel
theorem dX1_journalHolds_35 : decode cX1_journalHolds 35 = .ok (.getfield 9, 3) := by decide +kernel
theorem dX1_journalHolds_38 : decode cX1_journalHolds 38 = .ok (.bipush 112, 2) := by decide +kernel
theorem dX1_journalHolds_40 : decode cX1_journalHolds 40 = .ok (.iconst 2, 1) := by decide +kernel
theorem dX1_journalHolds_41 : decode cX1_journalHolds 41 = .ok (.iload 4, 2) := by decide +kernel
theorem dX1_journalHolds_43 : decode cX1_journalHolds 43 = .ok (.imul, 1) := by decide +kernel
theorem dX1_journalHolds_44 : decode cX1_journalHolds 44 = .ok (.iadd, 1) := by decide +kernel
theorem dX1_journalHolds_45 : decode cX1_journalHolds 45 = .ok (.iaload, 1) := by decide +kernel
theorem dX1_journalHolds_46 : decode cX1_journalHolds 46 = .ok (.istore 5, 2) := by decide +kernel
theorem dX1_journalHolds_48 : decode cX1_journalHolds 48 = .ok (.iload 5, 2) := by decide +kernel
theorem dX1_journalHolds_50 : decode cX1_journalHolds 50 = .ok (.iload_n 3, 1) := by decide +kernel
theorem dX1_journalHolds_51 : decode cX1_journalHolds 51 = .ok (.if_icmp .le 10, 3) := by decide +kernel
theorem dX1_journalHolds_54 : decode cX1_journalHolds 54 = .ok (.iload 5, 2) := by decide +kernel
theorem dX1_journalHolds_56 : decode cX1_journalHolds 56 = .ok (.bipush 110, 2) := by decide +kernel
theorem dX1_journalHolds_58 : decode cX1_journalHolds 58 = .ok (.if_icmp .lt 5, 3) := by decide +kernel
theorem dX1_journalHolds_61 : decode cX1_journalHolds 61 = .ok (.iconst 0, 1) := by decide +kernel
theorem dX1_journalHolds_62 : decode cX1_journalHolds 62 = .ok (.ireturn, 1) := by decide +kernel
theorem dX1_journalHolds_63 : decode cX1_journalHolds 63 = .ok (.iload_n 2, 1) := by decide +kernel
theorem dX1_journalHolds_64 : decode cX1_journalHolds 64 = .ok (.iload 5, 2) := by decide +kernel
theorem dX1_journalHolds_66 : decode cX1_journalHolds 66 = .ok (.aload_n 0, 1) := by decide +kernel
theorem dX1_journalHolds_67 : decode cX1_journalHolds 67 = .ok (.getfield 9, 3) := by decide +kernel
theorem dX1_journalHolds_70 : decode cX1_journalHolds 70 = .ok (.bipush 112, 2) := by decide +kernel
theorem dX1_journalHolds_72 : decode cX1_journalHolds 72 = .ok (.iconst 2, 1) := by decide +kernel
theorem dX1_journalHolds_73 : decode cX1_journalHolds 73 = .ok (.iload 4, 2) := by decide +kernel
theorem dX1_journalHolds_75 : decode cX1_journalHolds 75 = .ok (.imul, 1) := by decide +kernel
theorem dX1_journalHolds_76 : decode cX1_journalHolds 76 = .ok (.iadd, 1) := by decide +kernel
theorem dX1_journalHolds_77 : decode cX1_journalHolds 77 = .ok (.iconst 1, 1) := by decide +kernel
theorem dX1_journalHolds_78 : decode cX1_journalHolds 78 = .ok (.iadd, 1) := by decide +kernel
theorem dX1_journalHolds_79 : decode cX1_journalHolds 79 = .ok (.iaload, 1) := by decide +kernel
theorem dX1_journalHolds_80 : decode cX1_journalHolds 80 = .ok (.invokestatic 15, 3) := by decide +kernel
theorem dX1_journalHolds_83 : decode cX1_journalHolds 83 = .ok (.istore_n 2, 1) := by decide +kernel
theorem dX1_journalHolds_84 : decode cX1_journalHolds 84 = .ok (.iload 5, 2) := by decide +kernel
theorem dX1_journalHolds_86 : decode cX1_journalHolds 86 = .ok (.istore_n 3, 1) := by decide +kernel
theorem dX1_journalHolds_87 : decode cX1_journalHolds 87 = .ok (.iinc 4 1, 3) := by decide +kernel
theorem dX1_journalHolds_90 : decode cX1_journalHolds 90 = .ok (.goto (-62), 3) := by decide +kernel
theorem dX1_journalHolds_93 : decode cX1_journalHolds 93 = .ok (.iload_n 2, 1) := by decide +kernel
theorem dX1_journalHolds_94 : decode cX1_journalHolds 94 = .ok (.aload_n 0, 1) := by decide +kernel
theorem dX1_journalHolds_95 : decode cX1_journalHolds 95 = .ok (.getfield 9, 3) := by decide +kernel
theorem dX1_journalHolds_98 : decode cX1_journalHolds 98 = .ok (.bipush 111, 2) := by decide +kernel
theorem dX1_journalHolds_100 : decode cX1_journalHolds 100 = .ok (.iaload, 1) := by decide +kernel
theorem dX1_journalHolds_101 : decode cX1_journalHolds 101 = .ok (.if_icmp .ne 7, 3) := by decide +kernel
theorem dX1_journalHolds_104 : decode cX1_journalHolds 104 = .ok (.iconst 1, 1) := by decide +kernel
theorem dX1_journalHolds_105 : decode cX1_journalHolds 105 = .ok (.goto 4, 3) := by decide +kernel
theorem dX1_journalHolds_108 : decode cX1_journalHolds 108 = .ok (.iconst 0, 1) := by decide +kernel
theorem dX1_journalHolds_109 : decode cX1_journalHolds 109 = .ok (.ireturn, 1) := by decide +kernel
theorem dX1_nextCheck_0 : decode cX1_nextCheck 0 = .ok (.iload_n 0, 1) := by decide +kernel
theorem dX1_nextCheck_1 : decode cX1_nextCheck 1 = .ok (.bipush 31, 2) := by decide +kernel
theorem dX1_nextCheck_3 : decode cX1_nextCheck 3 = .ok (.imul, 1) := by decide +kernel
theorem dX1_nextCheck_4 : decode cX1_nextCheck 4 = .ok (.iload_n 1, 1) := by decide +kernel
theorem dX1_nextCheck_5 : decode cX1_nextCheck 5 = .ok (.iadd, 1) := by decide +kernel
theorem dX1_nextCheck_6 : decode cX1_nextCheck 6 = .ok (.bipush 31, 2) := by decide +kernel
theorem dX1_nextCheck_8 : decode cX1_nextCheck 8 = .ok (.imul, 1) := by decide +kernel
theorem dX1_nextCheck_9 : decode cX1_nextCheck 9 = .ok (.iload_n 2, 1) := by decide +kernel
theorem dX1_nextCheck_10 : decode cX1_nextCheck 10 = .ok (.iadd, 1) := by decide +kernel
theorem dX1_nextCheck_11 : decode cX1_nextCheck 11 = .ok (.ireturn, 1) := by decide +kernel
set_option maxRecDepth 20000 in
theorem ggX1_replayJournal_X1_replayInto : GoodIn wsX1_replayJournal wsX1_replayInto := goodIn_r _ [6, 1, 7] (by decide +kernel) (by decide +kernel)
set_option maxRecDepth 20000 in
theorem gX1_replayJournal_X1_replayInto : GoodIn wsX1_replayJournal (wsV RX1 19 RX1 yX1_replayInto wsX1_replayInto) := goodIn_app (goodIn_of _ (by decide +kernel)) ggX1_replayJournal_X1_replayInto
theorem dX1_replayJournal_0 : decode cX1_replayJournal 0 = .ok (.aload_n 0, 1) := by decide +kernel
theorem dX1_replayJournal_1 : decode cX1_replayJournal 1 = .ok (.aload_n 0, 1) := by decide +kernel
theorem dX1_replayJournal_2 : decode cX1_replayJournal 2 = .ok (.getfield 9, 3) := by decide +kernel
theorem dX1_replayJournal_5 : decode cX1_replayJournal 5 = .ok (.invokevirtual 19, 3) := by decide +kernel
theorem dX1_replayJournal_8 : decode cX1_replayJournal 8 = .ok (.aload_n 0, 1) := by decide +kernel
theorem dX1_replayJournal_9 : decode cX1_replayJournal 9 = .ok (.getfield 9, 3) := by decide +kernel
theorem dX1_replayJournal_12 : decode cX1_replayJournal 12 = .ok (.bipush 110, 2) := by decide +kernel
theorem dX1_replayJournal_14 : decode cX1_replayJournal 14 = .ok (.iconst 0, 1) := by decide +kernel
theorem dX1_replayJournal_15 : decode cX1_replayJournal 15 = .ok (.iastore, 1) := by decide +kernel
theorem dX1_replayJournal_16 : decode cX1_replayJournal 16 = .ok (.return_, 1) := by decide +kernel
theorem dX1_replayInto_0 : decode cX1_replayInto 0 = .ok (.aload_n 0, 1) := by decide +kernel
theorem dX1_replayInto_1 : decode cX1_replayInto 1 = .ok (.getfield 9, 3) := by decide +kernel
theorem dX1_replayInto_4 : decode cX1_replayInto 4 = .ok (.bipush 110, 2) := by decide +kernel
theorem dX1_replayInto_6 : decode cX1_replayInto 6 = .ok (.iaload, 1) := by decide +kernel
theorem dX1_replayInto_7 : decode cX1_replayInto 7 = .ok (.istore_n 2, 1) := by decide +kernel
theorem dX1_replayInto_8 : decode cX1_replayInto 8 = .ok (.iconst 0, 1) := by decide +kernel
theorem dX1_replayInto_9 : decode cX1_replayInto 9 = .ok (.istore_n 3, 1) := by decide +kernel
theorem dX1_replayInto_10 : decode cX1_replayInto 10 = .ok (.iload_n 3, 1) := by decide +kernel
theorem dX1_replayInto_11 : decode cX1_replayInto 11 = .ok (.iload_n 2, 1) := by decide +kernel
theorem dX1_replayInto_12 : decode cX1_replayInto 12 = .ok (.if_icmp .ge 35, 3) := by decide +kernel
theorem dX1_replayInto_15 : decode cX1_replayInto 15 = .ok (.aload_n 1, 1) := by decide +kernel
theorem dX1_replayInto_16 : decode cX1_replayInto 16 = .ok (.aload_n 0, 1) := by decide +kernel
theorem dX1_replayInto_17 : decode cX1_replayInto 17 = .ok (.getfield 9, 3) := by decide +kernel
theorem dX1_replayInto_20 : decode cX1_replayInto 20 = .ok (.bipush 112, 2) := by decide +kernel
theorem dX1_replayInto_22 : decode cX1_replayInto 22 = .ok (.iconst 2, 1) := by decide +kernel
theorem dX1_replayInto_23 : decode cX1_replayInto 23 = .ok (.iload_n 3, 1) := by decide +kernel
theorem dX1_replayInto_24 : decode cX1_replayInto 24 = .ok (.imul, 1) := by decide +kernel
theorem dX1_replayInto_25 : decode cX1_replayInto 25 = .ok (.iadd, 1) := by decide +kernel
theorem dX1_replayInto_26 : decode cX1_replayInto 26 = .ok (.iaload, 1) := by decide +kernel
theorem dX1_replayInto_27 : decode cX1_replayInto 27 = .ok (.aload_n 0, 1) := by decide +kernel
theorem dX1_replayInto_28 : decode cX1_replayInto 28 = .ok (.getfield 9, 3) := by decide +kernel
theorem dX1_replayInto_31 : decode cX1_replayInto 31 = .ok (.bipush 112, 2) := by decide +kernel
theorem dX1_replayInto_33 : decode cX1_replayInto 33 = .ok (.iconst 2, 1) := by decide +kernel
theorem dX1_replayInto_34 : decode cX1_replayInto 34 = .ok (.iload_n 3, 1) := by decide +kernel
theorem dX1_replayInto_35 : decode cX1_replayInto 35 = .ok (.imul, 1) := by decide +kernel
theorem dX1_replayInto_36 : decode cX1_replayInto 36 = .ok (.iadd, 1) := by decide +kernel
theorem dX1_replayInto_37 : decode cX1_replayInto 37 = .ok (.iconst 1, 1) := by decide +kernel
theorem dX1_replayInto_38 : decode cX1_replayInto 38 = .ok (.iadd, 1) := by decide +kernel
theorem dX1_replayInto_39 : decode cX1_replayInto 39 = .ok (.iaload, 1) := by decide +kernel
theorem dX1_replayInto_40 : decode cX1_replayInto 40 = .ok (.iastore, 1) := by decide +kernel
theorem dX1_replayInto_41 : decode cX1_replayInto 41 = .ok (.iinc 3 1, 3) := by decide +kernel
theorem dX1_replayInto_44 : decode cX1_replayInto 44 = .ok (.goto (-34), 3) := by decide +kernel
theorem dX1_replayInto_47 : decode cX1_replayInto 47 = .ok (.return_, 1) := by decide +kernel
theorem dX2_init_0 : decode cX2_init 0 = .ok (.aload_n 0, 1) := by decide +kernel
theorem dX2_init_1 : decode cX2_init 1 = .ok (.invokespecial 3, 3) := by decide +kernel
theorem dX2_init_4 : decode cX2_init 4 = .ok (.aload_n 0, 1) := by decide +kernel
theorem dX2_init_5 : decode cX2_init 5 = .ok (.bipush 110, 2) := by decide +kernel
theorem dX2_init_7 : decode cX2_init 7 = .ok (.newarray .int, 2) := by decide +kernel
theorem dX2_init_9 : decode cX2_init 9 = .ok (.putfield 9, 3) := by decide +kernel
theorem dX2_init_12 : decode cX2_init 12 = .ok (.return_, 1) := by decide +kernel
theorem dX2_copyFrom_0 : decode cX2_copyFrom 0 = .ok (.aload_n 1, 1) := by decide +kernel
theorem dX2_copyFrom_1 : decode cX2_copyFrom 1 = .ok (.iconst 0, 1) := by decide +kernel
theorem dX2_copyFrom_2 : decode cX2_copyFrom 2 = .ok (.aload_n 0, 1) := by decide +kernel
theorem dX2_copyFrom_3 : decode cX2_copyFrom 3 = .ok (.getfield 9, 3) := by decide +kernel
theorem dX2_copyFrom_6 : decode cX2_copyFrom 6 = .ok (.iconst 0, 1) := by decide +kernel
theorem dX2_copyFrom_7 : decode cX2_copyFrom 7 = .ok (.bipush 110, 2) := by decide +kernel
theorem dX2_copyFrom_9 : decode cX2_copyFrom 9 = .ok (.invokestatic 15, 3) := by decide +kernel
theorem dX2_copyFrom_12 : decode cX2_copyFrom 12 = .ok (.return_, 1) := by decide +kernel
theorem dX2_nameOf_0 : decode cX2_nameOf 0 = .ok (.aload_n 0, 1) := by decide +kernel
theorem dX2_nameOf_1 : decode cX2_nameOf 1 = .ok (.getfield 9, 3) := by decide +kernel
theorem dX2_nameOf_4 : decode cX2_nameOf 4 = .ok (.bipush 7, 2) := by decide +kernel
theorem dX2_nameOf_6 : decode cX2_nameOf 6 = .ok (.iload_n 1, 1) := by decide +kernel
theorem dX2_nameOf_7 : decode cX2_nameOf 7 = .ok (.imul, 1) := by decide +kernel
theorem dX2_nameOf_8 : decode cX2_nameOf 8 = .ok (.iaload, 1) := by decide +kernel
theorem dX2_nameOf_9 : decode cX2_nameOf 9 = .ok (.ireturn, 1) := by decide +kernel
theorem dX2_ownerOf_0 : decode cX2_ownerOf 0 = .ok (.aload_n 0, 1) := by decide +kernel
theorem dX2_ownerOf_1 : decode cX2_ownerOf 1 = .ok (.getfield 9, 3) := by decide +kernel
theorem dX2_ownerOf_4 : decode cX2_ownerOf 4 = .ok (.bipush 7, 2) := by decide +kernel
theorem dX2_ownerOf_6 : decode cX2_ownerOf 6 = .ok (.iload_n 1, 1) := by decide +kernel
theorem dX2_ownerOf_7 : decode cX2_ownerOf 7 = .ok (.imul, 1) := by decide +kernel
theorem dX2_ownerOf_8 : decode cX2_ownerOf 8 = .ok (.iconst 1, 1) := by decide +kernel
theorem dX2_ownerOf_9 : decode cX2_ownerOf 9 = .ok (.iadd, 1) := by decide +kernel
theorem dX2_ownerOf_10 : decode cX2_ownerOf 10 = .ok (.iaload, 1) := by decide +kernel
theorem dX2_ownerOf_11 : decode cX2_ownerOf 11 = .ok (.ireturn, 1) := by decide +kernel
theorem dX2_lengthOf_0 : decode cX2_lengthOf 0 = .ok (.aload_n 0, 1) := by decide +kernel
theorem dX2_lengthOf_1 : decode cX2_lengthOf 1 = .ok (.getfield 9, 3) := by decide +kernel
theorem dX2_lengthOf_4 : decode cX2_lengthOf 4 = .ok (.bipush 7, 2) := by decide +kernel
theorem dX2_lengthOf_6 : decode cX2_lengthOf 6 = .ok (.iload_n 1, 1) := by decide +kernel
theorem dX2_lengthOf_7 : decode cX2_lengthOf 7 = .ok (.imul, 1) := by decide +kernel
theorem dX2_lengthOf_8 : decode cX2_lengthOf 8 = .ok (.iconst 2, 1) := by decide +kernel
theorem dX2_lengthOf_9 : decode cX2_lengthOf 9 = .ok (.iadd, 1) := by decide +kernel
theorem dX2_lengthOf_10 : decode cX2_lengthOf 10 = .ok (.iaload, 1) := by decide +kernel
theorem dX2_lengthOf_11 : decode cX2_lengthOf 11 = .ok (.ireturn, 1) := by decide +kernel
theorem dX2_extentOf_0 : decode cX2_extentOf 0 = .ok (.aload_n 0, 1) := by decide +kernel
theorem dX2_extentOf_1 : decode cX2_extentOf 1 = .ok (.getfield 9, 3) := by decide +kernel
theorem dX2_extentOf_4 : decode cX2_extentOf 4 = .ok (.bipush 7, 2) := by decide +kernel
theorem dX2_extentOf_6 : decode cX2_extentOf 6 = .ok (.iload_n 1, 1) := by decide +kernel
theorem dX2_extentOf_7 : decode cX2_extentOf 7 = .ok (.imul, 1) := by decide +kernel
theorem dX2_extentOf_8 : decode cX2_extentOf 8 = .ok (.iconst 3, 1) := by decide +kernel
theorem dX2_extentOf_9 : decode cX2_extentOf 9 = .ok (.iadd, 1) := by decide +kernel
theorem dX2_extentOf_10 : decode cX2_extentOf 10 = .ok (.iload_n 2, 1) := by decide +kernel
theorem dX2_extentOf_11 : decode cX2_extentOf 11 = .ok (.iadd, 1) := by decide +kernel
theorem dX2_extentOf_12 : decode cX2_extentOf 12 = .ok (.iaload, 1) := by decide +kernel
theorem dX2_extentOf_13 : decode cX2_extentOf 13 = .ok (.ireturn, 1) := by decide +kernel
theorem dX2_quotaOf_0 : decode cX2_quotaOf 0 = .ok (.aload_n 0, 1) := by decide +kernel
theorem dX2_quotaOf_1 : decode cX2_quotaOf 1 = .ok (.getfield 9, 3) := by decide +kernel
theorem dX2_quotaOf_4 : decode cX2_quotaOf 4 = .ok (.bipush 42, 2) := by decide +kernel
theorem dX2_quotaOf_6 : decode cX2_quotaOf 6 = .ok (.iload_n 1, 1) := by decide +kernel
theorem dX2_quotaOf_7 : decode cX2_quotaOf 7 = .ok (.iadd, 1) := by decide +kernel
theorem dX2_quotaOf_8 : decode cX2_quotaOf 8 = .ok (.iaload, 1) := by decide +kernel
theorem dX2_quotaOf_9 : decode cX2_quotaOf 9 = .ok (.ireturn, 1) := by decide +kernel
theorem dX2_putLength_0 : decode cX2_putLength 0 = .ok (.aload_n 0, 1) := by decide +kernel
theorem dX2_putLength_1 : decode cX2_putLength 1 = .ok (.getfield 9, 3) := by decide +kernel
theorem dX2_putLength_4 : decode cX2_putLength 4 = .ok (.bipush 7, 2) := by decide +kernel
theorem dX2_putLength_6 : decode cX2_putLength 6 = .ok (.iload_n 1, 1) := by decide +kernel
theorem dX2_putLength_7 : decode cX2_putLength 7 = .ok (.imul, 1) := by decide +kernel
theorem dX2_putLength_8 : decode cX2_putLength 8 = .ok (.iconst 2, 1) := by decide +kernel
theorem dX2_putLength_9 : decode cX2_putLength 9 = .ok (.iadd, 1) := by decide +kernel
theorem dX2_putLength_10 : decode cX2_putLength 10 = .ok (.iload_n 2, 1) := by decide +kernel
theorem dX2_putLength_11 : decode cX2_putLength 11 = .ok (.iastore, 1) := by decide +kernel
theorem dX2_putLength_12 : decode cX2_putLength 12 = .ok (.return_, 1) := by decide +kernel
theorem dX2_putExtent_0 : decode cX2_putExtent 0 = .ok (.aload_n 0, 1) := by decide +kernel
theorem dX2_putExtent_1 : decode cX2_putExtent 1 = .ok (.getfield 9, 3) := by decide +kernel
theorem dX2_putExtent_4 : decode cX2_putExtent 4 = .ok (.bipush 7, 2) := by decide +kernel
theorem dX2_putExtent_6 : decode cX2_putExtent 6 = .ok (.iload_n 1, 1) := by decide +kernel
theorem dX2_putExtent_7 : decode cX2_putExtent 7 = .ok (.imul, 1) := by decide +kernel
theorem dX2_putExtent_8 : decode cX2_putExtent 8 = .ok (.iconst 3, 1) := by decide +kernel
theorem dX2_putExtent_9 : decode cX2_putExtent 9 = .ok (.iadd, 1) := by decide +kernel
theorem dX2_putExtent_10 : decode cX2_putExtent 10 = .ok (.iload_n 2, 1) := by decide +kernel
theorem dX2_putExtent_11 : decode cX2_putExtent 11 = .ok (.iadd, 1) := by decide +kernel
theorem dX2_putExtent_12 : decode cX2_putExtent 12 = .ok (.iload_n 3, 1) := by decide +kernel
theorem dX2_putExtent_13 : decode cX2_putExtent 13 = .ok (.iastore, 1) := by decide +kernel
theorem dX2_putExtent_14 : decode cX2_putExtent 14 = .ok (.return_, 1) := by decide +kernel
theorem dX2_putQuota_0 : decode cX2_putQuota 0 = .ok (.aload_n 0, 1) := by decide +kernel
theorem dX2_putQuota_1 : decode cX2_putQuota 1 = .ok (.getfield 9, 3) := by decide +kernel
theorem dX2_putQuota_4 : decode cX2_putQuota 4 = .ok (.bipush 42, 2) := by decide +kernel
theorem dX2_putQuota_6 : decode cX2_putQuota 6 = .ok (.iload_n 1, 1) := by decide +kernel
theorem dX2_putQuota_7 : decode cX2_putQuota 7 = .ok (.iadd, 1) := by decide +kernel
theorem dX2_putQuota_8 : decode cX2_putQuota 8 = .ok (.iload_n 2, 1) := by decide +kernel
theorem dX2_putQuota_9 : decode cX2_putQuota 9 = .ok (.iastore, 1) := by decide +kernel
theorem dX2_putQuota_10 : decode cX2_putQuota 10 = .ok (.return_, 1) := by decide +kernel
set_option maxRecDepth 20000 in
theorem ggX2_slotOf_X2_nameOf : GoodIn wsX2_slotOf wsX2_nameOf := goodIn_r _ [5, 6, 7] (by decide +kernel) (by decide +kernel)
set_option maxRecDepth 20000 in
theorem gX2_slotOf_X2_nameOf : GoodIn wsX2_slotOf (wsV RX2 21 RX2 yX2_nameOf wsX2_nameOf) := goodIn_app (goodIn_of _ (by decide +kernel)) ggX2_slotOf_X2_nameOf
theorem dX2_slotOf_0 : decode cX2_slotOf 0 = .ok (.iconst 0, 1) := by decide +kernel
theorem dX2_slotOf_1 : decode cX2_slotOf 1 = .ok (.istore_n 2, 1) := by decide +kernel
theorem dX2_slotOf_2 : decode cX2_slotOf 2 = .ok (.iload_n 2, 1) := by decide +kernel
theorem dX2_slotOf_3 : decode cX2_slotOf 3 = .ok (.bipush 6, 2) := by decide +kernel
theorem dX2_slotOf_5 : decode cX2_slotOf 5 = .ok (.if_icmp .ge 24, 3) := by decide +kernel
theorem dX2_slotOf_8 : decode cX2_slotOf 8 = .ok (.iload_n 1, 1) := by decide +kernel
theorem dX2_slotOf_9 : decode cX2_slotOf 9 = .ok (.ifCond .eq 14, 3) := by decide +kernel
theorem dX2_slotOf_12 : decode cX2_slotOf 12 = .ok (.aload_n 0, 1) := by decide +kernel
theorem dX2_slotOf_13 : decode cX2_slotOf 13 = .ok (.iload_n 2, 1) := by decide +kernel
theorem dX2_slotOf_14 : decode cX2_slotOf 14 = .ok (.invokevirtual 21, 3) := by decide +kernel
theorem dX2_slotOf_17 : decode cX2_slotOf 17 = .ok (.iload_n 1, 1) := by decide +kernel
theorem dX2_slotOf_18 : decode cX2_slotOf 18 = .ok (.if_icmp .ne 5, 3) := by decide +kernel
theorem dX2_slotOf_21 : decode cX2_slotOf 21 = .ok (.iload_n 2, 1) := by decide +kernel
theorem dX2_slotOf_22 : decode cX2_slotOf 22 = .ok (.ireturn, 1) := by decide +kernel
theorem dX2_slotOf_23 : decode cX2_slotOf 23 = .ok (.iinc 2 1, 3) := by decide +kernel
theorem dX2_slotOf_26 : decode cX2_slotOf 26 = .ok (.goto (-24), 3) := by decide +kernel
theorem dX2_slotOf_29 : decode cX2_slotOf 29 = .ok (.iconst (-1), 1) := by decide +kernel
theorem dX2_slotOf_30 : decode cX2_slotOf 30 = .ok (.ireturn, 1) := by decide +kernel
set_option maxRecDepth 20000 in
theorem ggX2_emptySlot_X2_nameOf : GoodIn wsX2_emptySlot wsX2_nameOf := goodIn_r _ [5, 6, 7] (by decide +kernel) (by decide +kernel)
set_option maxRecDepth 20000 in
theorem gX2_emptySlot_X2_nameOf : GoodIn wsX2_emptySlot (wsV RX2 21 RX2 yX2_nameOf wsX2_nameOf) := goodIn_app (goodIn_of _ (by decide +kernel)) ggX2_emptySlot_X2_nameOf
theorem dX2_emptySlot_0 : decode cX2_emptySlot 0 = .ok (.iconst 0, 1) := by decide +kernel
theorem dX2_emptySlot_1 : decode cX2_emptySlot 1 = .ok (.istore_n 1, 1) := by decide +kernel
theorem dX2_emptySlot_2 : decode cX2_emptySlot 2 = .ok (.iload_n 1, 1) := by decide +kernel
theorem dX2_emptySlot_3 : decode cX2_emptySlot 3 = .ok (.bipush 6, 2) := by decide +kernel
theorem dX2_emptySlot_5 : decode cX2_emptySlot 5 = .ok (.if_icmp .ge 19, 3) := by decide +kernel
theorem dX2_emptySlot_8 : decode cX2_emptySlot 8 = .ok (.aload_n 0, 1) := by decide +kernel
theorem dX2_emptySlot_9 : decode cX2_emptySlot 9 = .ok (.iload_n 1, 1) := by decide +kernel
theorem dX2_emptySlot_10 : decode cX2_emptySlot 10 = .ok (.invokevirtual 21, 3) := by decide +kernel
theorem dX2_emptySlot_13 : decode cX2_emptySlot 13 = .ok (.ifCond .ne 5, 3) := by decide +kernel
theorem dX2_emptySlot_16 : decode cX2_emptySlot 16 = .ok (.iload_n 1, 1) := by decide +kernel
theorem dX2_emptySlot_17 : decode cX2_emptySlot 17 = .ok (.ireturn, 1) := by decide +kernel
theorem dX2_emptySlot_18 : decode cX2_emptySlot 18 = .ok (.iinc 1 1, 3) := by decide +kernel
theorem dX2_emptySlot_21 : decode cX2_emptySlot 21 = .ok (.goto (-19), 3) := by decide +kernel
theorem dX2_emptySlot_24 : decode cX2_emptySlot 24 = .ok (.iconst (-1), 1) := by decide +kernel
theorem dX2_emptySlot_25 : decode cX2_emptySlot 25 = .ok (.ireturn, 1) := by decide +kernel
theorem dX2_nameFile_0 : decode cX2_nameFile 0 = .ok (.aload_n 0, 1) := by decide +kernel
theorem dX2_nameFile_1 : decode cX2_nameFile 1 = .ok (.getfield 9, 3) := by decide +kernel
theorem dX2_nameFile_4 : decode cX2_nameFile 4 = .ok (.bipush 7, 2) := by decide +kernel
theorem dX2_nameFile_6 : decode cX2_nameFile 6 = .ok (.iload_n 1, 1) := by decide +kernel
theorem dX2_nameFile_7 : decode cX2_nameFile 7 = .ok (.imul, 1) := by decide +kernel
theorem dX2_nameFile_8 : decode cX2_nameFile 8 = .ok (.iload_n 2, 1) := by decide +kernel
theorem dX2_nameFile_9 : decode cX2_nameFile 9 = .ok (.iastore, 1) := by decide +kernel
theorem dX2_nameFile_10 : decode cX2_nameFile 10 = .ok (.return_, 1) := by decide +kernel
theorem dX2_makeFile_0 : decode cX2_makeFile 0 = .ok (.aload_n 0, 1) := by decide +kernel
theorem dX2_makeFile_1 : decode cX2_makeFile 1 = .ok (.getfield 9, 3) := by decide +kernel
theorem dX2_makeFile_4 : decode cX2_makeFile 4 = .ok (.bipush 7, 2) := by decide +kernel
theorem dX2_makeFile_6 : decode cX2_makeFile 6 = .ok (.iload_n 1, 1) := by decide +kernel
theorem dX2_makeFile_7 : decode cX2_makeFile 7 = .ok (.imul, 1) := by decide +kernel
theorem dX2_makeFile_8 : decode cX2_makeFile 8 = .ok (.iload_n 2, 1) := by decide +kernel
theorem dX2_makeFile_9 : decode cX2_makeFile 9 = .ok (.iastore, 1) := by decide +kernel
theorem dX2_makeFile_10 : decode cX2_makeFile 10 = .ok (.aload_n 0, 1) := by decide +kernel
theorem dX2_makeFile_11 : decode cX2_makeFile 11 = .ok (.getfield 9, 3) := by decide +kernel
theorem dX2_makeFile_14 : decode cX2_makeFile 14 = .ok (.bipush 7, 2) := by decide +kernel
theorem dX2_makeFile_16 : decode cX2_makeFile 16 = .ok (.iload_n 1, 1) := by decide +kernel
theorem dX2_makeFile_17 : decode cX2_makeFile 17 = .ok (.imul, 1) := by decide +kernel
theorem dX2_makeFile_18 : decode cX2_makeFile 18 = .ok (.iconst 1, 1) := by decide +kernel
theorem dX2_makeFile_19 : decode cX2_makeFile 19 = .ok (.iadd, 1) := by decide +kernel
theorem dX2_makeFile_20 : decode cX2_makeFile 20 = .ok (.iload_n 3, 1) := by decide +kernel
theorem dX2_makeFile_21 : decode cX2_makeFile 21 = .ok (.iastore, 1) := by decide +kernel
theorem dX2_makeFile_22 : decode cX2_makeFile 22 = .ok (.return_, 1) := by decide +kernel
set_option maxRecDepth 20000 in
theorem ggX2_dropFile_X2_shrink : GoodIn wsX2_dropFile wsX2_shrink := goodIn_r _ [5, 6, 7, 8, 4, 9, 10, 11, 12, 13, 14, 15, 16, 17, 18, 19, 20, 21, 22, 23, 24, 25, 26, 27, 28, 29, 30, 31, 32, 33, 34, 35, 36, 37, 38, 39, 40, 41, 42, 43, 44, 45, 46, 47, 48, 49, 50, 51, 52, 53, 54, 55, 56, 57, 58, 59, 60, 61, 62, 67] (by decide +kernel) (by decide +kernel)
set_option maxRecDepth 20000 in
theorem gX2_dropFile_X2_shrink : GoodIn wsX2_dropFile (wsV RX2 25 RX2 yX2_shrink wsX2_shrink) := goodIn_app (goodIn_of _ (by decide +kernel)) ggX2_dropFile_X2_shrink
set_option maxRecDepth 20000 in
theorem ggX2_dropFile_X2_makeFile : GoodIn wsX2_dropFile wsX2_makeFile := goodIn_r _ [66, 10, 67] (by decide +kernel) (by decide +kernel)
set_option maxRecDepth 20000 in
theorem gX2_dropFile_X2_makeFile : GoodIn wsX2_dropFile (wsV RX2 29 RX2 yX2_makeFile wsX2_makeFile) := goodIn_app (goodIn_of _ (by decide +kernel)) ggX2_dropFile_X2_makeFile
theorem dX2_dropFile_0 : decode cX2_dropFile 0 = .ok (.aload_n 0, 1) := by decide +kernel
theorem dX2_dropFile_1 : decode cX2_dropFile 1 = .ok (.iload_n 1, 1) := by decide +kernel
theorem dX2_dropFile_2 : decode cX2_dropFile 2 = .ok (.iconst 0, 1) := by decide +kernel
theorem dX2_dropFile_3 : decode cX2_dropFile 3 = .ok (.invokevirtual 25, 3) := by decide +kernel
theorem dX2_dropFile_6 : decode cX2_dropFile 6 = .ok (.aload_n 0, 1) := by decide +kernel
theorem dX2_dropFile_7 : decode cX2_dropFile 7 = .ok (.iload_n 1, 1) := by decide +kernel
theorem dX2_dropFile_8 : decode cX2_dropFile 8 = .ok (.iconst 0, 1) := by decide +kernel
theorem dX2_dropFile_9 : decode cX2_dropFile 9 = .ok (.iconst 0, 1) := by decide +kernel
theorem dX2_dropFile_10 : decode cX2_dropFile 10 = .ok (.invokevirtual 29, 3) := by decide +kernel
theorem dX2_dropFile_13 : decode cX2_dropFile 13 = .ok (.return_, 1) := by decide +kernel
set_option maxRecDepth 20000 in
theorem ggX2_runsOf_X2_extentOf : GoodIn wsX2_runsOf wsX2_extentOf := goodIn_r _ [5, 6, 7] (by decide +kernel) (by decide +kernel)
set_option maxRecDepth 20000 in
theorem gX2_runsOf_X2_extentOf : GoodIn wsX2_runsOf (wsV RX2 33 RX2 yX2_extentOf wsX2_extentOf) := goodIn_app (goodIn_of _ (by decide +kernel)) ggX2_runsOf_X2_extentOf
theorem dX2_runsOf_0 : decode cX2_runsOf 0 = .ok (.iconst 0, 1) := by decide +kernel
theorem dX2_runsOf_1 : decode cX2_runsOf 1 = .ok (.istore_n 2, 1) := by decide +kernel
theorem dX2_runsOf_2 : decode cX2_runsOf 2 = .ok (.iconst 0, 1) := by decide +kernel
theorem dX2_runsOf_3 : decode cX2_runsOf 3 = .ok (.istore_n 3, 1) := by decide +kernel
theorem dX2_runsOf_4 : decode cX2_runsOf 4 = .ok (.iload_n 3, 1) := by decide +kernel
theorem dX2_runsOf_5 : decode cX2_runsOf 5 = .ok (.iconst 4, 1) := by decide +kernel
theorem dX2_runsOf_6 : decode cX2_runsOf 6 = .ok (.if_icmp .ge 21, 3) := by decide +kernel
theorem dX2_runsOf_9 : decode cX2_runsOf 9 = .ok (.aload_n 0, 1) := by decide +kernel
theorem dX2_runsOf_10 : decode cX2_runsOf 10 = .ok (.iload_n 1, 1) := by decide +kernel
theorem dX2_runsOf_11 : decode cX2_runsOf 11 = .ok (.iload_n 3, 1) := by decide +kernel
theorem dX2_runsOf_12 : decode cX2_runsOf 12 = .ok (.invokevirtual 33, 3) := by decide +kernel
theorem dX2_runsOf_15 : decode cX2_runsOf 15 = .ok (.ifCond .eq 6, 3) := by decide +kernel
theorem dX2_runsOf_18 : decode cX2_runsOf 18 = .ok (.iinc 2 1, 3) := by decide +kernel
theorem dX2_runsOf_21 : decode cX2_runsOf 21 = .ok (.iinc 3 1, 3) := by decide +kernel
theorem dX2_runsOf_24 : decode cX2_runsOf 24 = .ok (.goto (-20), 3) := by decide +kernel
theorem dX2_runsOf_27 : decode cX2_runsOf 27 = .ok (.iload_n 2, 1) := by decide +kernel
theorem dX2_runsOf_28 : decode cX2_runsOf 28 = .ok (.ireturn, 1) := by decide +kernel
set_option maxRecDepth 20000 in
theorem ggX2_blocksOf_X2_extentOf : GoodIn wsX2_blocksOf wsX2_extentOf := goodIn_r _ [5, 6, 14] (by decide +kernel) (by decide +kernel)
set_option maxRecDepth 20000 in
theorem gX2_blocksOf_X2_extentOf : GoodIn wsX2_blocksOf (wsV RX2 33 RX2 yX2_extentOf wsX2_extentOf) := goodIn_app (goodIn_of _ (by decide +kernel)) ggX2_blocksOf_X2_extentOf
set_option maxRecDepth 20000 in
theorem ggX2_blocksOf_X3_blocksOf : GoodIn wsX2_blocksOf wsX3_blocksOf := goodIn_r _ [10, 11, 12, 9, 13] (by decide +kernel) (by decide +kernel)
set_option maxRecDepth 20000 in
theorem gX2_blocksOf_X3_blocksOf : GoodIn wsX2_blocksOf (va_wsS RX2 37 yX3_blocksOf wsX3_blocksOf) := goodIn_app (goodIn_of _ (by decide +kernel)) ggX2_blocksOf_X3_blocksOf
theorem dX2_blocksOf_0 : decode cX2_blocksOf 0 = .ok (.iconst 0, 1) := by decide +kernel
theorem dX2_blocksOf_1 : decode cX2_blocksOf 1 = .ok (.istore_n 2, 1) := by decide +kernel
theorem dX2_blocksOf_2 : decode cX2_blocksOf 2 = .ok (.iconst 0, 1) := by decide +kernel
theorem dX2_blocksOf_3 : decode cX2_blocksOf 3 = .ok (.istore_n 3, 1) := by decide +kernel
theorem dX2_blocksOf_4 : decode cX2_blocksOf 4 = .ok (.iload_n 3, 1) := by decide +kernel
theorem dX2_blocksOf_5 : decode cX2_blocksOf 5 = .ok (.iconst 4, 1) := by decide +kernel
theorem dX2_blocksOf_6 : decode cX2_blocksOf 6 = .ok (.if_icmp .ge 21, 3) := by decide +kernel
theorem dX2_blocksOf_9 : decode cX2_blocksOf 9 = .ok (.iload_n 2, 1) := by decide +kernel
theorem dX2_blocksOf_10 : decode cX2_blocksOf 10 = .ok (.aload_n 0, 1) := by decide +kernel
theorem dX2_blocksOf_11 : decode cX2_blocksOf 11 = .ok (.iload_n 1, 1) := by decide +kernel
theorem dX2_blocksOf_12 : decode cX2_blocksOf 12 = .ok (.iload_n 3, 1) := by decide +kernel
theorem dX2_blocksOf_13 : decode cX2_blocksOf 13 = .ok (.invokevirtual 33, 3) := by decide +kernel
theorem dX2_blocksOf_16 : decode cX2_blocksOf 16 = .ok (.invokestatic 37, 3) := by decide +kernel
theorem dX2_blocksOf_19 : decode cX2_blocksOf 19 = .ok (.iadd, 1) := by decide +kernel
theorem dX2_blocksOf_20 : decode cX2_blocksOf 20 = .ok (.istore_n 2, 1) := by decide +kernel
theorem dX2_blocksOf_21 : decode cX2_blocksOf 21 = .ok (.iinc 3 1, 3) := by decide +kernel
theorem dX2_blocksOf_24 : decode cX2_blocksOf 24 = .ok (.goto (-20), 3) := by decide +kernel
theorem dX2_blocksOf_27 : decode cX2_blocksOf 27 = .ok (.iload_n 2, 1) := by decide +kernel
theorem dX2_blocksOf_28 : decode cX2_blocksOf 28 = .ok (.ireturn, 1) := by decide +kernel
set_option maxRecDepth 20000 in
theorem ggX2_usageOf_X2_ownerOf : GoodIn wsX2_usageOf wsX2_ownerOf := goodIn_r _ [5, 6, 22] (by decide +kernel) (by decide +kernel)
set_option maxRecDepth 20000 in
theorem gX2_usageOf_X2_ownerOf : GoodIn wsX2_usageOf (wsV RX2 42 RX2 yX2_ownerOf wsX2_ownerOf) := goodIn_app (goodIn_of _ (by decide +kernel)) ggX2_usageOf_X2_ownerOf
set_option maxRecDepth 20000 in
theorem ggX2_usageOf_X2_blocksOf : GoodIn wsX2_usageOf wsX2_blocksOf := goodIn_r _ [10, 11, 12, 13, 4, 14, 6, 15, 16, 17, 18, 19, 20, 21, 22] (by decide +kernel) (by decide +kernel)
set_option maxRecDepth 20000 in
theorem gX2_usageOf_X2_blocksOf : GoodIn wsX2_usageOf (wsV RX2 45 RX2 yX2_blocksOf wsX2_blocksOf) := goodIn_app (goodIn_of _ (by decide +kernel)) ggX2_usageOf_X2_blocksOf
theorem dX2_usageOf_0 : decode cX2_usageOf 0 = .ok (.iconst 0, 1) := by decide +kernel
theorem dX2_usageOf_1 : decode cX2_usageOf 1 = .ok (.istore_n 2, 1) := by decide +kernel
theorem dX2_usageOf_2 : decode cX2_usageOf 2 = .ok (.iconst 0, 1) := by decide +kernel
theorem dX2_usageOf_3 : decode cX2_usageOf 3 = .ok (.istore_n 3, 1) := by decide +kernel
theorem dX2_usageOf_4 : decode cX2_usageOf 4 = .ok (.iload_n 3, 1) := by decide +kernel
theorem dX2_usageOf_5 : decode cX2_usageOf 5 = .ok (.bipush 6, 2) := by decide +kernel
theorem dX2_usageOf_7 : decode cX2_usageOf 7 = .ok (.if_icmp .ge 26, 3) := by decide +kernel
theorem dX2_usageOf_10 : decode cX2_usageOf 10 = .ok (.aload_n 0, 1) := by decide +kernel
theorem dX2_usageOf_11 : decode cX2_usageOf 11 = .ok (.iload_n 3, 1) := by decide +kernel
theorem dX2_usageOf_12 : decode cX2_usageOf 12 = .ok (.invokevirtual 42, 3) := by decide +kernel
theorem dX2_usageOf_15 : decode cX2_usageOf 15 = .ok (.iload_n 1, 1) := by decide +kernel
theorem dX2_usageOf_16 : decode cX2_usageOf 16 = .ok (.if_icmp .ne 11, 3) := by decide +kernel
theorem dX2_usageOf_19 : decode cX2_usageOf 19 = .ok (.iload_n 2, 1) := by decide +kernel
theorem dX2_usageOf_20 : decode cX2_usageOf 20 = .ok (.aload_n 0, 1) := by decide +kernel
theorem dX2_usageOf_21 : decode cX2_usageOf 21 = .ok (.iload_n 3, 1) := by decide +kernel
theorem dX2_usageOf_22 : decode cX2_usageOf 22 = .ok (.invokevirtual 45, 3) := by decide +kernel
theorem dX2_usageOf_25 : decode cX2_usageOf 25 = .ok (.iadd, 1) := by decide +kernel
theorem dX2_usageOf_26 : decode cX2_usageOf 26 = .ok (.istore_n 2, 1) := by decide +kernel
theorem dX2_usageOf_27 : decode cX2_usageOf 27 = .ok (.iinc 3 1, 3) := by decide +kernel
theorem dX2_usageOf_30 : decode cX2_usageOf 30 = .ok (.goto (-26), 3) := by decide +kernel
theorem dX2_usageOf_33 : decode cX2_usageOf 33 = .ok (.iload_n 2, 1) := by decide +kernel
theorem dX2_usageOf_34 : decode cX2_usageOf 34 = .ok (.ireturn, 1) := by decide +kernel
set_option maxRecDepth 20000 in
theorem ggX2_wordIndex_X2_extentOf : GoodIn wsX2_wordIndex wsX2_extentOf := goodIn_r _ [5, 6, 17] (by decide +kernel) (by decide +kernel)
set_option maxRecDepth 20000 in
theorem gX2_wordIndex_X2_extentOf : GoodIn wsX2_wordIndex (wsV RX2 33 RX2 yX2_extentOf wsX2_extentOf) := goodIn_app (goodIn_of _ (by decide +kernel)) ggX2_wordIndex_X2_extentOf
set_option maxRecDepth 20000 in
theorem ggX2_wordIndex_X3_blocksOf : GoodIn wsX2_wordIndex wsX3_blocksOf := goodIn_r _ [10, 11, 12, 9, 13] (by decide +kernel) (by decide +kernel)
set_option maxRecDepth 20000 in
theorem gX2_wordIndex_X3_blocksOf : GoodIn wsX2_wordIndex (va_wsS RX2 37 yX3_blocksOf wsX3_blocksOf) := goodIn_app (goodIn_of _ (by decide +kernel)) ggX2_wordIndex_X3_blocksOf
set_option maxRecDepth 20000 in
theorem ggX2_wordIndex_X3_firstOf : GoodIn wsX2_wordIndex wsX3_firstOf := goodIn_r _ [16] (by decide +kernel) (by decide +kernel)
set_option maxRecDepth 20000 in
theorem gX2_wordIndex_X3_firstOf : GoodIn wsX2_wordIndex (va_wsS RX2 46 yX3_firstOf wsX3_firstOf) := goodIn_app (goodIn_of _ (by decide +kernel)) ggX2_wordIndex_X3_firstOf
theorem dX2_wordIndex_0 : decode cX2_wordIndex 0 = .ok (.iload_n 2, 1) := by decide +kernel
theorem dX2_wordIndex_1 : decode cX2_wordIndex 1 = .ok (.istore_n 3, 1) := by decide +kernel
theorem dX2_wordIndex_2 : decode cX2_wordIndex 2 = .ok (.iconst 0, 1) := by decide +kernel
theorem dX2_wordIndex_3 : decode cX2_wordIndex 3 = .ok (.istore 4, 2) := by decide +kernel
theorem dX2_wordIndex_5 : decode cX2_wordIndex 5 = .ok (.iload 4, 2) := by decide +kernel
theorem dX2_wordIndex_7 : decode cX2_wordIndex 7 = .ok (.iconst 4, 1) := by decide +kernel
theorem dX2_wordIndex_8 : decode cX2_wordIndex 8 = .ok (.if_icmp .ge 48, 3) := by decide +kernel
theorem dX2_wordIndex_11 : decode cX2_wordIndex 11 = .ok (.aload_n 0, 1) := by decide +kernel
theorem dX2_wordIndex_12 : decode cX2_wordIndex 12 = .ok (.iload_n 1, 1) := by decide +kernel
theorem dX2_wordIndex_13 : decode cX2_wordIndex 13 = .ok (.iload 4, 2) := by decide +kernel
theorem dX2_wordIndex_15 : decode cX2_wordIndex 15 = .ok (.invokevirtual 33, 3) := by decide +kernel
theorem dX2_wordIndex_18 : decode cX2_wordIndex 18 = .ok (.istore 5, 2) := by decide +kernel
theorem dX2_wordIndex_20 : decode cX2_wordIndex 20 = .ok (.iconst 2, 1) := by decide +kernel
theorem dX2_wordIndex_21 : decode cX2_wordIndex 21 = .ok (.iload 5, 2) := by decide +kernel
theorem dX2_wordIndex_23 : decode cX2_wordIndex 23 = .ok (.invokestatic 37, 3) := by decide +kernel
theorem dX2_wordIndex_26 : decode cX2_wordIndex 26 = .ok (.imul, 1) := by decide +kernel
theorem dX2_wordIndex_27 : decode cX2_wordIndex 27 = .ok (.istore 6, 2) := by decide +kernel
theorem dX2_wordIndex_29 : decode cX2_wordIndex 29 = .ok (.iload_n 3, 1) := by decide +kernel
theorem dX2_wordIndex_30 : decode cX2_wordIndex 30 = .ok (.iload 6, 2) := by decide +kernel
theorem dX2_wordIndex_32 : decode cX2_wordIndex 32 = .ok (.if_icmp .ge 13, 3) := by decide +kernel
theorem dX2_wordIndex_35 : decode cX2_wordIndex 35 = .ok (.iconst 2, 1) := by decide +kernel
theorem dX2_wordIndex_36 : decode cX2_wordIndex 36 = .ok (.iload 5, 2) := by decide +kernel
theorem dX2_wordIndex_38 : decode cX2_wordIndex 38 = .ok (.invokestatic 46, 3) := by decide +kernel
theorem dX2_wordIndex_41 : decode cX2_wordIndex 41 = .ok (.imul, 1) := by decide +kernel
theorem dX2_wordIndex_42 : decode cX2_wordIndex 42 = .ok (.iload_n 3, 1) := by decide +kernel
theorem dX2_wordIndex_43 : decode cX2_wordIndex 43 = .ok (.iadd, 1) := by decide +kernel
theorem dX2_wordIndex_44 : decode cX2_wordIndex 44 = .ok (.ireturn, 1) := by decide +kernel
theorem dX2_wordIndex_45 : decode cX2_wordIndex 45 = .ok (.iload_n 3, 1) := by decide +kernel
theorem dX2_wordIndex_46 : decode cX2_wordIndex 46 = .ok (.iload 6, 2) := by decide +kernel
theorem dX2_wordIndex_48 : decode cX2_wordIndex 48 = .ok (.isub, 1) := by decide +kernel
theorem dX2_wordIndex_49 : decode cX2_wordIndex 49 = .ok (.istore_n 3, 1) := by decide +kernel
theorem dX2_wordIndex_50 : decode cX2_wordIndex 50 = .ok (.iinc 4 1, 3) := by decide +kernel
theorem dX2_wordIndex_53 : decode cX2_wordIndex 53 = .ok (.goto (-48), 3) := by decide +kernel
theorem dX2_wordIndex_56 : decode cX2_wordIndex 56 = .ok (.iconst (-1), 1) := by decide +kernel
theorem dX2_wordIndex_57 : decode cX2_wordIndex 57 = .ok (.ireturn, 1) := by decide +kernel
set_option maxRecDepth 20000 in
theorem ggX2_wordAt_X2_wordIndex : GoodIn wsX2_wordAt wsX2_wordIndex := goodIn_r _ [6, 7, 8, 9, 5, 10, 1, 11, 12, 13, 14, 15, 16, 17, 18, 19, 20, 21] (by decide +kernel) (by decide +kernel)
set_option maxRecDepth 20000 in
theorem gX2_wordAt_X2_wordIndex : GoodIn wsX2_wordAt (wsV RX2 49 RX2 yX2_wordIndex wsX2_wordIndex) := goodIn_app (goodIn_of _ (by decide +kernel)) ggX2_wordAt_X2_wordIndex
theorem dX2_wordAt_0 : decode cX2_wordAt 0 = .ok (.aload_n 0, 1) := by decide +kernel
theorem dX2_wordAt_1 : decode cX2_wordAt 1 = .ok (.iload_n 1, 1) := by decide +kernel
theorem dX2_wordAt_2 : decode cX2_wordAt 2 = .ok (.iload_n 2, 1) := by decide +kernel
theorem dX2_wordAt_3 : decode cX2_wordAt 3 = .ok (.invokevirtual 49, 3) := by decide +kernel
theorem dX2_wordAt_6 : decode cX2_wordAt 6 = .ok (.istore_n 3, 1) := by decide +kernel
theorem dX2_wordAt_7 : decode cX2_wordAt 7 = .ok (.iload_n 3, 1) := by decide +kernel
theorem dX2_wordAt_8 : decode cX2_wordAt 8 = .ok (.iconst (-1), 1) := by decide +kernel
theorem dX2_wordAt_9 : decode cX2_wordAt 9 = .ok (.if_icmp .ne 7, 3) := by decide +kernel
theorem dX2_wordAt_12 : decode cX2_wordAt 12 = .ok (.iconst 0, 1) := by decide +kernel
theorem dX2_wordAt_13 : decode cX2_wordAt 13 = .ok (.goto 12, 3) := by decide +kernel
theorem dX2_wordAt_16 : decode cX2_wordAt 16 = .ok (.aload_n 0, 1) := by decide +kernel
theorem dX2_wordAt_17 : decode cX2_wordAt 17 = .ok (.getfield 9, 3) := by decide +kernel
theorem dX2_wordAt_20 : decode cX2_wordAt 20 = .ok (.bipush 46, 2) := by decide +kernel
theorem dX2_wordAt_22 : decode cX2_wordAt 22 = .ok (.iload_n 3, 1) := by decide +kernel
theorem dX2_wordAt_23 : decode cX2_wordAt 23 = .ok (.iadd, 1) := by decide +kernel
theorem dX2_wordAt_24 : decode cX2_wordAt 24 = .ok (.iaload, 1) := by decide +kernel
theorem dX2_wordAt_25 : decode cX2_wordAt 25 = .ok (.ireturn, 1) := by decide +kernel
set_option maxRecDepth 20000 in
theorem ggX2_putWord_X2_wordIndex : GoodIn wsX2_putWord wsX2_wordIndex := goodIn_r _ [6, 7, 8, 9, 5, 10, 1, 11, 12, 13, 14, 15, 16, 17, 18, 19, 20, 21] (by decide +kernel) (by decide +kernel)
set_option maxRecDepth 20000 in
theorem gX2_putWord_X2_wordIndex : GoodIn wsX2_putWord (wsV RX2 49 RX2 yX2_wordIndex wsX2_wordIndex) := goodIn_app (goodIn_of _ (by decide +kernel)) ggX2_putWord_X2_wordIndex
theorem dX2_putWord_0 : decode cX2_putWord 0 = .ok (.aload_n 0, 1) := by decide +kernel
theorem dX2_putWord_1 : decode cX2_putWord 1 = .ok (.iload_n 1, 1) := by decide +kernel
theorem dX2_putWord_2 : decode cX2_putWord 2 = .ok (.iload_n 2, 1) := by decide +kernel
theorem dX2_putWord_3 : decode cX2_putWord 3 = .ok (.invokevirtual 49, 3) := by decide +kernel
theorem dX2_putWord_6 : decode cX2_putWord 6 = .ok (.istore 4, 2) := by decide +kernel
theorem dX2_putWord_8 : decode cX2_putWord 8 = .ok (.iload 4, 2) := by decide +kernel
theorem dX2_putWord_10 : decode cX2_putWord 10 = .ok (.iconst (-1), 1) := by decide +kernel
theorem dX2_putWord_11 : decode cX2_putWord 11 = .ok (.if_icmp .eq 14, 3) := by decide +kernel
theorem dX2_putWord_14 : decode cX2_putWord 14 = .ok (.aload_n 0, 1) := by decide +kernel
theorem dX2_putWord_15 : decode cX2_putWord 15 = .ok (.getfield 9, 3) := by decide +kernel
theorem dX2_putWord_18 : decode cX2_putWord 18 = .ok (.bipush 46, 2) := by decide +kernel
theorem dX2_putWord_20 : decode cX2_putWord 20 = .ok (.iload 4, 2) := by decide +kernel
theorem dX2_putWord_22 : decode cX2_putWord 22 = .ok (.iadd, 1) := by decide +kernel
theorem dX2_putWord_23 : decode cX2_putWord 23 = .ok (.iload_n 3, 1) := by decide +kernel
theorem dX2_putWord_24 : decode cX2_putWord 24 = .ok (.iastore, 1) := by decide +kernel
theorem dX2_putWord_25 : decode cX2_putWord 25 = .ok (.return_, 1) := by decide +kernel
theorem dX2_needOf_0 : decode cX2_needOf 0 = .ok (.iload_n 0, 1) := by decide +kernel
theorem dX2_needOf_1 : decode cX2_needOf 1 = .ok (.iconst 1, 1) := by decide +kernel
theorem dX2_needOf_2 : decode cX2_needOf 2 = .ok (.iadd, 1) := by decide +kernel
theorem dX2_needOf_3 : decode cX2_needOf 3 = .ok (.iconst 2, 1) := by decide +kernel
theorem dX2_needOf_4 : decode cX2_needOf 4 = .ok (.idiv, 1) := by decide +kernel
theorem dX2_needOf_5 : decode cX2_needOf 5 = .ok (.ireturn, 1) := by decide +kernel
set_option maxRecDepth 20000 in
theorem ggX2_grow_X2_runsOf : GoodIn wsX2_grow wsX2_runsOf := goodIn_r _ [6, 7, 8, 9, 5, 10, 1, 70] (by decide +kernel) (by decide +kernel)
set_option maxRecDepth 20000 in
theorem gX2_grow_X2_runsOf : GoodIn wsX2_grow (wsV RX2 52 RX2 yX2_runsOf wsX2_runsOf) := goodIn_app (goodIn_of _ (by decide +kernel)) ggX2_grow_X2_runsOf
set_option maxRecDepth 20000 in
theorem ggX2_grow_X2_needOf : GoodIn wsX2_grow wsX2_needOf := goodIn_r _ [13] (by decide +kernel) (by decide +kernel)
set_option maxRecDepth 20000 in
theorem gX2_grow_X2_needOf : GoodIn wsX2_grow (va_wsS RX2 55 yX2_needOf wsX2_needOf) := goodIn_app (goodIn_of _ (by decide +kernel)) ggX2_grow_X2_needOf
set_option maxRecDepth 20000 in
theorem ggX2_grow_X2_takeRuns : GoodIn wsX2_grow wsX2_takeRuns := goodIn_r _ [17, 18, 19, 20, 5, 21, 7, 8, 9, 10, 1, 22, 23, 24, 25, 26, 27, 28, 29, 30, 31, 32, 33, 34, 35, 36, 37, 38, 39, 40, 41, 42, 43, 44, 45, 46, 47, 48, 49, 50, 51, 52, 53, 70] (by decide +kernel) (by decide +kernel)
set_option maxRecDepth 20000 in
theorem gX2_grow_X2_takeRuns : GoodIn wsX2_grow (wsV RX2 58 RX2 yX2_takeRuns wsX2_takeRuns) := goodIn_app (goodIn_of _ (by decide +kernel)) ggX2_grow_X2_takeRuns
set_option maxRecDepth 20000 in
theorem ggX2_grow_X2_ownerOf : GoodIn wsX2_grow wsX2_ownerOf := goodIn_r _ [57, 1, 70] (by decide +kernel) (by decide +kernel)
set_option maxRecDepth 20000 in
theorem gX2_grow_X2_ownerOf : GoodIn wsX2_grow (wsV RX2 42 RX2 yX2_ownerOf wsX2_ownerOf) := goodIn_app (goodIn_of _ (by decide +kernel)) ggX2_grow_X2_ownerOf
set_option maxRecDepth 20000 in
theorem ggX2_grow_X2_usageOf : GoodIn wsX2_grow wsX2_usageOf := goodIn_r _ [61, 54, 55, 56, 5, 57, 1, 18, 19, 20, 21, 7, 8, 9, 10, 22, 23, 24, 25, 26, 27, 28, 70] (by decide +kernel) (by decide +kernel)
set_option maxRecDepth 20000 in
theorem gX2_grow_X2_usageOf : GoodIn wsX2_grow (wsV RX2 62 RX2 yX2_usageOf wsX2_usageOf) := goodIn_app (goodIn_of _ (by decide +kernel)) ggX2_grow_X2_usageOf
set_option maxRecDepth 20000 in
theorem ggX2_grow_X2_quotaOf : GoodIn wsX2_grow wsX2_quotaOf := goodIn_r _ [65, 1, 70] (by decide +kernel) (by decide +kernel)
set_option maxRecDepth 20000 in
theorem gX2_grow_X2_quotaOf : GoodIn wsX2_grow (wsV RX2 65 RX2 yX2_quotaOf wsX2_quotaOf) := goodIn_app (goodIn_of _ (by decide +kernel)) ggX2_grow_X2_quotaOf
set_option maxRecDepth 20000 in
theorem ggX2_grow_X2_putLength : GoodIn wsX2_grow wsX2_putLength := goodIn_r _ [69, 1, 70] (by decide +kernel) (by decide +kernel)
set_option maxRecDepth 20000 in
theorem gX2_grow_X2_putLength : GoodIn wsX2_grow (wsV RX2 68 RX2 yX2_putLength wsX2_putLength) := goodIn_app (goodIn_of _ (by decide +kernel)) ggX2_grow_X2_putLength
set_option maxRecDepth 20000 in
theorem ggX2_grow_X2_putExtent : GoodIn wsX2_grow wsX2_putExtent := goodIn_r _ [53, 1, 70] (by decide +kernel) (by decide +kernel)
set_option maxRecDepth 20000 in
theorem gX2_grow_X2_putExtent : GoodIn wsX2_grow (wsV RX2 71 RX2 yX2_putExtent wsX2_putExtent) := goodIn_app (goodIn_of _ (by decide +kernel)) ggX2_grow_X2_putExtent
theorem dX2_grow_0 : decode cX2_grow 0 = .ok (.aload_n 0, 1) := by decide +kernel
theorem dX2_grow_1 : decode cX2_grow 1 = .ok (.getfield 9, 3) := by decide +kernel
theorem dX2_grow_4 : decode cX2_grow 4 = .ok (.bipush 45, 2) := by decide +kernel
theorem dX2_grow_6 : decode cX2_grow 6 = .ok (.iaload, 1) := by decide +kernel
theorem dX2_grow_7 : decode cX2_grow 7 = .ok (.istore_n 3, 1) := by decide +kernel
theorem dX2_grow_8 : decode cX2_grow 8 = .ok (.aload_n 0, 1) := by decide +kernel
theorem dX2_grow_9 : decode cX2_grow 9 = .ok (.iload_n 1, 1) := by decide +kernel
theorem dX2_grow_10 : decode cX2_grow 10 = .ok (.invokevirtual 52, 3) := by decide +kernel
theorem dX2_grow_13 : decode cX2_grow 13 = .ok (.istore 4, 2) := by decide +kernel
theorem dX2_grow_15 : decode cX2_grow 15 = .ok (.aload_n 0, 1) := by decide +kernel
theorem dX2_grow_16 : decode cX2_grow 16 = .ok (.iload_n 1, 1) := by decide +kernel
theorem dX2_grow_17 : decode cX2_grow 17 = .ok (.iload 4, 2) := by decide +kernel
theorem dX2_grow_19 : decode cX2_grow 19 = .ok (.iload_n 2, 1) := by decide +kernel
theorem dX2_grow_20 : decode cX2_grow 20 = .ok (.invokestatic 55, 3) := by decide +kernel
theorem dX2_grow_23 : decode cX2_grow 23 = .ok (.invokevirtual 58, 3) := by decide +kernel
theorem dX2_grow_26 : decode cX2_grow 26 = .ok (.istore 5, 2) := by decide +kernel
theorem dX2_grow_28 : decode cX2_grow 28 = .ok (.iload 5, 2) := by decide +kernel
theorem dX2_grow_30 : decode cX2_grow 30 = .ok (.ifCond .ne 28, 3) := by decide +kernel
theorem dX2_grow_33 : decode cX2_grow 33 = .ok (.aload_n 0, 1) := by decide +kernel
theorem dX2_grow_34 : decode cX2_grow 34 = .ok (.aload_n 0, 1) := by decide +kernel
theorem dX2_grow_35 : decode cX2_grow 35 = .ok (.iload_n 1, 1) := by decide +kernel
theorem dX2_grow_36 : decode cX2_grow 36 = .ok (.invokevirtual 42, 3) := by decide +kernel
theorem dX2_grow_39 : decode cX2_grow 39 = .ok (.invokevirtual 62, 3) := by decide +kernel
theorem dX2_grow_42 : decode cX2_grow 42 = .ok (.aload_n 0, 1) := by decide +kernel
theorem dX2_grow_43 : decode cX2_grow 43 = .ok (.aload_n 0, 1) := by decide +kernel
theorem dX2_grow_44 : decode cX2_grow 44 = .ok (.iload_n 1, 1) := by decide +kernel
theorem dX2_grow_45 : decode cX2_grow 45 = .ok (.invokevirtual 42, 3) := by decide +kernel
theorem dX2_grow_48 : decode cX2_grow 48 = .ok (.invokevirtual 65, 3) := by decide +kernel
theorem dX2_grow_51 : decode cX2_grow 51 = .ok (.if_icmp .le 7, 3) := by decide +kernel
theorem dX2_grow_54 : decode cX2_grow 54 = .ok (.bipush (-9), 2) := by decide +kernel
theorem dX2_grow_56 : decode cX2_grow 56 = .ok (.istore 5, 2) := by decide +kernel
theorem dX2_grow_58 : decode cX2_grow 58 = .ok (.iload 5, 2) := by decide +kernel
theorem dX2_grow_60 : decode cX2_grow 60 = .ok (.ifCond .ne 11, 3) := by decide +kernel
theorem dX2_grow_63 : decode cX2_grow 63 = .ok (.aload_n 0, 1) := by decide +kernel
theorem dX2_grow_64 : decode cX2_grow 64 = .ok (.iload_n 1, 1) := by decide +kernel
theorem dX2_grow_65 : decode cX2_grow 65 = .ok (.iload_n 2, 1) := by decide +kernel
theorem dX2_grow_66 : decode cX2_grow 66 = .ok (.invokevirtual 68, 3) := by decide +kernel
theorem dX2_grow_69 : decode cX2_grow 69 = .ok (.iconst 0, 1) := by decide +kernel
theorem dX2_grow_70 : decode cX2_grow 70 = .ok (.ireturn, 1) := by decide +kernel
theorem dX2_grow_71 : decode cX2_grow 71 = .ok (.aload_n 0, 1) := by decide +kernel
theorem dX2_grow_72 : decode cX2_grow 72 = .ok (.getfield 9, 3) := by decide +kernel
theorem dX2_grow_75 : decode cX2_grow 75 = .ok (.bipush 45, 2) := by decide +kernel
theorem dX2_grow_77 : decode cX2_grow 77 = .ok (.iload_n 3, 1) := by decide +kernel
theorem dX2_grow_78 : decode cX2_grow 78 = .ok (.iastore, 1) := by decide +kernel
theorem dX2_grow_79 : decode cX2_grow 79 = .ok (.iload 4, 2) := by decide +kernel
theorem dX2_grow_81 : decode cX2_grow 81 = .ok (.istore 6, 2) := by decide +kernel
theorem dX2_grow_83 : decode cX2_grow 83 = .ok (.iload 6, 2) := by decide +kernel
theorem dX2_grow_85 : decode cX2_grow 85 = .ok (.iconst 4, 1) := by decide +kernel
theorem dX2_grow_86 : decode cX2_grow 86 = .ok (.if_icmp .ge 17, 3) := by decide +kernel
theorem dX2_grow_89 : decode cX2_grow 89 = .ok (.aload_n 0, 1) := by decide +kernel
theorem dX2_grow_90 : decode cX2_grow 90 = .ok (.iload_n 1, 1) := by decide +kernel
theorem dX2_grow_91 : decode cX2_grow 91 = .ok (.iload 6, 2) := by decide +kernel
theorem dX2_grow_93 : decode cX2_grow 93 = .ok (.iconst 0, 1) := by decide +kernel
theorem dX2_grow_94 : decode cX2_grow 94 = .ok (.invokevirtual 71, 3) := by decide +kernel
theorem dX2_grow_97 : decode cX2_grow 97 = .ok (.iinc 6 1, 3) := by decide +kernel
theorem dX2_grow_100 : decode cX2_grow 100 = .ok (.goto (-17), 3) := by decide +kernel
theorem dX2_grow_103 : decode cX2_grow 103 = .ok (.iload 5, 2) := by decide +kernel
theorem dX2_grow_105 : decode cX2_grow 105 = .ok (.ireturn, 1) := by decide +kernel
set_option maxRecDepth 20000 in
theorem ggX2_takeRuns_X2_blocksOf : GoodIn wsX2_takeRuns wsX2_blocksOf := goodIn_r _ [5, 6, 7, 8, 4, 9, 10, 11, 12, 13, 14, 15, 16, 17, 43] (by decide +kernel) (by decide +kernel)
set_option maxRecDepth 20000 in
theorem gX2_takeRuns_X2_blocksOf : GoodIn wsX2_takeRuns (wsV RX2 45 RX2 yX2_blocksOf wsX2_blocksOf) := goodIn_app (goodIn_of _ (by decide +kernel)) ggX2_takeRuns_X2_blocksOf
set_option maxRecDepth 20000 in
theorem ggX2_takeRuns_X2_takeRunFor : GoodIn wsX2_takeRuns wsX2_takeRunFor := goodIn_r _ [21, 22, 23, 4, 24, 25, 26, 27, 28, 10, 29, 30, 31, 32, 33, 34, 13, 35, 36, 37, 38, 43] (by decide +kernel) (by decide +kernel)
set_option maxRecDepth 20000 in
theorem gX2_takeRuns_X2_takeRunFor : GoodIn wsX2_takeRuns (wsV RX2 74 RX2 yX2_takeRunFor wsX2_takeRunFor) := goodIn_app (goodIn_of _ (by decide +kernel)) ggX2_takeRuns_X2_takeRunFor
set_option maxRecDepth 20000 in
theorem ggX2_takeRuns_X2_putExtent : GoodIn wsX2_takeRuns wsX2_putExtent := goodIn_r _ [42, 10, 43] (by decide +kernel) (by decide +kernel)
set_option maxRecDepth 20000 in
theorem gX2_takeRuns_X2_putExtent : GoodIn wsX2_takeRuns (wsV RX2 71 RX2 yX2_putExtent wsX2_putExtent) := goodIn_app (goodIn_of _ (by decide +kernel)) ggX2_takeRuns_X2_putExtent
set_option maxRecDepth 20000 in
theorem ggX2_takeRuns_X3_blocksOf : GoodIn wsX2_takeRuns wsX3_blocksOf := goodIn_r _ [14, 15, 16, 13, 17] (by decide +kernel) (by decide +kernel)
set_option maxRecDepth 20000 in
theorem gX2_takeRuns_X3_blocksOf : GoodIn wsX2_takeRuns (va_wsS RX2 37 yX3_blocksOf wsX3_blocksOf) := goodIn_app (goodIn_of _ (by decide +kernel)) ggX2_takeRuns_X3_blocksOf
theorem dX2_takeRuns_0 : decode cX2_takeRuns 0 = .ok (.aload_n 0, 1) := by decide +kernel
theorem dX2_takeRuns_1 : decode cX2_takeRuns 1 = .ok (.iload_n 1, 1) := by decide +kernel
theorem dX2_takeRuns_2 : decode cX2_takeRuns 2 = .ok (.invokevirtual 45, 3) := by decide +kernel
theorem dX2_takeRuns_5 : decode cX2_takeRuns 5 = .ok (.istore 4, 2) := by decide +kernel
theorem dX2_takeRuns_7 : decode cX2_takeRuns 7 = .ok (.iload_n 2, 1) := by decide +kernel
theorem dX2_takeRuns_8 : decode cX2_takeRuns 8 = .ok (.istore 5, 2) := by decide +kernel
theorem dX2_takeRuns_10 : decode cX2_takeRuns 10 = .ok (.iload 5, 2) := by decide +kernel
theorem dX2_takeRuns_12 : decode cX2_takeRuns 12 = .ok (.iconst 4, 1) := by decide +kernel
theorem dX2_takeRuns_13 : decode cX2_takeRuns 13 = .ok (.if_icmp .ge 52, 3) := by decide +kernel
theorem dX2_takeRuns_16 : decode cX2_takeRuns 16 = .ok (.iload 4, 2) := by decide +kernel
theorem dX2_takeRuns_18 : decode cX2_takeRuns 18 = .ok (.iload_n 3, 1) := by decide +kernel
theorem dX2_takeRuns_19 : decode cX2_takeRuns 19 = .ok (.if_icmp .ge 46, 3) := by decide +kernel
theorem dX2_takeRuns_22 : decode cX2_takeRuns 22 = .ok (.aload_n 0, 1) := by decide +kernel
theorem dX2_takeRuns_23 : decode cX2_takeRuns 23 = .ok (.iload_n 3, 1) := by decide +kernel
theorem dX2_takeRuns_24 : decode cX2_takeRuns 24 = .ok (.iload 4, 2) := by decide +kernel
theorem dX2_takeRuns_26 : decode cX2_takeRuns 26 = .ok (.isub, 1) := by decide +kernel
theorem dX2_takeRuns_27 : decode cX2_takeRuns 27 = .ok (.invokevirtual 74, 3) := by decide +kernel
theorem dX2_takeRuns_30 : decode cX2_takeRuns 30 = .ok (.istore 6, 2) := by decide +kernel
theorem dX2_takeRuns_32 : decode cX2_takeRuns 32 = .ok (.iload 6, 2) := by decide +kernel
theorem dX2_takeRuns_34 : decode cX2_takeRuns 34 = .ok (.ifCond .ne 6, 3) := by decide +kernel
theorem dX2_takeRuns_37 : decode cX2_takeRuns 37 = .ok (.bipush (-8), 2) := by decide +kernel
theorem dX2_takeRuns_39 : decode cX2_takeRuns 39 = .ok (.ireturn, 1) := by decide +kernel
theorem dX2_takeRuns_40 : decode cX2_takeRuns 40 = .ok (.aload_n 0, 1) := by decide +kernel
theorem dX2_takeRuns_41 : decode cX2_takeRuns 41 = .ok (.iload_n 1, 1) := by decide +kernel
theorem dX2_takeRuns_42 : decode cX2_takeRuns 42 = .ok (.iload 5, 2) := by decide +kernel
theorem dX2_takeRuns_44 : decode cX2_takeRuns 44 = .ok (.iload 6, 2) := by decide +kernel
theorem dX2_takeRuns_46 : decode cX2_takeRuns 46 = .ok (.invokevirtual 71, 3) := by decide +kernel
theorem dX2_takeRuns_49 : decode cX2_takeRuns 49 = .ok (.iload 4, 2) := by decide +kernel
theorem dX2_takeRuns_51 : decode cX2_takeRuns 51 = .ok (.iload 6, 2) := by decide +kernel
theorem dX2_takeRuns_53 : decode cX2_takeRuns 53 = .ok (.invokestatic 37, 3) := by decide +kernel
theorem dX2_takeRuns_56 : decode cX2_takeRuns 56 = .ok (.iadd, 1) := by decide +kernel
theorem dX2_takeRuns_57 : decode cX2_takeRuns 57 = .ok (.istore 4, 2) := by decide +kernel
theorem dX2_takeRuns_59 : decode cX2_takeRuns 59 = .ok (.iinc 5 1, 3) := by decide +kernel
theorem dX2_takeRuns_62 : decode cX2_takeRuns 62 = .ok (.goto (-52), 3) := by decide +kernel
theorem dX2_takeRuns_65 : decode cX2_takeRuns 65 = .ok (.iload 4, 2) := by decide +kernel
theorem dX2_takeRuns_67 : decode cX2_takeRuns 67 = .ok (.iload_n 3, 1) := by decide +kernel
theorem dX2_takeRuns_68 : decode cX2_takeRuns 68 = .ok (.if_icmp .ge 8, 3) := by decide +kernel
theorem dX2_takeRuns_71 : decode cX2_takeRuns 71 = .ok (.bipush (-8), 2) := by decide +kernel
theorem dX2_takeRuns_73 : decode cX2_takeRuns 73 = .ok (.goto 4, 3) := by decide +kernel
theorem dX2_takeRuns_76 : decode cX2_takeRuns 76 = .ok (.iconst 0, 1) := by decide +kernel
theorem dX2_takeRuns_77 : decode cX2_takeRuns 77 = .ok (.ireturn, 1) := by decide +kernel
set_option maxRecDepth 20000 in
theorem ggX2_takeRunFor_X2_orderFor : GoodIn wsX2_takeRunFor wsX2_orderFor := goodIn_r _ [4] (by decide +kernel) (by decide +kernel)
set_option maxRecDepth 20000 in
theorem gX2_takeRunFor_X2_orderFor : GoodIn wsX2_takeRunFor (va_wsS RX2 77 yX2_orderFor wsX2_orderFor) := goodIn_app (goodIn_of _ (by decide +kernel)) ggX2_takeRunFor_X2_orderFor
set_option maxRecDepth 20000 in
theorem ggX2_takeRunFor_X2_takeRun : GoodIn wsX2_takeRunFor wsX2_takeRun := goodIn_r _ [8, 9, 10, 11, 12, 3, 13, 14, 15, 16, 17, 18, 19, 20, 21] (by decide +kernel) (by decide +kernel)
set_option maxRecDepth 20000 in
theorem gX2_takeRunFor_X2_takeRun : GoodIn wsX2_takeRunFor (wsV RX2 80 RX2 yX2_takeRun wsX2_takeRun) := goodIn_app (goodIn_of _ (by decide +kernel)) ggX2_takeRunFor_X2_takeRun
theorem dX2_takeRunFor_0 : decode cX2_takeRunFor 0 = .ok (.iload_n 1, 1) := by decide +kernel
theorem dX2_takeRunFor_1 : decode cX2_takeRunFor 1 = .ok (.invokestatic 77, 3) := by decide +kernel
theorem dX2_takeRunFor_4 : decode cX2_takeRunFor 4 = .ok (.istore_n 2, 1) := by decide +kernel
theorem dX2_takeRunFor_5 : decode cX2_takeRunFor 5 = .ok (.iload_n 2, 1) := by decide +kernel
theorem dX2_takeRunFor_6 : decode cX2_takeRunFor 6 = .ok (.ifCond .lt 21, 3) := by decide +kernel
theorem dX2_takeRunFor_9 : decode cX2_takeRunFor 9 = .ok (.aload_n 0, 1) := by decide +kernel
theorem dX2_takeRunFor_10 : decode cX2_takeRunFor 10 = .ok (.iload_n 2, 1) := by decide +kernel
theorem dX2_takeRunFor_11 : decode cX2_takeRunFor 11 = .ok (.invokevirtual 80, 3) := by decide +kernel
theorem dX2_takeRunFor_14 : decode cX2_takeRunFor 14 = .ok (.istore_n 3, 1) := by decide +kernel
theorem dX2_takeRunFor_15 : decode cX2_takeRunFor 15 = .ok (.iload_n 3, 1) := by decide +kernel
theorem dX2_takeRunFor_16 : decode cX2_takeRunFor 16 = .ok (.ifCond .eq 5, 3) := by decide +kernel
theorem dX2_takeRunFor_19 : decode cX2_takeRunFor 19 = .ok (.iload_n 3, 1) := by decide +kernel
theorem dX2_takeRunFor_20 : decode cX2_takeRunFor 20 = .ok (.ireturn, 1) := by decide +kernel
theorem dX2_takeRunFor_21 : decode cX2_takeRunFor 21 = .ok (.iinc 2 (-1), 3) := by decide +kernel
theorem dX2_takeRunFor_24 : decode cX2_takeRunFor 24 = .ok (.goto (-19), 3) := by decide +kernel
theorem dX2_takeRunFor_27 : decode cX2_takeRunFor 27 = .ok (.iconst 0, 1) := by decide +kernel
theorem dX2_takeRunFor_28 : decode cX2_takeRunFor 28 = .ok (.ireturn, 1) := by decide +kernel
theorem dX2_orderFor_0 : decode cX2_orderFor 0 = .ok (.iconst 0, 1) := by decide +kernel
theorem dX2_orderFor_1 : decode cX2_orderFor 1 = .ok (.istore_n 1, 1) := by decide +kernel
theorem dX2_orderFor_2 : decode cX2_orderFor 2 = .ok (.iload_n 1, 1) := by decide +kernel
theorem dX2_orderFor_3 : decode cX2_orderFor 3 = .ok (.iconst 5, 1) := by decide +kernel
theorem dX2_orderFor_4 : decode cX2_orderFor 4 = .ok (.if_icmp .ge 16, 3) := by decide +kernel
theorem dX2_orderFor_7 : decode cX2_orderFor 7 = .ok (.iconst 1, 1) := by decide +kernel
theorem dX2_orderFor_8 : decode cX2_orderFor 8 = .ok (.iload_n 1, 1) := by decide +kernel
theorem dX2_orderFor_9 : decode cX2_orderFor 9 = .ok (.ishl, 1) := by decide +kernel
theorem dX2_orderFor_10 : decode cX2_orderFor 10 = .ok (.iload_n 0, 1) := by decide +kernel
theorem dX2_orderFor_11 : decode cX2_orderFor 11 = .ok (.if_icmp .ge 9, 3) := by decide +kernel
theorem dX2_orderFor_14 : decode cX2_orderFor 14 = .ok (.iinc 1 1, 3) := by decide +kernel
theorem dX2_orderFor_17 : decode cX2_orderFor 17 = .ok (.goto (-15), 3) := by decide +kernel
theorem dX2_orderFor_20 : decode cX2_orderFor 20 = .ok (.iload_n 1, 1) := by decide +kernel
theorem dX2_orderFor_21 : decode cX2_orderFor 21 = .ok (.ireturn, 1) := by decide +kernel
set_option maxRecDepth 20000 in
theorem ggX2_takeRun_X2_isFreeRun : GoodIn wsX2_takeRun wsX2_isFreeRun := goodIn_r _ [6, 1, 7, 8, 9, 10, 14] (by decide +kernel) (by decide +kernel)
set_option maxRecDepth 20000 in
theorem gX2_takeRun_X2_isFreeRun : GoodIn wsX2_takeRun (wsV RX2 83 RX2 yX2_isFreeRun wsX2_isFreeRun) := goodIn_app (goodIn_of _ (by decide +kernel)) ggX2_takeRun_X2_isFreeRun
set_option maxRecDepth 20000 in
theorem ggX2_takeRun_X3_mapBits : GoodIn wsX2_takeRun wsX3_mapBits := goodIn_r _ [10] (by decide +kernel) (by decide +kernel)
set_option maxRecDepth 20000 in
theorem gX2_takeRun_X3_mapBits : GoodIn wsX2_takeRun (va_wsS RX2 87 yX3_mapBits wsX3_mapBits) := goodIn_app (goodIn_of _ (by decide +kernel)) ggX2_takeRun_X3_mapBits
set_option maxRecDepth 20000 in
theorem ggX2_takeRun_X3_cellOf : GoodIn wsX2_takeRun wsX3_cellOf := goodIn_r _ [13] (by decide +kernel) (by decide +kernel)
set_option maxRecDepth 20000 in
theorem gX2_takeRun_X3_cellOf : GoodIn wsX2_takeRun (va_wsS RX2 90 yX3_cellOf wsX3_cellOf) := goodIn_app (goodIn_of _ (by decide +kernel)) ggX2_takeRun_X3_cellOf
theorem dX2_takeRun_0 : decode cX2_takeRun 0 = .ok (.iload_n 1, 1) := by decide +kernel
theorem dX2_takeRun_1 : decode cX2_takeRun 1 = .ok (.istore_n 2, 1) := by decide +kernel
theorem dX2_takeRun_2 : decode cX2_takeRun 2 = .ok (.iload_n 2, 1) := by decide +kernel
theorem dX2_takeRun_3 : decode cX2_takeRun 3 = .ok (.iconst 5, 1) := by decide +kernel
theorem dX2_takeRun_4 : decode cX2_takeRun 4 = .ok (.if_icmp .gt 63, 3) := by decide +kernel
theorem dX2_takeRun_7 : decode cX2_takeRun 7 = .ok (.iconst 0, 1) := by decide +kernel
theorem dX2_takeRun_8 : decode cX2_takeRun 8 = .ok (.istore_n 3, 1) := by decide +kernel
theorem dX2_takeRun_9 : decode cX2_takeRun 9 = .ok (.iload_n 3, 1) := by decide +kernel
theorem dX2_takeRun_10 : decode cX2_takeRun 10 = .ok (.bipush 32, 2) := by decide +kernel
theorem dX2_takeRun_12 : decode cX2_takeRun 12 = .ok (.iload_n 2, 1) := by decide +kernel
theorem dX2_takeRun_13 : decode cX2_takeRun 13 = .ok (.ishr, 1) := by decide +kernel
theorem dX2_takeRun_14 : decode cX2_takeRun 14 = .ok (.if_icmp .ge 47, 3) := by decide +kernel
theorem dX2_takeRun_17 : decode cX2_takeRun 17 = .ok (.iload_n 3, 1) := by decide +kernel
theorem dX2_takeRun_18 : decode cX2_takeRun 18 = .ok (.iload_n 2, 1) := by decide +kernel
theorem dX2_takeRun_19 : decode cX2_takeRun 19 = .ok (.ishl, 1) := by decide +kernel
theorem dX2_takeRun_20 : decode cX2_takeRun 20 = .ok (.istore 4, 2) := by decide +kernel
theorem dX2_takeRun_22 : decode cX2_takeRun 22 = .ok (.aload_n 0, 1) := by decide +kernel
theorem dX2_takeRun_23 : decode cX2_takeRun 23 = .ok (.iload 4, 2) := by decide +kernel
theorem dX2_takeRun_25 : decode cX2_takeRun 25 = .ok (.iload_n 2, 1) := by decide +kernel
theorem dX2_takeRun_26 : decode cX2_takeRun 26 = .ok (.invokevirtual 83, 3) := by decide +kernel
theorem dX2_takeRun_29 : decode cX2_takeRun 29 = .ok (.ifCond .eq 26, 3) := by decide +kernel
theorem dX2_takeRun_32 : decode cX2_takeRun 32 = .ok (.aload_n 0, 1) := by decide +kernel
theorem dX2_takeRun_33 : decode cX2_takeRun 33 = .ok (.getfield 9, 3) := by decide +kernel
theorem dX2_takeRun_36 : decode cX2_takeRun 36 = .ok (.bipush 45, 2) := by decide +kernel
theorem dX2_takeRun_38 : decode cX2_takeRun 38 = .ok (.dup2, 1) := by decide +kernel
theorem dX2_takeRun_39 : decode cX2_takeRun 39 = .ok (.iaload, 1) := by decide +kernel
theorem dX2_takeRun_40 : decode cX2_takeRun 40 = .ok (.iload 4, 2) := by decide +kernel
theorem dX2_takeRun_42 : decode cX2_takeRun 42 = .ok (.iload_n 1, 1) := by decide +kernel
theorem dX2_takeRun_43 : decode cX2_takeRun 43 = .ok (.invokestatic 87, 3) := by decide +kernel
theorem dX2_takeRun_46 : decode cX2_takeRun 46 = .ok (.ior, 1) := by decide +kernel
theorem dX2_takeRun_47 : decode cX2_takeRun 47 = .ok (.iastore, 1) := by decide +kernel
theorem dX2_takeRun_48 : decode cX2_takeRun 48 = .ok (.iload 4, 2) := by decide +kernel
theorem dX2_takeRun_50 : decode cX2_takeRun 50 = .ok (.iload_n 1, 1) := by decide +kernel
theorem dX2_takeRun_51 : decode cX2_takeRun 51 = .ok (.invokestatic 90, 3) := by decide +kernel
theorem dX2_takeRun_54 : decode cX2_takeRun 54 = .ok (.ireturn, 1) := by decide +kernel
theorem dX2_takeRun_55 : decode cX2_takeRun 55 = .ok (.iinc 3 1, 3) := by decide +kernel
theorem dX2_takeRun_58 : decode cX2_takeRun 58 = .ok (.goto (-49), 3) := by decide +kernel
theorem dX2_takeRun_61 : decode cX2_takeRun 61 = .ok (.iinc 2 1, 3) := by decide +kernel
theorem dX2_takeRun_64 : decode cX2_takeRun 64 = .ok (.goto (-62), 3) := by decide +kernel
theorem dX2_takeRun_67 : decode cX2_takeRun 67 = .ok (.iconst 0, 1) := by decide +kernel
theorem dX2_takeRun_68 : decode cX2_takeRun 68 = .ok (.ireturn, 1) := by decide +kernel
set_option maxRecDepth 20000 in
theorem ggX2_freeRunsOf_X2_isFreeRun : GoodIn wsX2_freeRunsOf wsX2_isFreeRun := goodIn_r _ [5, 6, 7, 8, 9, 10, 11] (by decide +kernel) (by decide +kernel)
set_option maxRecDepth 20000 in
theorem gX2_freeRunsOf_X2_isFreeRun : GoodIn wsX2_freeRunsOf (wsV RX2 83 RX2 yX2_isFreeRun wsX2_isFreeRun) := goodIn_app (goodIn_of _ (by decide +kernel)) ggX2_freeRunsOf_X2_isFreeRun
theorem dX2_freeRunsOf_0 : decode cX2_freeRunsOf 0 = .ok (.iconst 0, 1) := by decide +kernel
theorem dX2_freeRunsOf_1 : decode cX2_freeRunsOf 1 = .ok (.istore_n 2, 1) := by decide +kernel
theorem dX2_freeRunsOf_2 : decode cX2_freeRunsOf 2 = .ok (.iconst 0, 1) := by decide +kernel
theorem dX2_freeRunsOf_3 : decode cX2_freeRunsOf 3 = .ok (.istore_n 3, 1) := by decide +kernel
theorem dX2_freeRunsOf_4 : decode cX2_freeRunsOf 4 = .ok (.iload_n 3, 1) := by decide +kernel
theorem dX2_freeRunsOf_5 : decode cX2_freeRunsOf 5 = .ok (.bipush 32, 2) := by decide +kernel
theorem dX2_freeRunsOf_7 : decode cX2_freeRunsOf 7 = .ok (.iload_n 1, 1) := by decide +kernel
theorem dX2_freeRunsOf_8 : decode cX2_freeRunsOf 8 = .ok (.ishr, 1) := by decide +kernel
theorem dX2_freeRunsOf_9 : decode cX2_freeRunsOf 9 = .ok (.if_icmp .ge 23, 3) := by decide +kernel
theorem dX2_freeRunsOf_12 : decode cX2_freeRunsOf 12 = .ok (.aload_n 0, 1) := by decide +kernel
theorem dX2_freeRunsOf_13 : decode cX2_freeRunsOf 13 = .ok (.iload_n 3, 1) := by decide +kernel
theorem dX2_freeRunsOf_14 : decode cX2_freeRunsOf 14 = .ok (.iload_n 1, 1) := by decide +kernel
theorem dX2_freeRunsOf_15 : decode cX2_freeRunsOf 15 = .ok (.ishl, 1) := by decide +kernel
theorem dX2_freeRunsOf_16 : decode cX2_freeRunsOf 16 = .ok (.iload_n 1, 1) := by decide +kernel
theorem dX2_freeRunsOf_17 : decode cX2_freeRunsOf 17 = .ok (.invokevirtual 83, 3) := by decide +kernel
theorem dX2_freeRunsOf_20 : decode cX2_freeRunsOf 20 = .ok (.ifCond .eq 6, 3) := by decide +kernel
theorem dX2_freeRunsOf_23 : decode cX2_freeRunsOf 23 = .ok (.iinc 2 1, 3) := by decide +kernel
theorem dX2_freeRunsOf_26 : decode cX2_freeRunsOf 26 = .ok (.iinc 3 1, 3) := by decide +kernel
theorem dX2_freeRunsOf_29 : decode cX2_freeRunsOf 29 = .ok (.goto (-25), 3) := by decide +kernel
theorem dX2_freeRunsOf_32 : decode cX2_freeRunsOf 32 = .ok (.iload_n 2, 1) := by decide +kernel
theorem dX2_freeRunsOf_33 : decode cX2_freeRunsOf 33 = .ok (.ireturn, 1) := by decide +kernel
set_option maxRecDepth 20000 in
theorem ggX2_isFreeRun_X3_mapBits : GoodIn wsX2_isFreeRun wsX3_mapBits := goodIn_r _ [5] (by decide +kernel) (by decide +kernel)
set_option maxRecDepth 20000 in
theorem gX2_isFreeRun_X3_mapBits : GoodIn wsX2_isFreeRun (va_wsS RX2 87 yX3_mapBits wsX3_mapBits) := goodIn_app (goodIn_of _ (by decide +kernel)) ggX2_isFreeRun_X3_mapBits
theorem dX2_isFreeRun_0 : decode cX2_isFreeRun 0 = .ok (.aload_n 0, 1) := by decide +kernel
theorem dX2_isFreeRun_1 : decode cX2_isFreeRun 1 = .ok (.getfield 9, 3) := by decide +kernel
theorem dX2_isFreeRun_4 : decode cX2_isFreeRun 4 = .ok (.bipush 45, 2) := by decide +kernel
theorem dX2_isFreeRun_6 : decode cX2_isFreeRun 6 = .ok (.iaload, 1) := by decide +kernel
theorem dX2_isFreeRun_7 : decode cX2_isFreeRun 7 = .ok (.istore_n 3, 1) := by decide +kernel
theorem dX2_isFreeRun_8 : decode cX2_isFreeRun 8 = .ok (.iload_n 3, 1) := by decide +kernel
theorem dX2_isFreeRun_9 : decode cX2_isFreeRun 9 = .ok (.iload_n 1, 1) := by decide +kernel
theorem dX2_isFreeRun_10 : decode cX2_isFreeRun 10 = .ok (.iload_n 2, 1) := by decide +kernel
theorem dX2_isFreeRun_11 : decode cX2_isFreeRun 11 = .ok (.invokestatic 87, 3) := by decide +kernel
theorem dX2_isFreeRun_14 : decode cX2_isFreeRun 14 = .ok (.iand, 1) := by decide +kernel
theorem dX2_isFreeRun_15 : decode cX2_isFreeRun 15 = .ok (.ifCond .eq 5, 3) := by decide +kernel
theorem dX2_isFreeRun_18 : decode cX2_isFreeRun 18 = .ok (.iconst 0, 1) := by decide +kernel
theorem dX2_isFreeRun_19 : decode cX2_isFreeRun 19 = .ok (.ireturn, 1) := by decide +kernel
theorem dX2_isFreeRun_20 : decode cX2_isFreeRun 20 = .ok (.iload_n 2, 1) := by decide +kernel
theorem dX2_isFreeRun_21 : decode cX2_isFreeRun 21 = .ok (.iconst 5, 1) := by decide +kernel
theorem dX2_isFreeRun_22 : decode cX2_isFreeRun 22 = .ok (.if_icmp .ne 5, 3) := by decide +kernel
theorem dX2_isFreeRun_25 : decode cX2_isFreeRun 25 = .ok (.iconst 1, 1) := by decide +kernel
theorem dX2_isFreeRun_26 : decode cX2_isFreeRun 26 = .ok (.ireturn, 1) := by decide +kernel
theorem dX2_isFreeRun_27 : decode cX2_isFreeRun 27 = .ok (.iload_n 1, 1) := by decide +kernel
theorem dX2_isFreeRun_28 : decode cX2_isFreeRun 28 = .ok (.iconst 2, 1) := by decide +kernel
theorem dX2_isFreeRun_29 : decode cX2_isFreeRun 29 = .ok (.iload_n 2, 1) := by decide +kernel
theorem dX2_isFreeRun_30 : decode cX2_isFreeRun 30 = .ok (.ishl, 1) := by decide +kernel
theorem dX2_isFreeRun_31 : decode cX2_isFreeRun 31 = .ok (.ineg, 1) := by decide +kernel
theorem dX2_isFreeRun_32 : decode cX2_isFreeRun 32 = .ok (.iand, 1) := by decide +kernel
theorem dX2_isFreeRun_33 : decode cX2_isFreeRun 33 = .ok (.istore 4, 2) := by decide +kernel
theorem dX2_isFreeRun_35 : decode cX2_isFreeRun 35 = .ok (.iload_n 3, 1) := by decide +kernel
theorem dX2_isFreeRun_36 : decode cX2_isFreeRun 36 = .ok (.iload 4, 2) := by decide +kernel
theorem dX2_isFreeRun_38 : decode cX2_isFreeRun 38 = .ok (.iload_n 2, 1) := by decide +kernel
theorem dX2_isFreeRun_39 : decode cX2_isFreeRun 39 = .ok (.iconst 1, 1) := by decide +kernel
theorem dX2_isFreeRun_40 : decode cX2_isFreeRun 40 = .ok (.iadd, 1) := by decide +kernel
theorem dX2_isFreeRun_41 : decode cX2_isFreeRun 41 = .ok (.invokestatic 87, 3) := by decide +kernel
theorem dX2_isFreeRun_44 : decode cX2_isFreeRun 44 = .ok (.iand, 1) := by decide +kernel
theorem dX2_isFreeRun_45 : decode cX2_isFreeRun 45 = .ok (.ifCond .eq 7, 3) := by decide +kernel
theorem dX2_isFreeRun_48 : decode cX2_isFreeRun 48 = .ok (.iconst 1, 1) := by decide +kernel
theorem dX2_isFreeRun_49 : decode cX2_isFreeRun 49 = .ok (.goto 4, 3) := by decide +kernel
theorem dX2_isFreeRun_52 : decode cX2_isFreeRun 52 = .ok (.iconst 0, 1) := by decide +kernel
theorem dX2_isFreeRun_53 : decode cX2_isFreeRun 53 = .ok (.ireturn, 1) := by decide +kernel
set_option maxRecDepth 20000 in
theorem ggX2_shrink_X2_lengthOf : GoodIn wsX2_shrink wsX2_lengthOf := goodIn_r _ [5, 6, 59] (by decide +kernel) (by decide +kernel)
set_option maxRecDepth 20000 in
theorem gX2_shrink_X2_lengthOf : GoodIn wsX2_shrink (wsV RX2 93 RX2 yX2_lengthOf wsX2_lengthOf) := goodIn_app (goodIn_of _ (by decide +kernel)) ggX2_shrink_X2_lengthOf
set_option maxRecDepth 20000 in
theorem ggX2_shrink_X2_putWord : GoodIn wsX2_shrink wsX2_putWord := goodIn_r _ [10, 6, 11, 12, 13, 4, 14, 15, 16, 17, 18, 19, 20, 21, 22, 23, 24, 25, 26, 27, 28, 59] (by decide +kernel) (by decide +kernel)
set_option maxRecDepth 20000 in
theorem gX2_shrink_X2_putWord : GoodIn wsX2_shrink (wsV RX2 96 RX2 yX2_putWord wsX2_putWord) := goodIn_app (goodIn_of _ (by decide +kernel)) ggX2_shrink_X2_putWord
set_option maxRecDepth 20000 in
theorem ggX2_shrink_X2_putLength : GoodIn wsX2_shrink wsX2_putLength := goodIn_r _ [32, 6, 59] (by decide +kernel) (by decide +kernel)
set_option maxRecDepth 20000 in
theorem gX2_shrink_X2_putLength : GoodIn wsX2_shrink (wsV RX2 68 RX2 yX2_putLength wsX2_putLength) := goodIn_app (goodIn_of _ (by decide +kernel)) ggX2_shrink_X2_putLength
set_option maxRecDepth 20000 in
theorem ggX2_shrink_X2_needOf : GoodIn wsX2_shrink wsX2_needOf := goodIn_r _ [35] (by decide +kernel) (by decide +kernel)
set_option maxRecDepth 20000 in
theorem gX2_shrink_X2_needOf : GoodIn wsX2_shrink (va_wsS RX2 55 yX2_needOf wsX2_needOf) := goodIn_app (goodIn_of _ (by decide +kernel)) ggX2_shrink_X2_needOf
set_option maxRecDepth 20000 in
theorem ggX2_shrink_X2_giveBackRuns : GoodIn wsX2_shrink wsX2_giveBackRuns := goodIn_r _ [39, 6, 40, 41, 42, 4, 43, 15, 16, 17, 18, 19, 20, 21, 22, 23, 24, 25, 44, 45, 46, 47, 48, 49, 50, 51, 27, 28, 52, 53, 54, 55, 56, 57, 58, 59] (by decide +kernel) (by decide +kernel)
set_option maxRecDepth 20000 in
theorem gX2_shrink_X2_giveBackRuns : GoodIn wsX2_shrink (wsV RX2 99 RX2 yX2_giveBackRuns wsX2_giveBackRuns) := goodIn_app (goodIn_of _ (by decide +kernel)) ggX2_shrink_X2_giveBackRuns
theorem dX2_shrink_0 : decode cX2_shrink 0 = .ok (.aload_n 0, 1) := by decide +kernel
theorem dX2_shrink_1 : decode cX2_shrink 1 = .ok (.iload_n 1, 1) := by decide +kernel
theorem dX2_shrink_2 : decode cX2_shrink 2 = .ok (.invokevirtual 93, 3) := by decide +kernel
theorem dX2_shrink_5 : decode cX2_shrink 5 = .ok (.istore_n 3, 1) := by decide +kernel
theorem dX2_shrink_6 : decode cX2_shrink 6 = .ok (.iload_n 2, 1) := by decide +kernel
theorem dX2_shrink_7 : decode cX2_shrink 7 = .ok (.istore 4, 2) := by decide +kernel
theorem dX2_shrink_9 : decode cX2_shrink 9 = .ok (.iload 4, 2) := by decide +kernel
theorem dX2_shrink_11 : decode cX2_shrink 11 = .ok (.iload_n 3, 1) := by decide +kernel
theorem dX2_shrink_12 : decode cX2_shrink 12 = .ok (.if_icmp .ge 17, 3) := by decide +kernel
theorem dX2_shrink_15 : decode cX2_shrink 15 = .ok (.aload_n 0, 1) := by decide +kernel
theorem dX2_shrink_16 : decode cX2_shrink 16 = .ok (.iload_n 1, 1) := by decide +kernel
theorem dX2_shrink_17 : decode cX2_shrink 17 = .ok (.iload 4, 2) := by decide +kernel
theorem dX2_shrink_19 : decode cX2_shrink 19 = .ok (.iconst 0, 1) := by decide +kernel
theorem dX2_shrink_20 : decode cX2_shrink 20 = .ok (.invokevirtual 96, 3) := by decide +kernel
theorem dX2_shrink_23 : decode cX2_shrink 23 = .ok (.iinc 4 1, 3) := by decide +kernel
theorem dX2_shrink_26 : decode cX2_shrink 26 = .ok (.goto (-17), 3) := by decide +kernel
theorem dX2_shrink_29 : decode cX2_shrink 29 = .ok (.aload_n 0, 1) := by decide +kernel
theorem dX2_shrink_30 : decode cX2_shrink 30 = .ok (.iload_n 1, 1) := by decide +kernel
theorem dX2_shrink_31 : decode cX2_shrink 31 = .ok (.iload_n 2, 1) := by decide +kernel
theorem dX2_shrink_32 : decode cX2_shrink 32 = .ok (.invokevirtual 68, 3) := by decide +kernel
theorem dX2_shrink_35 : decode cX2_shrink 35 = .ok (.aload_n 0, 1) := by decide +kernel
theorem dX2_shrink_36 : decode cX2_shrink 36 = .ok (.iload_n 1, 1) := by decide +kernel
theorem dX2_shrink_37 : decode cX2_shrink 37 = .ok (.iload_n 2, 1) := by decide +kernel
theorem dX2_shrink_38 : decode cX2_shrink 38 = .ok (.invokestatic 55, 3) := by decide +kernel
theorem dX2_shrink_41 : decode cX2_shrink 41 = .ok (.invokevirtual 99, 3) := by decide +kernel
theorem dX2_shrink_44 : decode cX2_shrink 44 = .ok (.return_, 1) := by decide +kernel
set_option maxRecDepth 20000 in
theorem ggX2_giveBackRuns_X2_blocksOf : GoodIn wsX2_giveBackRuns wsX2_blocksOf := goodIn_r _ [6, 7, 8, 9, 5, 10, 1, 11, 12, 13, 14, 15, 16, 17, 35] (by decide +kernel) (by decide +kernel)
set_option maxRecDepth 20000 in
theorem gX2_giveBackRuns_X2_blocksOf : GoodIn wsX2_giveBackRuns (wsV RX2 45 RX2 yX2_blocksOf wsX2_blocksOf) := goodIn_app (goodIn_of _ (by decide +kernel)) ggX2_giveBackRuns_X2_blocksOf
set_option maxRecDepth 20000 in
theorem ggX2_giveBackRuns_X2_runsOf : GoodIn wsX2_giveBackRuns wsX2_runsOf := goodIn_r _ [21, 7, 8, 9, 5, 10, 1, 35] (by decide +kernel) (by decide +kernel)
set_option maxRecDepth 20000 in
theorem gX2_giveBackRuns_X2_runsOf : GoodIn wsX2_giveBackRuns (wsV RX2 52 RX2 yX2_runsOf wsX2_runsOf) := goodIn_app (goodIn_of _ (by decide +kernel)) ggX2_giveBackRuns_X2_runsOf
set_option maxRecDepth 20000 in
theorem ggX2_giveBackRuns_X2_extentOf : GoodIn wsX2_giveBackRuns wsX2_extentOf := goodIn_r _ [10, 1, 35] (by decide +kernel) (by decide +kernel)
set_option maxRecDepth 20000 in
theorem gX2_giveBackRuns_X2_extentOf : GoodIn wsX2_giveBackRuns (wsV RX2 33 RX2 yX2_extentOf wsX2_extentOf) := goodIn_app (goodIn_of _ (by decide +kernel)) ggX2_giveBackRuns_X2_extentOf
set_option maxRecDepth 20000 in
theorem ggX2_giveBackRuns_X3_blocksOf : GoodIn wsX2_giveBackRuns wsX3_blocksOf := goodIn_r _ [14, 15, 16, 13, 17] (by decide +kernel) (by decide +kernel)
set_option maxRecDepth 20000 in
theorem gX2_giveBackRuns_X3_blocksOf : GoodIn wsX2_giveBackRuns (va_wsS RX2 37 yX3_blocksOf wsX3_blocksOf) := goodIn_app (goodIn_of _ (by decide +kernel)) ggX2_giveBackRuns_X3_blocksOf
set_option maxRecDepth 20000 in
theorem ggX2_giveBackRuns_X3_bitsOf : GoodIn wsX2_giveBackRuns wsX3_bitsOf := goodIn_r _ [24, 25, 26, 13, 27, 15, 16, 17, 28, 29, 30] (by decide +kernel) (by decide +kernel)
set_option maxRecDepth 20000 in
theorem gX2_giveBackRuns_X3_bitsOf : GoodIn wsX2_giveBackRuns (va_wsS RX2 102 yX3_bitsOf wsX3_bitsOf) := goodIn_app (goodIn_of _ (by decide +kernel)) ggX2_giveBackRuns_X3_bitsOf
set_option maxRecDepth 20000 in
theorem ggX2_giveBackRuns_X2_putExtent : GoodIn wsX2_giveBackRuns wsX2_putExtent := goodIn_r _ [34, 1, 35] (by decide +kernel) (by decide +kernel)
set_option maxRecDepth 20000 in
theorem gX2_giveBackRuns_X2_putExtent : GoodIn wsX2_giveBackRuns (wsV RX2 71 RX2 yX2_putExtent wsX2_putExtent) := goodIn_app (goodIn_of _ (by decide +kernel)) ggX2_giveBackRuns_X2_putExtent
theorem dX2_giveBackRuns_0 : decode cX2_giveBackRuns 0 = .ok (.aload_n 0, 1) := by decide +kernel
theorem dX2_giveBackRuns_1 : decode cX2_giveBackRuns 1 = .ok (.iload_n 1, 1) := by decide +kernel
theorem dX2_giveBackRuns_2 : decode cX2_giveBackRuns 2 = .ok (.invokevirtual 45, 3) := by decide +kernel
theorem dX2_giveBackRuns_5 : decode cX2_giveBackRuns 5 = .ok (.istore_n 3, 1) := by decide +kernel
theorem dX2_giveBackRuns_6 : decode cX2_giveBackRuns 6 = .ok (.aload_n 0, 1) := by decide +kernel
theorem dX2_giveBackRuns_7 : decode cX2_giveBackRuns 7 = .ok (.iload_n 1, 1) := by decide +kernel
theorem dX2_giveBackRuns_8 : decode cX2_giveBackRuns 8 = .ok (.invokevirtual 52, 3) := by decide +kernel
theorem dX2_giveBackRuns_11 : decode cX2_giveBackRuns 11 = .ok (.iconst 1, 1) := by decide +kernel
theorem dX2_giveBackRuns_12 : decode cX2_giveBackRuns 12 = .ok (.isub, 1) := by decide +kernel
theorem dX2_giveBackRuns_13 : decode cX2_giveBackRuns 13 = .ok (.istore 4, 2) := by decide +kernel
theorem dX2_giveBackRuns_15 : decode cX2_giveBackRuns 15 = .ok (.iload 4, 2) := by decide +kernel
theorem dX2_giveBackRuns_17 : decode cX2_giveBackRuns 17 = .ok (.ifCond .lt 57, 3) := by decide +kernel
theorem dX2_giveBackRuns_20 : decode cX2_giveBackRuns 20 = .ok (.aload_n 0, 1) := by decide +kernel
theorem dX2_giveBackRuns_21 : decode cX2_giveBackRuns 21 = .ok (.iload_n 1, 1) := by decide +kernel
theorem dX2_giveBackRuns_22 : decode cX2_giveBackRuns 22 = .ok (.iload 4, 2) := by decide +kernel
theorem dX2_giveBackRuns_24 : decode cX2_giveBackRuns 24 = .ok (.invokevirtual 33, 3) := by decide +kernel
theorem dX2_giveBackRuns_27 : decode cX2_giveBackRuns 27 = .ok (.istore 5, 2) := by decide +kernel
theorem dX2_giveBackRuns_29 : decode cX2_giveBackRuns 29 = .ok (.iload_n 3, 1) := by decide +kernel
theorem dX2_giveBackRuns_30 : decode cX2_giveBackRuns 30 = .ok (.iload 5, 2) := by decide +kernel
theorem dX2_giveBackRuns_32 : decode cX2_giveBackRuns 32 = .ok (.invokestatic 37, 3) := by decide +kernel
theorem dX2_giveBackRuns_35 : decode cX2_giveBackRuns 35 = .ok (.isub, 1) := by decide +kernel
theorem dX2_giveBackRuns_36 : decode cX2_giveBackRuns 36 = .ok (.istore_n 3, 1) := by decide +kernel
theorem dX2_giveBackRuns_37 : decode cX2_giveBackRuns 37 = .ok (.iload_n 3, 1) := by decide +kernel
theorem dX2_giveBackRuns_38 : decode cX2_giveBackRuns 38 = .ok (.iload_n 2, 1) := by decide +kernel
theorem dX2_giveBackRuns_39 : decode cX2_giveBackRuns 39 = .ok (.if_icmp .ge 4, 3) := by decide +kernel
theorem dX2_giveBackRuns_42 : decode cX2_giveBackRuns 42 = .ok (.return_, 1) := by decide +kernel
theorem dX2_giveBackRuns_43 : decode cX2_giveBackRuns 43 = .ok (.aload_n 0, 1) := by decide +kernel
theorem dX2_giveBackRuns_44 : decode cX2_giveBackRuns 44 = .ok (.getfield 9, 3) := by decide +kernel
theorem dX2_giveBackRuns_47 : decode cX2_giveBackRuns 47 = .ok (.bipush 45, 2) := by decide +kernel
theorem dX2_giveBackRuns_49 : decode cX2_giveBackRuns 49 = .ok (.dup2, 1) := by decide +kernel
theorem dX2_giveBackRuns_50 : decode cX2_giveBackRuns 50 = .ok (.iaload, 1) := by decide +kernel
theorem dX2_giveBackRuns_51 : decode cX2_giveBackRuns 51 = .ok (.iload 5, 2) := by decide +kernel
theorem dX2_giveBackRuns_53 : decode cX2_giveBackRuns 53 = .ok (.invokestatic 102, 3) := by decide +kernel
theorem dX2_giveBackRuns_56 : decode cX2_giveBackRuns 56 = .ok (.iconst (-1), 1) := by decide +kernel
theorem dX2_giveBackRuns_57 : decode cX2_giveBackRuns 57 = .ok (.ixor, 1) := by decide +kernel
theorem dX2_giveBackRuns_58 : decode cX2_giveBackRuns 58 = .ok (.iand, 1) := by decide +kernel
theorem dX2_giveBackRuns_59 : decode cX2_giveBackRuns 59 = .ok (.iastore, 1) := by decide +kernel
theorem dX2_giveBackRuns_60 : decode cX2_giveBackRuns 60 = .ok (.aload_n 0, 1) := by decide +kernel
theorem dX2_giveBackRuns_61 : decode cX2_giveBackRuns 61 = .ok (.iload_n 1, 1) := by decide +kernel
theorem dX2_giveBackRuns_62 : decode cX2_giveBackRuns 62 = .ok (.iload 4, 2) := by decide +kernel
theorem dX2_giveBackRuns_64 : decode cX2_giveBackRuns 64 = .ok (.iconst 0, 1) := by decide +kernel
theorem dX2_giveBackRuns_65 : decode cX2_giveBackRuns 65 = .ok (.invokevirtual 71, 3) := by decide +kernel
theorem dX2_giveBackRuns_68 : decode cX2_giveBackRuns 68 = .ok (.iinc 4 (-1), 3) := by decide +kernel
theorem dX2_giveBackRuns_71 : decode cX2_giveBackRuns 71 = .ok (.goto (-56), 3) := by decide +kernel
theorem dX2_giveBackRuns_74 : decode cX2_giveBackRuns 74 = .ok (.return_, 1) := by decide +kernel
theorem dX3_cellOf_0 : decode cX3_cellOf 0 = .ok (.iconst 1, 1) := by decide +kernel
theorem dX3_cellOf_1 : decode cX3_cellOf 1 = .ok (.iload_n 0, 1) := by decide +kernel
theorem dX3_cellOf_2 : decode cX3_cellOf 2 = .ok (.iadd, 1) := by decide +kernel
theorem dX3_cellOf_3 : decode cX3_cellOf 3 = .ok (.bipush 32, 2) := by decide +kernel
theorem dX3_cellOf_5 : decode cX3_cellOf 5 = .ok (.iload_n 1, 1) := by decide +kernel
theorem dX3_cellOf_6 : decode cX3_cellOf 6 = .ok (.imul, 1) := by decide +kernel
theorem dX3_cellOf_7 : decode cX3_cellOf 7 = .ok (.iadd, 1) := by decide +kernel
theorem dX3_cellOf_8 : decode cX3_cellOf 8 = .ok (.ireturn, 1) := by decide +kernel
theorem dX3_firstOf_0 : decode cX3_firstOf 0 = .ok (.iload_n 0, 1) := by decide +kernel
theorem dX3_firstOf_1 : decode cX3_firstOf 1 = .ok (.iconst 1, 1) := by decide +kernel
theorem dX3_firstOf_2 : decode cX3_firstOf 2 = .ok (.isub, 1) := by decide +kernel
theorem dX3_firstOf_3 : decode cX3_firstOf 3 = .ok (.bipush 32, 2) := by decide +kernel
theorem dX3_firstOf_5 : decode cX3_firstOf 5 = .ok (.irem, 1) := by decide +kernel
theorem dX3_firstOf_6 : decode cX3_firstOf 6 = .ok (.ireturn, 1) := by decide +kernel
theorem dX3_orderOf_0 : decode cX3_orderOf 0 = .ok (.iload_n 0, 1) := by decide +kernel
theorem dX3_orderOf_1 : decode cX3_orderOf 1 = .ok (.iconst 1, 1) := by decide +kernel
theorem dX3_orderOf_2 : decode cX3_orderOf 2 = .ok (.isub, 1) := by decide +kernel
theorem dX3_orderOf_3 : decode cX3_orderOf 3 = .ok (.bipush 32, 2) := by decide +kernel
theorem dX3_orderOf_5 : decode cX3_orderOf 5 = .ok (.idiv, 1) := by decide +kernel
theorem dX3_orderOf_6 : decode cX3_orderOf 6 = .ok (.ireturn, 1) := by decide +kernel
set_option maxRecDepth 20000 in
theorem ggX3_blocksOf_X3_orderOf : GoodIn wsX3_blocksOf wsX3_orderOf := goodIn_r _ [4] (by decide +kernel) (by decide +kernel)
set_option maxRecDepth 20000 in
theorem gX3_blocksOf_X3_orderOf : GoodIn wsX3_blocksOf (va_wsS RX3 9 yX3_orderOf wsX3_orderOf) := goodIn_app (goodIn_of _ (by decide +kernel)) ggX3_blocksOf_X3_orderOf
theorem dX3_blocksOf_0 : decode cX3_blocksOf 0 = .ok (.iload_n 0, 1) := by decide +kernel
theorem dX3_blocksOf_1 : decode cX3_blocksOf 1 = .ok (.ifCond .ne 7, 3) := by decide +kernel
theorem dX3_blocksOf_4 : decode cX3_blocksOf 4 = .ok (.iconst 0, 1) := by decide +kernel
theorem dX3_blocksOf_5 : decode cX3_blocksOf 5 = .ok (.goto 9, 3) := by decide +kernel
theorem dX3_blocksOf_8 : decode cX3_blocksOf 8 = .ok (.iconst 1, 1) := by decide +kernel
theorem dX3_blocksOf_9 : decode cX3_blocksOf 9 = .ok (.iload_n 0, 1) := by decide +kernel
theorem dX3_blocksOf_10 : decode cX3_blocksOf 10 = .ok (.invokestatic 9, 3) := by decide +kernel
theorem dX3_blocksOf_13 : decode cX3_blocksOf 13 = .ok (.ishl, 1) := by decide +kernel
theorem dX3_blocksOf_14 : decode cX3_blocksOf 14 = .ok (.ireturn, 1) := by decide +kernel
set_option maxRecDepth 20000 in
theorem ggX3_isRun_X3_cellOf : GoodIn wsX3_isRun wsX3_cellOf := goodIn_r _ [4] (by decide +kernel) (by decide +kernel)
set_option maxRecDepth 20000 in
theorem gX3_isRun_X3_cellOf : GoodIn wsX3_isRun (va_wsS RX3 15 yX3_cellOf wsX3_cellOf) := goodIn_app (goodIn_of _ (by decide +kernel)) ggX3_isRun_X3_cellOf
set_option maxRecDepth 20000 in
theorem ggX3_isRun_X3_firstOf : GoodIn wsX3_isRun wsX3_firstOf := goodIn_r _ [7] (by decide +kernel) (by decide +kernel)
set_option maxRecDepth 20000 in
theorem gX3_isRun_X3_firstOf : GoodIn wsX3_isRun (va_wsS RX3 19 yX3_firstOf wsX3_firstOf) := goodIn_app (goodIn_of _ (by decide +kernel)) ggX3_isRun_X3_firstOf
set_option maxRecDepth 20000 in
theorem ggX3_isRun_X3_blocksOf : GoodIn wsX3_isRun wsX3_blocksOf := goodIn_r _ [10, 11, 12, 3, 13] (by decide +kernel) (by decide +kernel)
set_option maxRecDepth 20000 in
theorem gX3_isRun_X3_blocksOf : GoodIn wsX3_isRun (va_wsS RX3 22 yX3_blocksOf wsX3_blocksOf) := goodIn_app (goodIn_of _ (by decide +kernel)) ggX3_isRun_X3_blocksOf
theorem dX3_isRun_0 : decode cX3_isRun 0 = .ok (.iload_n 0, 1) := by decide +kernel
theorem dX3_isRun_1 : decode cX3_isRun 1 = .ok (.iconst 1, 1) := by decide +kernel
theorem dX3_isRun_2 : decode cX3_isRun 2 = .ok (.if_icmp .lt 12, 3) := by decide +kernel
theorem dX3_isRun_5 : decode cX3_isRun 5 = .ok (.iload_n 0, 1) := by decide +kernel
theorem dX3_isRun_6 : decode cX3_isRun 6 = .ok (.iconst 0, 1) := by decide +kernel
theorem dX3_isRun_7 : decode cX3_isRun 7 = .ok (.iconst 5, 1) := by decide +kernel
theorem dX3_isRun_8 : decode cX3_isRun 8 = .ok (.invokestatic 15, 3) := by decide +kernel
theorem dX3_isRun_11 : decode cX3_isRun 11 = .ok (.if_icmp .le 5, 3) := by decide +kernel
theorem dX3_isRun_14 : decode cX3_isRun 14 = .ok (.iconst 0, 1) := by decide +kernel
theorem dX3_isRun_15 : decode cX3_isRun 15 = .ok (.ireturn, 1) := by decide +kernel
theorem dX3_isRun_16 : decode cX3_isRun 16 = .ok (.iload_n 0, 1) := by decide +kernel
theorem dX3_isRun_17 : decode cX3_isRun 17 = .ok (.invokestatic 19, 3) := by decide +kernel
theorem dX3_isRun_20 : decode cX3_isRun 20 = .ok (.iload_n 0, 1) := by decide +kernel
theorem dX3_isRun_21 : decode cX3_isRun 21 = .ok (.invokestatic 22, 3) := by decide +kernel
theorem dX3_isRun_24 : decode cX3_isRun 24 = .ok (.iconst 1, 1) := by decide +kernel
theorem dX3_isRun_25 : decode cX3_isRun 25 = .ok (.isub, 1) := by decide +kernel
theorem dX3_isRun_26 : decode cX3_isRun 26 = .ok (.iand, 1) := by decide +kernel
theorem dX3_isRun_27 : decode cX3_isRun 27 = .ok (.ifCond .ne 7, 3) := by decide +kernel
theorem dX3_isRun_30 : decode cX3_isRun 30 = .ok (.iconst 1, 1) := by decide +kernel
theorem dX3_isRun_31 : decode cX3_isRun 31 = .ok (.goto 4, 3) := by decide +kernel
theorem dX3_isRun_34 : decode cX3_isRun 34 = .ok (.iconst 0, 1) := by decide +kernel
theorem dX3_isRun_35 : decode cX3_isRun 35 = .ok (.ireturn, 1) := by decide +kernel
set_option maxRecDepth 20000 in
theorem ggX3_bitsOf_X3_firstOf : GoodIn wsX3_bitsOf wsX3_firstOf := goodIn_r _ [4] (by decide +kernel) (by decide +kernel)
set_option maxRecDepth 20000 in
theorem gX3_bitsOf_X3_firstOf : GoodIn wsX3_bitsOf (va_wsS RX3 19 yX3_firstOf wsX3_firstOf) := goodIn_app (goodIn_of _ (by decide +kernel)) ggX3_bitsOf_X3_firstOf
set_option maxRecDepth 20000 in
theorem ggX3_bitsOf_X3_orderOf : GoodIn wsX3_bitsOf wsX3_orderOf := goodIn_r _ [7] (by decide +kernel) (by decide +kernel)
set_option maxRecDepth 20000 in
theorem gX3_bitsOf_X3_orderOf : GoodIn wsX3_bitsOf (va_wsS RX3 9 yX3_orderOf wsX3_orderOf) := goodIn_app (goodIn_of _ (by decide +kernel)) ggX3_bitsOf_X3_orderOf
set_option maxRecDepth 20000 in
theorem ggX3_bitsOf_X3_mapBits : GoodIn wsX3_bitsOf wsX3_mapBits := goodIn_r _ [10] (by decide +kernel) (by decide +kernel)
set_option maxRecDepth 20000 in
theorem gX3_bitsOf_X3_mapBits : GoodIn wsX3_bitsOf (va_wsS RX3 25 yX3_mapBits wsX3_mapBits) := goodIn_app (goodIn_of _ (by decide +kernel)) ggX3_bitsOf_X3_mapBits
theorem dX3_bitsOf_0 : decode cX3_bitsOf 0 = .ok (.iload_n 0, 1) := by decide +kernel
theorem dX3_bitsOf_1 : decode cX3_bitsOf 1 = .ok (.ifCond .ne 7, 3) := by decide +kernel
theorem dX3_bitsOf_4 : decode cX3_bitsOf 4 = .ok (.iconst 0, 1) := by decide +kernel
theorem dX3_bitsOf_5 : decode cX3_bitsOf 5 = .ok (.goto 14, 3) := by decide +kernel
theorem dX3_bitsOf_8 : decode cX3_bitsOf 8 = .ok (.iload_n 0, 1) := by decide +kernel
theorem dX3_bitsOf_9 : decode cX3_bitsOf 9 = .ok (.invokestatic 19, 3) := by decide +kernel
theorem dX3_bitsOf_12 : decode cX3_bitsOf 12 = .ok (.iload_n 0, 1) := by decide +kernel
theorem dX3_bitsOf_13 : decode cX3_bitsOf 13 = .ok (.invokestatic 9, 3) := by decide +kernel
theorem dX3_bitsOf_16 : decode cX3_bitsOf 16 = .ok (.invokestatic 25, 3) := by decide +kernel
theorem dX3_bitsOf_19 : decode cX3_bitsOf 19 = .ok (.ireturn, 1) := by decide +kernel
theorem dX3_mapBits_0 : decode cX3_mapBits 0 = .ok (.iconst (-1), 1) := by decide +kernel
theorem dX3_mapBits_1 : decode cX3_mapBits 1 = .ok (.bipush 32, 2) := by decide +kernel
theorem dX3_mapBits_3 : decode cX3_mapBits 3 = .ok (.iconst 1, 1) := by decide +kernel
theorem dX3_mapBits_4 : decode cX3_mapBits 4 = .ok (.iload_n 1, 1) := by decide +kernel
theorem dX3_mapBits_5 : decode cX3_mapBits 5 = .ok (.ishl, 1) := by decide +kernel
theorem dX3_mapBits_6 : decode cX3_mapBits 6 = .ok (.isub, 1) := by decide +kernel
theorem dX3_mapBits_7 : decode cX3_mapBits 7 = .ok (.iushr, 1) := by decide +kernel
theorem dX3_mapBits_8 : decode cX3_mapBits 8 = .ok (.iload_n 0, 1) := by decide +kernel
theorem dX3_mapBits_9 : decode cX3_mapBits 9 = .ok (.ishl, 1) := by decide +kernel
theorem dX3_mapBits_10 : decode cX3_mapBits 10 = .ok (.ireturn, 1) := by decide +kernel
