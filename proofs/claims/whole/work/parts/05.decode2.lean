theorem dX5_days_5 : decode cX5_days 5 = .ok (.ifCond .ne 7, 3) := by decide +kernel
theorem dX5_days_8 : decode cX5_days 8 = .ok (.ldc2_w 63, 3) := by decide +kernel
theorem dX5_days_11 : decode cX5_days 11 = .ok (.lreturn, 1) := by decide +kernel
theorem dX5_days_12 : decode cX5_days 12 = .ok (.iload_n 2, 1) := by decide +kernel
theorem dX5_days_13 : decode cX5_days 13 = .ok (.invokestatic 48, 3) := by decide +kernel
theorem dX5_days_16 : decode cX5_days 16 = .ok (.ifCond .eq 15, 3) := by decide +kernel
theorem dX5_days_19 : decode cX5_days 19 = .ok (.iload_n 3, 1) := by decide +kernel
theorem dX5_days_20 : decode cX5_days 20 = .ok (.invokestatic 48, 3) := by decide +kernel
theorem dX5_days_23 : decode cX5_days 23 = .ok (.ifCond .eq 8, 3) := by decide +kernel
theorem dX5_days_26 : decode cX5_days 26 = .ok (.iload_n 3, 1) := by decide +kernel
theorem dX5_days_27 : decode cX5_days 27 = .ok (.iload_n 2, 1) := by decide +kernel
theorem dX5_days_28 : decode cX5_days 28 = .ok (.if_icmp .ge 7, 3) := by decide +kernel
theorem dX5_days_31 : decode cX5_days 31 = .ok (.ldc2_w 69, 3) := by decide +kernel
theorem dX5_days_34 : decode cX5_days 34 = .ok (.lreturn, 1) := by decide +kernel
theorem dX5_days_35 : decode cX5_days 35 = .ok (.aload_n 0, 1) := by decide +kernel
theorem dX5_days_36 : decode cX5_days 36 = .ok (.getfield 10, 3) := by decide +kernel
theorem dX5_days_39 : decode cX5_days 39 = .ok (.iload_n 1, 1) := by decide +kernel
theorem dX5_days_40 : decode cX5_days 40 = .ok (.iload_n 2, 1) := by decide +kernel
theorem dX5_days_41 : decode cX5_days 41 = .ok (.iload_n 3, 1) := by decide +kernel
theorem dX5_days_42 : decode cX5_days 42 = .ok (.invokevirtual 71, 3) := by decide +kernel
theorem dX5_days_45 : decode cX5_days 45 = .ok (.lreturn, 1) := by decide +kernel
set_option maxRecDepth 20000 in
theorem ggX5_row_X5_isUnit : GoodIn wsX5_row wsX5_isUnit := goodIn_r _ [7, 8, 26, 27, 28, 29, 30] (by decide +kernel) (by decide +kernel)
set_option maxRecDepth 20000 in
theorem gX5_row_X5_isUnit : GoodIn wsX5_row (wsV RX5 41 RX5 yX5_isUnit wsX5_isUnit) := goodIn_app (goodIn_of _ (by decide +kernel)) ggX5_row_X5_isUnit
set_option maxRecDepth 20000 in
theorem ggX5_row_X5_isKind : GoodIn wsX5_row wsX5_isKind := goodIn_r _ [11] (by decide +kernel) (by decide +kernel)
set_option maxRecDepth 20000 in
theorem gX5_row_X5_isKind : GoodIn wsX5_row (va_wsS RX5 75 yX5_isKind wsX5_isKind) := goodIn_app (goodIn_of _ (by decide +kernel)) ggX5_row_X5_isKind
set_option maxRecDepth 20000 in
theorem ggX5_row_X5_isDay : GoodIn wsX5_row wsX5_isDay := goodIn_r _ [14] (by decide +kernel) (by decide +kernel)
set_option maxRecDepth 20000 in
theorem gX5_row_X5_isDay : GoodIn wsX5_row (va_wsS RX5 48 yX5_isDay wsX5_isDay) := goodIn_app (goodIn_of _ (by decide +kernel)) ggX5_row_X5_isDay
set_option maxRecDepth 20000 in
theorem ggX5_row_X2_add : GoodIn wsX5_row wsX2_add := goodIn_r _ [19, 20, 21, 22, 23, 24, 25, 31, 32, 33, 34, 35, 36, 37] (by decide +kernel) (by decide +kernel)
set_option maxRecDepth 20000 in
theorem gX5_row_X2_add : GoodIn wsX5_row (wsV RX5 79 RX2 yX2_add wsX2_add) := goodIn_app (goodIn_of _ (by decide +kernel)) ggX5_row_X2_add
theorem dX5_row_0 : decode cX5_row 0 = .ok (.aload_n 0, 1) := by decide +kernel
theorem dX5_row_1 : decode cX5_row 1 = .ok (.iload_n 1, 1) := by decide +kernel
theorem dX5_row_2 : decode cX5_row 2 = .ok (.invokevirtual 41, 3) := by decide +kernel
theorem dX5_row_5 : decode cX5_row 5 = .ok (.ifCond .eq 19, 3) := by decide +kernel
theorem dX5_row_8 : decode cX5_row 8 = .ok (.iload 5, 2) := by decide +kernel
theorem dX5_row_10 : decode cX5_row 10 = .ok (.bipush (-9), 2) := by decide +kernel
theorem dX5_row_12 : decode cX5_row 12 = .ok (.if_icmp .eq 14, 3) := by decide +kernel
theorem dX5_row_15 : decode cX5_row 15 = .ok (.aload_n 0, 1) := by decide +kernel
theorem dX5_row_16 : decode cX5_row 16 = .ok (.iload 5, 2) := by decide +kernel
theorem dX5_row_18 : decode cX5_row 18 = .ok (.invokevirtual 41, 3) := by decide +kernel
theorem dX5_row_21 : decode cX5_row 21 = .ok (.ifCond .ne 5, 3) := by decide +kernel
theorem dX5_row_24 : decode cX5_row 24 = .ok (.iconst (-1), 1) := by decide +kernel
theorem dX5_row_25 : decode cX5_row 25 = .ok (.ireturn, 1) := by decide +kernel
theorem dX5_row_26 : decode cX5_row 26 = .ok (.iload_n 2, 1) := by decide +kernel
theorem dX5_row_27 : decode cX5_row 27 = .ok (.invokestatic 75, 3) := by decide +kernel
theorem dX5_row_30 : decode cX5_row 30 = .ok (.ifCond .eq 22, 3) := by decide +kernel
theorem dX5_row_33 : decode cX5_row 33 = .ok (.iload_n 3, 1) := by decide +kernel
theorem dX5_row_34 : decode cX5_row 34 = .ok (.iconst 1, 1) := by decide +kernel
theorem dX5_row_35 : decode cX5_row 35 = .ok (.if_icmp .lt 17, 3) := by decide +kernel
theorem dX5_row_38 : decode cX5_row 38 = .ok (.iload_n 3, 1) := by decide +kernel
theorem dX5_row_39 : decode cX5_row 39 = .ok (.ldc 78, 2) := by decide +kernel
theorem dX5_row_41 : decode cX5_row 41 = .ok (.if_icmp .gt 11, 3) := by decide +kernel
theorem dX5_row_44 : decode cX5_row 44 = .ok (.iload 4, 2) := by decide +kernel
theorem dX5_row_46 : decode cX5_row 46 = .ok (.invokestatic 48, 3) := by decide +kernel
theorem dX5_row_49 : decode cX5_row 49 = .ok (.ifCond .ne 6, 3) := by decide +kernel
theorem dX5_row_52 : decode cX5_row 52 = .ok (.bipush (-2), 2) := by decide +kernel
theorem dX5_row_54 : decode cX5_row 54 = .ok (.ireturn, 1) := by decide +kernel
theorem dX5_row_55 : decode cX5_row 55 = .ok (.iload 5, 2) := by decide +kernel
theorem dX5_row_57 : decode cX5_row 57 = .ok (.iload_n 1, 1) := by decide +kernel
theorem dX5_row_58 : decode cX5_row 58 = .ok (.if_icmp .ne 6, 3) := by decide +kernel
theorem dX5_row_61 : decode cX5_row 61 = .ok (.bipush (-3), 2) := by decide +kernel
theorem dX5_row_63 : decode cX5_row 63 = .ok (.ireturn, 1) := by decide +kernel
theorem dX5_row_64 : decode cX5_row 64 = .ok (.aload_n 0, 1) := by decide +kernel
theorem dX5_row_65 : decode cX5_row 65 = .ok (.getfield 19, 3) := by decide +kernel
theorem dX5_row_68 : decode cX5_row 68 = .ok (.iload_n 1, 1) := by decide +kernel
theorem dX5_row_69 : decode cX5_row 69 = .ok (.iload_n 2, 1) := by decide +kernel
theorem dX5_row_70 : decode cX5_row 70 = .ok (.iload_n 3, 1) := by decide +kernel
theorem dX5_row_71 : decode cX5_row 71 = .ok (.iload 4, 2) := by decide +kernel
theorem dX5_row_73 : decode cX5_row 73 = .ok (.iload 5, 2) := by decide +kernel
theorem dX5_row_75 : decode cX5_row 75 = .ok (.invokevirtual 79, 3) := by decide +kernel
theorem dX5_row_78 : decode cX5_row 78 = .ok (.ireturn, 1) := by decide +kernel
set_option maxRecDepth 20000 in
theorem ggX5_told_X5_isRow : GoodIn wsX5_told wsX5_isRow := goodIn_r _ [12, 1, 13, 63, 64, 65, 66, 67, 68, 69, 70, 71, 72, 73, 74] (by decide +kernel) (by decide +kernel)
set_option maxRecDepth 20000 in
theorem gX5_told_X5_isRow : GoodIn wsX5_told (wsV RX5 83 RX5 yX5_isRow wsX5_isRow) := goodIn_app (goodIn_of _ (by decide +kernel)) ggX5_told_X5_isRow
set_option maxRecDepth 20000 in
theorem ggX5_told_X5_isDouble : GoodIn wsX5_told wsX5_isDouble := goodIn_r _ [17, 1, 6, 18, 2, 19, 20, 21, 22, 23, 24, 25, 26, 27, 28, 29, 30, 31, 32, 33, 34, 35, 36, 37, 38, 39, 40, 41, 42, 43, 44, 45, 46, 47, 48, 49, 50, 51, 52, 53, 54, 55, 56, 57, 58, 59, 60, 61, 62, 63, 64, 65, 66, 67, 68, 69, 70, 71, 72, 73, 74, 75, 76, 77, 78, 79, 80, 81, 82, 83, 84, 85] (by decide +kernel) (by decide +kernel)
set_option maxRecDepth 20000 in
theorem gX5_told_X5_isDouble : GoodIn wsX5_told (wsV RX5 102 RX5 yX5_isDouble wsX5_isDouble) := goodIn_app (goodIn_of _ (by decide +kernel)) ggX5_told_X5_isDouble
theorem dX5_told_0 : decode cX5_told 0 = .ok (.aload_n 0, 1) := by decide +kernel
theorem dX5_told_1 : decode cX5_told 1 = .ok (.iload_n 1, 1) := by decide +kernel
theorem dX5_told_2 : decode cX5_told 2 = .ok (.invokevirtual 83, 3) := by decide +kernel
theorem dX5_told_5 : decode cX5_told 5 = .ok (.ifCond .ne 5, 3) := by decide +kernel
theorem dX5_told_8 : decode cX5_told 8 = .ok (.iconst (-1), 1) := by decide +kernel
theorem dX5_told_9 : decode cX5_told 9 = .ok (.ireturn, 1) := by decide +kernel
theorem dX5_told_10 : decode cX5_told 10 = .ok (.iload_n 2, 1) := by decide +kernel
theorem dX5_told_11 : decode cX5_told 11 = .ok (.tableswitch 124 0 6 #[41, 51, 61, 71, 81, 91, 114], 41) := by decide +kernel
theorem dX5_told_52 : decode cX5_told 52 = .ok (.aload_n 0, 1) := by decide +kernel
theorem dX5_told_53 : decode cX5_told 53 = .ok (.getfield 19, 3) := by decide +kernel
theorem dX5_told_56 : decode cX5_told 56 = .ok (.getfield 86, 3) := by decide +kernel
theorem dX5_told_59 : decode cX5_told 59 = .ok (.iload_n 1, 1) := by decide +kernel
theorem dX5_told_60 : decode cX5_told 60 = .ok (.iaload, 1) := by decide +kernel
theorem dX5_told_61 : decode cX5_told 61 = .ok (.ireturn, 1) := by decide +kernel
theorem dX5_told_62 : decode cX5_told 62 = .ok (.aload_n 0, 1) := by decide +kernel
theorem dX5_told_63 : decode cX5_told 63 = .ok (.getfield 19, 3) := by decide +kernel
theorem dX5_told_66 : decode cX5_told 66 = .ok (.getfield 90, 3) := by decide +kernel
theorem dX5_told_69 : decode cX5_told 69 = .ok (.iload_n 1, 1) := by decide +kernel
theorem dX5_told_70 : decode cX5_told 70 = .ok (.iaload, 1) := by decide +kernel
theorem dX5_told_71 : decode cX5_told 71 = .ok (.ireturn, 1) := by decide +kernel
theorem dX5_told_72 : decode cX5_told 72 = .ok (.aload_n 0, 1) := by decide +kernel
theorem dX5_told_73 : decode cX5_told 73 = .ok (.getfield 19, 3) := by decide +kernel
theorem dX5_told_76 : decode cX5_told 76 = .ok (.getfield 93, 3) := by decide +kernel
theorem dX5_told_79 : decode cX5_told 79 = .ok (.iload_n 1, 1) := by decide +kernel
theorem dX5_told_80 : decode cX5_told 80 = .ok (.iaload, 1) := by decide +kernel
theorem dX5_told_81 : decode cX5_told 81 = .ok (.ireturn, 1) := by decide +kernel
theorem dX5_told_82 : decode cX5_told 82 = .ok (.aload_n 0, 1) := by decide +kernel
theorem dX5_told_83 : decode cX5_told 83 = .ok (.getfield 19, 3) := by decide +kernel
theorem dX5_told_86 : decode cX5_told 86 = .ok (.getfield 96, 3) := by decide +kernel
theorem dX5_told_89 : decode cX5_told 89 = .ok (.iload_n 1, 1) := by decide +kernel
theorem dX5_told_90 : decode cX5_told 90 = .ok (.iaload, 1) := by decide +kernel
theorem dX5_told_91 : decode cX5_told 91 = .ok (.ireturn, 1) := by decide +kernel
theorem dX5_told_92 : decode cX5_told 92 = .ok (.aload_n 0, 1) := by decide +kernel
theorem dX5_told_93 : decode cX5_told 93 = .ok (.getfield 19, 3) := by decide +kernel
theorem dX5_told_96 : decode cX5_told 96 = .ok (.getfield 99, 3) := by decide +kernel
theorem dX5_told_99 : decode cX5_told 99 = .ok (.iload_n 1, 1) := by decide +kernel
theorem dX5_told_100 : decode cX5_told 100 = .ok (.iaload, 1) := by decide +kernel
theorem dX5_told_101 : decode cX5_told 101 = .ok (.ireturn, 1) := by decide +kernel
theorem dX5_told_102 : decode cX5_told 102 = .ok (.aload_n 0, 1) := by decide +kernel
theorem dX5_told_103 : decode cX5_told 103 = .ok (.iload_n 1, 1) := by decide +kernel
theorem dX5_told_104 : decode cX5_told 104 = .ok (.aload_n 0, 1) := by decide +kernel
theorem dX5_told_105 : decode cX5_told 105 = .ok (.getfield 19, 3) := by decide +kernel
theorem dX5_told_108 : decode cX5_told 108 = .ok (.getfield 96, 3) := by decide +kernel
theorem dX5_told_111 : decode cX5_told 111 = .ok (.iload_n 1, 1) := by decide +kernel
theorem dX5_told_112 : decode cX5_told 112 = .ok (.iaload, 1) := by decide +kernel
theorem dX5_told_113 : decode cX5_told 113 = .ok (.invokevirtual 102, 3) := by decide +kernel
theorem dX5_told_116 : decode cX5_told 116 = .ok (.ifCond .eq 7, 3) := by decide +kernel
theorem dX5_told_119 : decode cX5_told 119 = .ok (.iconst 1, 1) := by decide +kernel
theorem dX5_told_120 : decode cX5_told 120 = .ok (.goto 4, 3) := by decide +kernel
theorem dX5_told_123 : decode cX5_told 123 = .ok (.iconst 0, 1) := by decide +kernel
theorem dX5_told_124 : decode cX5_told 124 = .ok (.ireturn, 1) := by decide +kernel
theorem dX5_told_125 : decode cX5_told 125 = .ok (.aload_n 0, 1) := by decide +kernel
theorem dX5_told_126 : decode cX5_told 126 = .ok (.getfield 19, 3) := by decide +kernel
theorem dX5_told_129 : decode cX5_told 129 = .ok (.getfield 105, 3) := by decide +kernel
theorem dX5_told_132 : decode cX5_told 132 = .ok (.iload_n 1, 1) := by decide +kernel
theorem dX5_told_133 : decode cX5_told 133 = .ok (.iaload, 1) := by decide +kernel
theorem dX5_told_134 : decode cX5_told 134 = .ok (.ireturn, 1) := by decide +kernel
theorem dX5_told_135 : decode cX5_told 135 = .ok (.bipush (-2), 2) := by decide +kernel
theorem dX5_told_137 : decode cX5_told 137 = .ok (.ireturn, 1) := by decide +kernel
set_option maxRecDepth 20000 in
theorem ggX5_factor_X5_isKind : GoodIn wsX5_factor wsX5_isKind := goodIn_r _ [5] (by decide +kernel) (by decide +kernel)
set_option maxRecDepth 20000 in
theorem gX5_factor_X5_isKind : GoodIn wsX5_factor (va_wsS RX5 75 yX5_isKind wsX5_isKind) := goodIn_app (goodIn_of _ (by decide +kernel)) ggX5_factor_X5_isKind
set_option maxRecDepth 20000 in
theorem ggX5_factor_X5_isYear : GoodIn wsX5_factor wsX5_isYear := goodIn_r _ [8] (by decide +kernel) (by decide +kernel)
set_option maxRecDepth 20000 in
theorem gX5_factor_X5_isYear : GoodIn wsX5_factor (va_wsS RX5 108 yX5_isYear wsX5_isYear) := goodIn_app (goodIn_of _ (by decide +kernel)) ggX5_factor_X5_isYear
set_option maxRecDepth 20000 in
theorem ggX5_factor_X0_add : GoodIn wsX5_factor wsX0_add := goodIn_r _ [13, 14, 15, 16, 17, 18, 24, 25, 26, 27, 28] (by decide +kernel) (by decide +kernel)
set_option maxRecDepth 20000 in
theorem gX5_factor_X0_add : GoodIn wsX5_factor (wsV RX5 111 RX0 yX0_add wsX0_add) := goodIn_app (goodIn_of _ (by decide +kernel)) ggX5_factor_X0_add
theorem dX5_factor_0 : decode cX5_factor 0 = .ok (.iload_n 1, 1) := by decide +kernel
theorem dX5_factor_1 : decode cX5_factor 1 = .ok (.invokestatic 75, 3) := by decide +kernel
theorem dX5_factor_4 : decode cX5_factor 4 = .ok (.ifCond .eq 28, 3) := by decide +kernel
theorem dX5_factor_7 : decode cX5_factor 7 = .ok (.iload_n 2, 1) := by decide +kernel
theorem dX5_factor_8 : decode cX5_factor 8 = .ok (.invokestatic 108, 3) := by decide +kernel
theorem dX5_factor_11 : decode cX5_factor 11 = .ok (.ifCond .eq 21, 3) := by decide +kernel
theorem dX5_factor_14 : decode cX5_factor 14 = .ok (.iload_n 3, 1) := by decide +kernel
theorem dX5_factor_15 : decode cX5_factor 15 = .ok (.ifCond .lt 17, 3) := by decide +kernel
theorem dX5_factor_18 : decode cX5_factor 18 = .ok (.iload_n 3, 1) := by decide +kernel
theorem dX5_factor_19 : decode cX5_factor 19 = .ok (.iload 4, 2) := by decide +kernel
theorem dX5_factor_21 : decode cX5_factor 21 = .ok (.if_icmp .gt 11, 3) := by decide +kernel
theorem dX5_factor_24 : decode cX5_factor 24 = .ok (.iload 4, 2) := by decide +kernel
theorem dX5_factor_26 : decode cX5_factor 26 = .ok (.sipush 1000, 3) := by decide +kernel
theorem dX5_factor_29 : decode cX5_factor 29 = .ok (.if_icmp .le 6, 3) := by decide +kernel
theorem dX5_factor_32 : decode cX5_factor 32 = .ok (.bipush (-2), 2) := by decide +kernel
theorem dX5_factor_34 : decode cX5_factor 34 = .ok (.ireturn, 1) := by decide +kernel
theorem dX5_factor_35 : decode cX5_factor 35 = .ok (.aload_n 0, 1) := by decide +kernel
theorem dX5_factor_36 : decode cX5_factor 36 = .ok (.getfield 26, 3) := by decide +kernel
theorem dX5_factor_39 : decode cX5_factor 39 = .ok (.iload_n 1, 1) := by decide +kernel
theorem dX5_factor_40 : decode cX5_factor 40 = .ok (.iload_n 2, 1) := by decide +kernel
theorem dX5_factor_41 : decode cX5_factor 41 = .ok (.iload_n 3, 1) := by decide +kernel
theorem dX5_factor_42 : decode cX5_factor 42 = .ok (.iload 4, 2) := by decide +kernel
theorem dX5_factor_44 : decode cX5_factor 44 = .ok (.invokevirtual 111, 3) := by decide +kernel
theorem dX5_factor_47 : decode cX5_factor 47 = .ok (.ireturn, 1) := by decide +kernel
set_option maxRecDepth 20000 in
theorem ggX5_factorAs_X5_isAsOf : GoodIn wsX5_factorAs wsX5_isAsOf := goodIn_r _ [6, 1, 7, 28, 29, 30, 31, 32, 33, 34, 35, 36, 37] (by decide +kernel) (by decide +kernel)
set_option maxRecDepth 20000 in
theorem gX5_factorAs_X5_isAsOf : GoodIn wsX5_factorAs (wsV RX5 113 RX5 yX5_isAsOf wsX5_isAsOf) := goodIn_app (goodIn_of _ (by decide +kernel)) ggX5_factorAs_X5_isAsOf
set_option maxRecDepth 20000 in
theorem ggX5_factorAs_X5_isKind : GoodIn wsX5_factorAs wsX5_isKind := goodIn_r _ [10] (by decide +kernel) (by decide +kernel)
set_option maxRecDepth 20000 in
theorem gX5_factorAs_X5_isKind : GoodIn wsX5_factorAs (va_wsS RX5 75 yX5_isKind wsX5_isKind) := goodIn_app (goodIn_of _ (by decide +kernel)) ggX5_factorAs_X5_isKind
set_option maxRecDepth 20000 in
theorem ggX5_factorAs_X5_isYear : GoodIn wsX5_factorAs wsX5_isYear := goodIn_r _ [13] (by decide +kernel) (by decide +kernel)
set_option maxRecDepth 20000 in
theorem gX5_factorAs_X5_isYear : GoodIn wsX5_factorAs (va_wsS RX5 108 yX5_isYear wsX5_isYear) := goodIn_app (goodIn_of _ (by decide +kernel)) ggX5_factorAs_X5_isYear
set_option maxRecDepth 20000 in
theorem ggX5_factorAs_X0_versionFor : GoodIn wsX5_factorAs wsX0_versionFor := goodIn_r _ [18, 19, 20, 21, 33, 34, 35, 36, 37] (by decide +kernel) (by decide +kernel)
set_option maxRecDepth 20000 in
theorem gX5_factorAs_X0_versionFor : GoodIn wsX5_factorAs (wsV RX5 116 RX0 yX0_versionFor wsX0_versionFor) := goodIn_app (goodIn_of _ (by decide +kernel)) ggX5_factorAs_X0_versionFor
set_option maxRecDepth 20000 in
theorem ggX5_factorAs_X0_endOf : GoodIn wsX5_factorAs wsX0_endOf := goodIn_r _ [25, 26, 27, 33, 34, 35, 36, 37] (by decide +kernel) (by decide +kernel)
set_option maxRecDepth 20000 in
theorem gX5_factorAs_X0_endOf : GoodIn wsX5_factorAs (wsV RX5 119 RX0 yX0_endOf wsX0_endOf) := goodIn_app (goodIn_of _ (by decide +kernel)) ggX5_factorAs_X0_endOf
theorem dX5_factorAs_0 : decode cX5_factorAs 0 = .ok (.aload_n 0, 1) := by decide +kernel
theorem dX5_factorAs_1 : decode cX5_factorAs 1 = .ok (.iload_n 3, 1) := by decide +kernel
theorem dX5_factorAs_2 : decode cX5_factorAs 2 = .ok (.invokevirtual 113, 3) := by decide +kernel
theorem dX5_factorAs_5 : decode cX5_factorAs 5 = .ok (.ifCond .ne 5, 3) := by decide +kernel
theorem dX5_factorAs_8 : decode cX5_factorAs 8 = .ok (.iconst (-1), 1) := by decide +kernel
theorem dX5_factorAs_9 : decode cX5_factorAs 9 = .ok (.ireturn, 1) := by decide +kernel
theorem dX5_factorAs_10 : decode cX5_factorAs 10 = .ok (.iload_n 1, 1) := by decide +kernel
theorem dX5_factorAs_11 : decode cX5_factorAs 11 = .ok (.invokestatic 75, 3) := by decide +kernel
theorem dX5_factorAs_14 : decode cX5_factorAs 14 = .ok (.ifCond .eq 10, 3) := by decide +kernel
theorem dX5_factorAs_17 : decode cX5_factorAs 17 = .ok (.iload_n 2, 1) := by decide +kernel
theorem dX5_factorAs_18 : decode cX5_factorAs 18 = .ok (.invokestatic 108, 3) := by decide +kernel
theorem dX5_factorAs_21 : decode cX5_factorAs 21 = .ok (.ifCond .ne 6, 3) := by decide +kernel
theorem dX5_factorAs_24 : decode cX5_factorAs 24 = .ok (.bipush (-2), 2) := by decide +kernel
theorem dX5_factorAs_26 : decode cX5_factorAs 26 = .ok (.ireturn, 1) := by decide +kernel
theorem dX5_factorAs_27 : decode cX5_factorAs 27 = .ok (.aload_n 0, 1) := by decide +kernel
theorem dX5_factorAs_28 : decode cX5_factorAs 28 = .ok (.getfield 26, 3) := by decide +kernel
theorem dX5_factorAs_31 : decode cX5_factorAs 31 = .ok (.aload_n 0, 1) := by decide +kernel
theorem dX5_factorAs_32 : decode cX5_factorAs 32 = .ok (.getfield 26, 3) := by decide +kernel
theorem dX5_factorAs_35 : decode cX5_factorAs 35 = .ok (.iload_n 1, 1) := by decide +kernel
theorem dX5_factorAs_36 : decode cX5_factorAs 36 = .ok (.iload_n 2, 1) := by decide +kernel
theorem dX5_factorAs_37 : decode cX5_factorAs 37 = .ok (.iload_n 3, 1) := by decide +kernel
theorem dX5_factorAs_38 : decode cX5_factorAs 38 = .ok (.invokevirtual 116, 3) := by decide +kernel
theorem dX5_factorAs_41 : decode cX5_factorAs 41 = .ok (.iload 4, 2) := by decide +kernel
theorem dX5_factorAs_43 : decode cX5_factorAs 43 = .ok (.invokevirtual 119, 3) := by decide +kernel
theorem dX5_factorAs_46 : decode cX5_factorAs 46 = .ok (.ireturn, 1) := by decide +kernel
set_option maxRecDepth 20000 in
theorem ggX5_tons_X5_isRow : GoodIn wsX5_tons wsX5_isRow := goodIn_r _ [9, 10, 11, 72, 73, 74, 75, 76, 77, 78, 79, 80, 81, 82, 83] (by decide +kernel) (by decide +kernel)
set_option maxRecDepth 20000 in
theorem gX5_tons_X5_isRow : GoodIn wsX5_tons (wsV RX5 83 RX5 yX5_isRow wsX5_isRow) := goodIn_app (goodIn_of _ (by decide +kernel)) ggX5_tons_X5_isRow
set_option maxRecDepth 20000 in
theorem ggX5_tons_X5_isAsOf : GoodIn wsX5_tons wsX5_isAsOf := goodIn_r _ [15, 16, 17, 72, 73, 74, 75, 76, 84, 85, 86, 87, 88] (by decide +kernel) (by decide +kernel)
set_option maxRecDepth 20000 in
theorem gX5_tons_X5_isAsOf : GoodIn wsX5_tons (wsV RX5 113 RX5 yX5_isAsOf wsX5_isAsOf) := goodIn_app (goodIn_of _ (by decide +kernel)) ggX5_tons_X5_isAsOf
set_option maxRecDepth 20000 in
theorem ggX5_tons_X4_init : GoodIn wsX5_tons wsX4_init := goodIn_r _ [20, 21, 22, 23, 24, 25, 26, 27, 68, 69, 70, 71] (by decide +kernel) (by decide +kernel)
set_option maxRecDepth 20000 in
theorem gX5_tons_X4_init : GoodIn wsX5_tons (wsX4_init) := ggX5_tons_X4_init
set_option maxRecDepth 20000 in
theorem ggX5_tons_X5_tonsOf : GoodIn wsX5_tons wsX5_tonsOf := goodIn_r _ [31, 16, 32, 33, 34, 35, 10, 36, 37, 38, 39, 40, 8, 41, 42, 43, 44, 45, 46, 47, 48, 49, 50, 51, 52, 53, 54, 55, 56, 57, 58, 59, 60, 61, 62, 63, 64, 65, 66, 67, 72, 73, 74, 75, 76, 68, 69, 70, 71, 77, 78, 79, 80, 81, 82, 83, 84, 85, 86, 87, 88] (by decide +kernel) (by decide +kernel)
set_option maxRecDepth 20000 in
theorem gX5_tons_X5_tonsOf : GoodIn wsX5_tons (wsV RX5 128 RX5 yX5_tonsOf wsX5_tonsOf) := goodIn_app (goodIn_of _ (by decide +kernel)) ggX5_tons_X5_tonsOf
theorem dX5_tons_0 : decode cX5_tons 0 = .ok (.aload_n 0, 1) := by decide +kernel
theorem dX5_tons_1 : decode cX5_tons 1 = .ok (.iload_n 1, 1) := by decide +kernel
theorem dX5_tons_2 : decode cX5_tons 2 = .ok (.invokevirtual 83, 3) := by decide +kernel
theorem dX5_tons_5 : decode cX5_tons 5 = .ok (.ifCond .eq 11, 3) := by decide +kernel
theorem dX5_tons_8 : decode cX5_tons 8 = .ok (.aload_n 0, 1) := by decide +kernel
theorem dX5_tons_9 : decode cX5_tons 9 = .ok (.iload_n 2, 1) := by decide +kernel
theorem dX5_tons_10 : decode cX5_tons 10 = .ok (.invokevirtual 113, 3) := by decide +kernel
theorem dX5_tons_13 : decode cX5_tons 13 = .ok (.ifCond .ne 7, 3) := by decide +kernel
theorem dX5_tons_16 : decode cX5_tons 16 = .ok (.ldc2_w 63, 3) := by decide +kernel
theorem dX5_tons_19 : decode cX5_tons 19 = .ok (.lreturn, 1) := by decide +kernel
theorem dX5_tons_20 : decode cX5_tons 20 = .ok (.aload_n 0, 1) := by decide +kernel
theorem dX5_tons_21 : decode cX5_tons 21 = .ok (.iload_n 1, 1) := by decide +kernel
theorem dX5_tons_22 : decode cX5_tons 22 = .ok (.new 123, 3) := by decide +kernel
theorem dX5_tons_25 : decode cX5_tons 25 = .ok (.dup, 1) := by decide +kernel
theorem dX5_tons_26 : decode cX5_tons 26 = .ok (.iload_n 2, 1) := by decide +kernel
theorem dX5_tons_27 : decode cX5_tons 27 = .ok (.iload_n 3, 1) := by decide +kernel
theorem dX5_tons_28 : decode cX5_tons 28 = .ok (.iconst 0, 1) := by decide +kernel
theorem dX5_tons_29 : decode cX5_tons 29 = .ok (.iload 4, 2) := by decide +kernel
theorem dX5_tons_31 : decode cX5_tons 31 = .ok (.invokespecial 125, 3) := by decide +kernel
theorem dX5_tons_34 : decode cX5_tons 34 = .ok (.invokevirtual 128, 3) := by decide +kernel
theorem dX5_tons_37 : decode cX5_tons 37 = .ok (.lreturn, 1) := by decide +kernel
set_option maxRecDepth 20000 in
theorem ggX5_changed_X5_isAsOf : GoodIn wsX5_changed wsX5_isAsOf := goodIn_r _ [7, 8, 9, 47, 48, 49, 50, 51, 59, 60, 61, 62, 63] (by decide +kernel) (by decide +kernel)
set_option maxRecDepth 20000 in
theorem gX5_changed_X5_isAsOf : GoodIn wsX5_changed (wsV RX5 113 RX5 yX5_isAsOf wsX5_isAsOf) := goodIn_app (goodIn_of _ (by decide +kernel)) ggX5_changed_X5_isAsOf
set_option maxRecDepth 20000 in
theorem ggX5_changed_X5_isYear : GoodIn wsX5_changed wsX5_isYear := goodIn_r _ [12] (by decide +kernel) (by decide +kernel)
set_option maxRecDepth 20000 in
theorem gX5_changed_X5_isYear : GoodIn wsX5_changed (va_wsS RX5 108 yX5_isYear wsX5_isYear) := goodIn_app (goodIn_of _ (by decide +kernel)) ggX5_changed_X5_isYear
set_option maxRecDepth 20000 in
theorem ggX5_changed_X5_isChanged : GoodIn wsX5_changed wsX5_isChanged := goodIn_r _ [16, 1, 8, 17, 18, 19, 20, 21, 22, 23, 24, 25, 26, 27, 28, 29, 6, 30, 31, 32, 33, 34, 35, 36, 37, 38, 39, 40, 41, 42, 43, 44, 45, 46, 47, 48, 49, 50, 51, 52, 53, 54, 55, 56, 57, 58, 59, 60, 61, 62, 63] (by decide +kernel) (by decide +kernel)
set_option maxRecDepth 20000 in
theorem gX5_changed_X5_isChanged : GoodIn wsX5_changed (wsV RX5 135 RX5 yX5_isChanged wsX5_isChanged) := goodIn_app (goodIn_of _ (by decide +kernel)) ggX5_changed_X5_isChanged
theorem dX5_changed_0 : decode cX5_changed 0 = .ok (.aload_n 0, 1) := by decide +kernel
theorem dX5_changed_1 : decode cX5_changed 1 = .ok (.iload_n 2, 1) := by decide +kernel
theorem dX5_changed_2 : decode cX5_changed 2 = .ok (.invokevirtual 113, 3) := by decide +kernel
theorem dX5_changed_5 : decode cX5_changed 5 = .ok (.ifCond .eq 11, 3) := by decide +kernel
theorem dX5_changed_8 : decode cX5_changed 8 = .ok (.aload_n 0, 1) := by decide +kernel
theorem dX5_changed_9 : decode cX5_changed 9 = .ok (.iload_n 3, 1) := by decide +kernel
theorem dX5_changed_10 : decode cX5_changed 10 = .ok (.invokevirtual 113, 3) := by decide +kernel
theorem dX5_changed_13 : decode cX5_changed 13 = .ok (.ifCond .ne 5, 3) := by decide +kernel
theorem dX5_changed_16 : decode cX5_changed 16 = .ok (.iconst (-1), 1) := by decide +kernel
theorem dX5_changed_17 : decode cX5_changed 17 = .ok (.ireturn, 1) := by decide +kernel
theorem dX5_changed_18 : decode cX5_changed 18 = .ok (.iload_n 1, 1) := by decide +kernel
theorem dX5_changed_19 : decode cX5_changed 19 = .ok (.invokestatic 108, 3) := by decide +kernel
theorem dX5_changed_22 : decode cX5_changed 22 = .ok (.ifCond .ne 6, 3) := by decide +kernel
theorem dX5_changed_25 : decode cX5_changed 25 = .ok (.bipush (-2), 2) := by decide +kernel
theorem dX5_changed_27 : decode cX5_changed 27 = .ok (.ireturn, 1) := by decide +kernel
theorem dX5_changed_28 : decode cX5_changed 28 = .ok (.iconst 0, 1) := by decide +kernel
theorem dX5_changed_29 : decode cX5_changed 29 = .ok (.istore 4, 2) := by decide +kernel
theorem dX5_changed_31 : decode cX5_changed 31 = .ok (.iconst 0, 1) := by decide +kernel
theorem dX5_changed_32 : decode cX5_changed 32 = .ok (.istore 5, 2) := by decide +kernel
theorem dX5_changed_34 : decode cX5_changed 34 = .ok (.iload 5, 2) := by decide +kernel
theorem dX5_changed_36 : decode cX5_changed 36 = .ok (.aload_n 0, 1) := by decide +kernel
theorem dX5_changed_37 : decode cX5_changed 37 = .ok (.getfield 19, 3) := by decide +kernel
theorem dX5_changed_40 : decode cX5_changed 40 = .ok (.getfield 132, 3) := by decide +kernel
theorem dX5_changed_43 : decode cX5_changed 43 = .ok (.if_icmp .ge 24, 3) := by decide +kernel
theorem dX5_changed_46 : decode cX5_changed 46 = .ok (.aload_n 0, 1) := by decide +kernel
theorem dX5_changed_47 : decode cX5_changed 47 = .ok (.iload 5, 2) := by decide +kernel
theorem dX5_changed_49 : decode cX5_changed 49 = .ok (.iload_n 1, 1) := by decide +kernel
theorem dX5_changed_50 : decode cX5_changed 50 = .ok (.iload_n 2, 1) := by decide +kernel
theorem dX5_changed_51 : decode cX5_changed 51 = .ok (.iload_n 3, 1) := by decide +kernel
theorem dX5_changed_52 : decode cX5_changed 52 = .ok (.invokevirtual 135, 3) := by decide +kernel
theorem dX5_changed_55 : decode cX5_changed 55 = .ok (.ifCond .eq 6, 3) := by decide +kernel
theorem dX5_changed_58 : decode cX5_changed 58 = .ok (.iinc 4 1, 3) := by decide +kernel
theorem dX5_changed_61 : decode cX5_changed 61 = .ok (.iinc 5 1, 3) := by decide +kernel
theorem dX5_changed_64 : decode cX5_changed 64 = .ok (.goto (-30), 3) := by decide +kernel
theorem dX5_changed_67 : decode cX5_changed 67 = .ok (.iload 4, 2) := by decide +kernel
theorem dX5_changed_69 : decode cX5_changed 69 = .ok (.ireturn, 1) := by decide +kernel
set_option maxRecDepth 20000 in
theorem ggX5_change_X5_isAsOf : GoodIn wsX5_change wsX5_isAsOf := goodIn_r _ [7, 8, 9, 47, 48, 49, 50, 51, 59, 60, 61, 62, 63] (by decide +kernel) (by decide +kernel)
set_option maxRecDepth 20000 in
theorem gX5_change_X5_isAsOf : GoodIn wsX5_change (wsV RX5 113 RX5 yX5_isAsOf wsX5_isAsOf) := goodIn_app (goodIn_of _ (by decide +kernel)) ggX5_change_X5_isAsOf
set_option maxRecDepth 20000 in
theorem ggX5_change_X5_isYear : GoodIn wsX5_change wsX5_isYear := goodIn_r _ [12] (by decide +kernel) (by decide +kernel)
set_option maxRecDepth 20000 in
theorem gX5_change_X5_isYear : GoodIn wsX5_change (va_wsS RX5 108 yX5_isYear wsX5_isYear) := goodIn_app (goodIn_of _ (by decide +kernel)) ggX5_change_X5_isYear
set_option maxRecDepth 20000 in
theorem ggX5_change_X5_isChanged : GoodIn wsX5_change wsX5_isChanged := goodIn_r _ [16, 1, 8, 17, 18, 19, 20, 21, 22, 23, 24, 25, 26, 27, 28, 29, 6, 30, 31, 32, 33, 34, 35, 36, 37, 38, 39, 40, 41, 42, 43, 44, 45, 46, 47, 48, 49, 50, 51, 52, 53, 54, 55, 56, 57, 58, 59, 60, 61, 62, 63] (by decide +kernel) (by decide +kernel)
set_option maxRecDepth 20000 in
theorem gX5_change_X5_isChanged : GoodIn wsX5_change (wsV RX5 135 RX5 yX5_isChanged wsX5_isChanged) := goodIn_app (goodIn_of _ (by decide +kernel)) ggX5_change_X5_isChanged
theorem dX5_change_0 : decode cX5_change 0 = .ok (.aload_n 0, 1) := by decide +kernel
theorem dX5_change_1 : decode cX5_change 1 = .ok (.iload_n 3, 1) := by decide +kernel
theorem dX5_change_2 : decode cX5_change 2 = .ok (.invokevirtual 113, 3) := by decide +kernel
theorem dX5_change_5 : decode cX5_change 5 = .ok (.ifCond .eq 12, 3) := by decide +kernel
theorem dX5_change_8 : decode cX5_change 8 = .ok (.aload_n 0, 1) := by decide +kernel
theorem dX5_change_9 : decode cX5_change 9 = .ok (.iload 4, 2) := by decide +kernel
theorem dX5_change_11 : decode cX5_change 11 = .ok (.invokevirtual 113, 3) := by decide +kernel
theorem dX5_change_14 : decode cX5_change 14 = .ok (.ifCond .ne 5, 3) := by decide +kernel
theorem dX5_change_17 : decode cX5_change 17 = .ok (.iconst (-1), 1) := by decide +kernel
theorem dX5_change_18 : decode cX5_change 18 = .ok (.ireturn, 1) := by decide +kernel
theorem dX5_change_19 : decode cX5_change 19 = .ok (.iload_n 2, 1) := by decide +kernel
theorem dX5_change_20 : decode cX5_change 20 = .ok (.invokestatic 108, 3) := by decide +kernel
theorem dX5_change_23 : decode cX5_change 23 = .ok (.ifCond .ne 6, 3) := by decide +kernel
theorem dX5_change_26 : decode cX5_change 26 = .ok (.bipush (-2), 2) := by decide +kernel
theorem dX5_change_28 : decode cX5_change 28 = .ok (.ireturn, 1) := by decide +kernel
theorem dX5_change_29 : decode cX5_change 29 = .ok (.iconst 0, 1) := by decide +kernel
theorem dX5_change_30 : decode cX5_change 30 = .ok (.istore 5, 2) := by decide +kernel
theorem dX5_change_32 : decode cX5_change 32 = .ok (.iconst 0, 1) := by decide +kernel
theorem dX5_change_33 : decode cX5_change 33 = .ok (.istore 6, 2) := by decide +kernel
theorem dX5_change_35 : decode cX5_change 35 = .ok (.iload 6, 2) := by decide +kernel
theorem dX5_change_37 : decode cX5_change 37 = .ok (.aload_n 0, 1) := by decide +kernel
theorem dX5_change_38 : decode cX5_change 38 = .ok (.getfield 19, 3) := by decide +kernel
theorem dX5_change_41 : decode cX5_change 41 = .ok (.getfield 132, 3) := by decide +kernel
theorem dX5_change_44 : decode cX5_change 44 = .ok (.if_icmp .ge 34, 3) := by decide +kernel
theorem dX5_change_47 : decode cX5_change 47 = .ok (.aload_n 0, 1) := by decide +kernel
theorem dX5_change_48 : decode cX5_change 48 = .ok (.iload 6, 2) := by decide +kernel
theorem dX5_change_50 : decode cX5_change 50 = .ok (.iload_n 2, 1) := by decide +kernel
theorem dX5_change_51 : decode cX5_change 51 = .ok (.iload_n 3, 1) := by decide +kernel
theorem dX5_change_52 : decode cX5_change 52 = .ok (.iload 4, 2) := by decide +kernel
theorem dX5_change_54 : decode cX5_change 54 = .ok (.invokevirtual 135, 3) := by decide +kernel
theorem dX5_change_57 : decode cX5_change 57 = .ok (.ifCond .eq 15, 3) := by decide +kernel
theorem dX5_change_60 : decode cX5_change 60 = .ok (.iload 5, 2) := by decide +kernel
theorem dX5_change_62 : decode cX5_change 62 = .ok (.iload_n 1, 1) := by decide +kernel
theorem dX5_change_63 : decode cX5_change 63 = .ok (.if_icmp .ne 6, 3) := by decide +kernel
theorem dX5_change_66 : decode cX5_change 66 = .ok (.iload 6, 2) := by decide +kernel
theorem dX5_change_68 : decode cX5_change 68 = .ok (.ireturn, 1) := by decide +kernel
theorem dX5_change_69 : decode cX5_change 69 = .ok (.iinc 5 1, 3) := by decide +kernel
theorem dX5_change_72 : decode cX5_change 72 = .ok (.iinc 6 1, 3) := by decide +kernel
theorem dX5_change_75 : decode cX5_change 75 = .ok (.goto (-40), 3) := by decide +kernel
theorem dX5_change_78 : decode cX5_change 78 = .ok (.bipush (-9), 2) := by decide +kernel
theorem dX5_change_80 : decode cX5_change 80 = .ok (.ireturn, 1) := by decide +kernel
set_option maxRecDepth 20000 in
theorem ggX5_total_X5_isYear : GoodIn wsX5_total wsX5_isYear := goodIn_r _ [9] (by decide +kernel) (by decide +kernel)
set_option maxRecDepth 20000 in
theorem gX5_total_X5_isYear : GoodIn wsX5_total (va_wsS RX5 108 yX5_isYear wsX5_isYear) := goodIn_app (goodIn_of _ (by decide +kernel)) ggX5_total_X5_isYear
set_option maxRecDepth 20000 in
theorem ggX5_total_X5_isAsOf : GoodIn wsX5_total wsX5_isAsOf := goodIn_r _ [13, 14, 15, 134, 135, 136, 137, 138, 139, 140, 141, 142, 143] (by decide +kernel) (by decide +kernel)
set_option maxRecDepth 20000 in
theorem gX5_total_X5_isAsOf : GoodIn wsX5_total (wsV RX5 113 RX5 yX5_isAsOf wsX5_isAsOf) := goodIn_app (goodIn_of _ (by decide +kernel)) ggX5_total_X5_isAsOf
set_option maxRecDepth 20000 in
theorem ggX5_total_X4_init : GoodIn wsX5_total wsX4_init := goodIn_r _ [18, 19, 20, 21, 22, 23, 24, 25, 130, 131, 132, 133] (by decide +kernel) (by decide +kernel)
set_option maxRecDepth 20000 in
theorem gX5_total_X4_init : GoodIn wsX5_total (wsX4_init) := ggX5_total_X4_init
set_option maxRecDepth 20000 in
theorem ggX5_total_X5_totalOf : GoodIn wsX5_total wsX5_totalOf := goodIn_r _ [29, 30, 31, 32, 33, 34, 35, 36, 37, 38, 39, 40, 41, 42, 43, 44, 45, 46, 47, 48, 49, 50, 51, 52, 53, 54, 55, 56, 57, 58, 59, 60, 61, 62, 63, 64, 65, 66, 67, 68, 69, 70, 71, 72, 73, 74, 75, 76, 77, 78, 79, 80, 81, 82, 83, 84, 85, 86, 87, 88, 89, 90, 91, 92, 93, 8, 94, 95, 96, 97, 98, 99, 14, 100, 101, 102, 103, 104, 105, 106, 107, 108, 109, 110, 111, 112, 113, 114, 115, 116, 117, 118, 119, 120, 121, 122, 123, 124, 125, 126, 127, 128, 129, 134, 135, 136, 137, 138, 144, 145, 146, 147, 148, 149, 150, 130, 131, 132, 133, 151, 152, 153, 154, 155, 156, 157, 158, 159, 160, 161, 139, 140, 141, 142, 143] (by decide +kernel) (by decide +kernel)
set_option maxRecDepth 20000 in
theorem gX5_total_X5_totalOf : GoodIn wsX5_total (wsV RX5 139 RX5 yX5_totalOf wsX5_totalOf) := goodIn_app (goodIn_of _ (by decide +kernel)) ggX5_total_X5_totalOf
theorem dX5_total_0 : decode cX5_total 0 = .ok (.iload_n 1, 1) := by decide +kernel
theorem dX5_total_1 : decode cX5_total 1 = .ok (.invokestatic 108, 3) := by decide +kernel
theorem dX5_total_4 : decode cX5_total 4 = .ok (.ifCond .ne 7, 3) := by decide +kernel
theorem dX5_total_7 : decode cX5_total 7 = .ok (.ldc2_w 69, 3) := by decide +kernel
theorem dX5_total_10 : decode cX5_total 10 = .ok (.lreturn, 1) := by decide +kernel
theorem dX5_total_11 : decode cX5_total 11 = .ok (.aload_n 0, 1) := by decide +kernel
theorem dX5_total_12 : decode cX5_total 12 = .ok (.iload_n 2, 1) := by decide +kernel
theorem dX5_total_13 : decode cX5_total 13 = .ok (.invokevirtual 113, 3) := by decide +kernel
theorem dX5_total_16 : decode cX5_total 16 = .ok (.ifCond .ne 7, 3) := by decide +kernel
theorem dX5_total_19 : decode cX5_total 19 = .ok (.ldc2_w 63, 3) := by decide +kernel
theorem dX5_total_22 : decode cX5_total 22 = .ok (.lreturn, 1) := by decide +kernel
theorem dX5_total_23 : decode cX5_total 23 = .ok (.aload_n 0, 1) := by decide +kernel
theorem dX5_total_24 : decode cX5_total 24 = .ok (.bipush (-9), 2) := by decide +kernel
theorem dX5_total_26 : decode cX5_total 26 = .ok (.iload_n 1, 1) := by decide +kernel
theorem dX5_total_27 : decode cX5_total 27 = .ok (.bipush (-9), 2) := by decide +kernel
theorem dX5_total_29 : decode cX5_total 29 = .ok (.new 123, 3) := by decide +kernel
theorem dX5_total_32 : decode cX5_total 32 = .ok (.dup, 1) := by decide +kernel
theorem dX5_total_33 : decode cX5_total 33 = .ok (.iload_n 2, 1) := by decide +kernel
theorem dX5_total_34 : decode cX5_total 34 = .ok (.iload_n 3, 1) := by decide +kernel
theorem dX5_total_35 : decode cX5_total 35 = .ok (.iload 4, 2) := by decide +kernel
theorem dX5_total_37 : decode cX5_total 37 = .ok (.iload 5, 2) := by decide +kernel
theorem dX5_total_39 : decode cX5_total 39 = .ok (.invokespecial 125, 3) := by decide +kernel
theorem dX5_total_42 : decode cX5_total 42 = .ok (.invokevirtual 139, 3) := by decide +kernel
theorem dX5_total_45 : decode cX5_total 45 = .ok (.lreturn, 1) := by decide +kernel
set_option maxRecDepth 20000 in
theorem ggX5_anew_X5_isYear : GoodIn wsX5_anew wsX5_isYear := goodIn_r _ [9] (by decide +kernel) (by decide +kernel)
set_option maxRecDepth 20000 in
theorem gX5_anew_X5_isYear : GoodIn wsX5_anew (va_wsS RX5 108 yX5_isYear wsX5_isYear) := goodIn_app (goodIn_of _ (by decide +kernel)) ggX5_anew_X5_isYear
set_option maxRecDepth 20000 in
theorem ggX5_anew_X5_isDay : GoodIn wsX5_anew wsX5_isDay := goodIn_r _ [12] (by decide +kernel) (by decide +kernel)
set_option maxRecDepth 20000 in
theorem gX5_anew_X5_isDay : GoodIn wsX5_anew (va_wsS RX5 48 yX5_isDay wsX5_isDay) := goodIn_app (goodIn_of _ (by decide +kernel)) ggX5_anew_X5_isDay
set_option maxRecDepth 20000 in
theorem ggX5_anew_X5_isAsOf : GoodIn wsX5_anew wsX5_isAsOf := goodIn_r _ [16, 17, 18, 137, 138, 139, 140, 141, 142, 143, 144, 145, 146] (by decide +kernel) (by decide +kernel)
set_option maxRecDepth 20000 in
theorem gX5_anew_X5_isAsOf : GoodIn wsX5_anew (wsV RX5 113 RX5 yX5_isAsOf wsX5_isAsOf) := goodIn_app (goodIn_of _ (by decide +kernel)) ggX5_anew_X5_isAsOf
set_option maxRecDepth 20000 in
theorem ggX5_anew_X4_init : GoodIn wsX5_anew wsX4_init := goodIn_r _ [21, 22, 23, 24, 25, 26, 27, 28, 133, 134, 135, 136] (by decide +kernel) (by decide +kernel)
set_option maxRecDepth 20000 in
theorem gX5_anew_X4_init : GoodIn wsX5_anew (wsX4_init) := ggX5_anew_X4_init
set_option maxRecDepth 20000 in
theorem ggX5_anew_X5_totalOf : GoodIn wsX5_anew wsX5_totalOf := goodIn_r _ [32, 33, 34, 35, 36, 37, 38, 39, 40, 41, 42, 43, 44, 45, 46, 47, 48, 49, 50, 51, 52, 53, 54, 55, 56, 57, 58, 59, 60, 61, 62, 63, 64, 65, 66, 67, 68, 69, 70, 71, 72, 73, 74, 75, 76, 77, 78, 79, 80, 81, 82, 83, 84, 85, 86, 87, 88, 89, 90, 91, 92, 93, 94, 95, 96, 8, 97, 98, 99, 100, 101, 102, 17, 103, 104, 105, 106, 107, 108, 109, 110, 111, 112, 113, 114, 115, 116, 117, 118, 119, 120, 121, 122, 123, 124, 125, 126, 127, 128, 129, 130, 131, 132, 137, 138, 139, 140, 141, 147, 148, 149, 150, 151, 152, 153, 133, 134, 135, 136, 154, 155, 156, 157, 158, 159, 160, 161, 162, 163, 164, 142, 143, 144, 145, 146] (by decide +kernel) (by decide +kernel)
set_option maxRecDepth 20000 in
theorem gX5_anew_X5_totalOf : GoodIn wsX5_anew (wsV RX5 139 RX5 yX5_totalOf wsX5_totalOf) := goodIn_app (goodIn_of _ (by decide +kernel)) ggX5_anew_X5_totalOf
theorem dX5_anew_0 : decode cX5_anew 0 = .ok (.iload_n 1, 1) := by decide +kernel
theorem dX5_anew_1 : decode cX5_anew 1 = .ok (.invokestatic 108, 3) := by decide +kernel
theorem dX5_anew_4 : decode cX5_anew 4 = .ok (.ifCond .eq 10, 3) := by decide +kernel
theorem dX5_anew_7 : decode cX5_anew 7 = .ok (.iload_n 2, 1) := by decide +kernel
theorem dX5_anew_8 : decode cX5_anew 8 = .ok (.invokestatic 48, 3) := by decide +kernel
theorem dX5_anew_11 : decode cX5_anew 11 = .ok (.ifCond .ne 7, 3) := by decide +kernel
theorem dX5_anew_14 : decode cX5_anew 14 = .ok (.ldc2_w 69, 3) := by decide +kernel
theorem dX5_anew_17 : decode cX5_anew 17 = .ok (.lreturn, 1) := by decide +kernel
theorem dX5_anew_18 : decode cX5_anew 18 = .ok (.aload_n 0, 1) := by decide +kernel
theorem dX5_anew_19 : decode cX5_anew 19 = .ok (.iload_n 3, 1) := by decide +kernel
theorem dX5_anew_20 : decode cX5_anew 20 = .ok (.invokevirtual 113, 3) := by decide +kernel
theorem dX5_anew_23 : decode cX5_anew 23 = .ok (.ifCond .ne 7, 3) := by decide +kernel
theorem dX5_anew_26 : decode cX5_anew 26 = .ok (.ldc2_w 63, 3) := by decide +kernel
theorem dX5_anew_29 : decode cX5_anew 29 = .ok (.lreturn, 1) := by decide +kernel
theorem dX5_anew_30 : decode cX5_anew 30 = .ok (.aload_n 0, 1) := by decide +kernel
theorem dX5_anew_31 : decode cX5_anew 31 = .ok (.bipush (-9), 2) := by decide +kernel
theorem dX5_anew_33 : decode cX5_anew 33 = .ok (.iload_n 1, 1) := by decide +kernel
theorem dX5_anew_34 : decode cX5_anew 34 = .ok (.iload_n 2, 1) := by decide +kernel
theorem dX5_anew_35 : decode cX5_anew 35 = .ok (.new 123, 3) := by decide +kernel
theorem dX5_anew_38 : decode cX5_anew 38 = .ok (.dup, 1) := by decide +kernel
theorem dX5_anew_39 : decode cX5_anew 39 = .ok (.iload_n 3, 1) := by decide +kernel
theorem dX5_anew_40 : decode cX5_anew 40 = .ok (.iload 4, 2) := by decide +kernel
theorem dX5_anew_42 : decode cX5_anew 42 = .ok (.iload 5, 2) := by decide +kernel
theorem dX5_anew_44 : decode cX5_anew 44 = .ok (.iload 6, 2) := by decide +kernel
theorem dX5_anew_46 : decode cX5_anew 46 = .ok (.invokespecial 125, 3) := by decide +kernel
theorem dX5_anew_49 : decode cX5_anew 49 = .ok (.invokevirtual 139, 3) := by decide +kernel
theorem dX5_anew_52 : decode cX5_anew 52 = .ok (.lreturn, 1) := by decide +kernel
set_option maxRecDepth 20000 in
theorem ggX5_part_X5_isUnit : GoodIn wsX5_part wsX5_isUnit := goodIn_r _ [10, 11, 139, 140, 141, 142, 143] (by decide +kernel) (by decide +kernel)
set_option maxRecDepth 20000 in
theorem gX5_part_X5_isUnit : GoodIn wsX5_part (wsV RX5 41 RX5 yX5_isUnit wsX5_isUnit) := goodIn_app (goodIn_of _ (by decide +kernel)) ggX5_part_X5_isUnit
set_option maxRecDepth 20000 in
theorem ggX5_part_X5_isYear : GoodIn wsX5_part wsX5_isYear := goodIn_r _ [14] (by decide +kernel) (by decide +kernel)
set_option maxRecDepth 20000 in
theorem gX5_part_X5_isYear : GoodIn wsX5_part (va_wsS RX5 108 yX5_isYear wsX5_isYear) := goodIn_app (goodIn_of _ (by decide +kernel)) ggX5_part_X5_isYear
set_option maxRecDepth 20000 in
theorem ggX5_part_X5_isAsOf : GoodIn wsX5_part wsX5_isAsOf := goodIn_r _ [18, 19, 20, 139, 140, 141, 142, 143, 144, 145, 146, 147, 148] (by decide +kernel) (by decide +kernel)
set_option maxRecDepth 20000 in
theorem gX5_part_X5_isAsOf : GoodIn wsX5_part (wsV RX5 113 RX5 yX5_isAsOf wsX5_isAsOf) := goodIn_app (goodIn_of _ (by decide +kernel)) ggX5_part_X5_isAsOf
set_option maxRecDepth 20000 in
theorem ggX5_part_X4_init : GoodIn wsX5_part wsX4_init := goodIn_r _ [23, 24, 25, 26, 27, 28, 29, 30, 135, 136, 137, 138] (by decide +kernel) (by decide +kernel)
set_option maxRecDepth 20000 in
theorem gX5_part_X4_init : GoodIn wsX5_part (wsX4_init) := ggX5_part_X4_init
set_option maxRecDepth 20000 in
theorem ggX5_part_X5_totalOf : GoodIn wsX5_part wsX5_totalOf := goodIn_r _ [34, 35, 36, 37, 38, 39, 40, 41, 42, 43, 44, 45, 46, 47, 48, 49, 50, 51, 52, 53, 54, 55, 56, 57, 58, 59, 60, 61, 62, 63, 64, 65, 66, 67, 68, 69, 70, 71, 72, 73, 74, 75, 76, 77, 78, 79, 80, 81, 82, 83, 84, 85, 86, 87, 88, 89, 90, 91, 92, 93, 94, 95, 96, 97, 98, 9, 99, 100, 101, 102, 103, 104, 19, 105, 106, 107, 108, 109, 110, 111, 112, 113, 114, 115, 116, 117, 118, 119, 120, 121, 122, 123, 124, 125, 126, 127, 128, 129, 130, 131, 132, 133, 134, 139, 140, 141, 142, 143, 149, 150, 151, 152, 153, 154, 155, 135, 136, 137, 138, 156, 157, 158, 159, 160, 161, 162, 163, 164, 165, 166, 144, 145, 146, 147, 148] (by decide +kernel) (by decide +kernel)
set_option maxRecDepth 20000 in
theorem gX5_part_X5_totalOf : GoodIn wsX5_part (wsV RX5 139 RX5 yX5_totalOf wsX5_totalOf) := goodIn_app (goodIn_of _ (by decide +kernel)) ggX5_part_X5_totalOf
theorem dX5_part_0 : decode cX5_part 0 = .ok (.aload_n 0, 1) := by decide +kernel
theorem dX5_part_1 : decode cX5_part 1 = .ok (.iload_n 1, 1) := by decide +kernel
theorem dX5_part_2 : decode cX5_part 2 = .ok (.invokevirtual 41, 3) := by decide +kernel
theorem dX5_part_5 : decode cX5_part 5 = .ok (.ifCond .ne 7, 3) := by decide +kernel
theorem dX5_part_8 : decode cX5_part 8 = .ok (.ldc2_w 63, 3) := by decide +kernel
theorem dX5_part_11 : decode cX5_part 11 = .ok (.lreturn, 1) := by decide +kernel
theorem dX5_part_12 : decode cX5_part 12 = .ok (.iload_n 2, 1) := by decide +kernel
theorem dX5_part_13 : decode cX5_part 13 = .ok (.invokestatic 108, 3) := by decide +kernel
theorem dX5_part_16 : decode cX5_part 16 = .ok (.ifCond .ne 7, 3) := by decide +kernel
theorem dX5_part_19 : decode cX5_part 19 = .ok (.ldc2_w 69, 3) := by decide +kernel
theorem dX5_part_22 : decode cX5_part 22 = .ok (.lreturn, 1) := by decide +kernel
theorem dX5_part_23 : decode cX5_part 23 = .ok (.aload_n 0, 1) := by decide +kernel
theorem dX5_part_24 : decode cX5_part 24 = .ok (.iload_n 3, 1) := by decide +kernel
theorem dX5_part_25 : decode cX5_part 25 = .ok (.invokevirtual 113, 3) := by decide +kernel
theorem dX5_part_28 : decode cX5_part 28 = .ok (.ifCond .ne 7, 3) := by decide +kernel
theorem dX5_part_31 : decode cX5_part 31 = .ok (.ldc2_w 63, 3) := by decide +kernel
theorem dX5_part_34 : decode cX5_part 34 = .ok (.lreturn, 1) := by decide +kernel
theorem dX5_part_35 : decode cX5_part 35 = .ok (.aload_n 0, 1) := by decide +kernel
theorem dX5_part_36 : decode cX5_part 36 = .ok (.iload_n 1, 1) := by decide +kernel
theorem dX5_part_37 : decode cX5_part 37 = .ok (.iload_n 2, 1) := by decide +kernel
theorem dX5_part_38 : decode cX5_part 38 = .ok (.bipush (-9), 2) := by decide +kernel
theorem dX5_part_40 : decode cX5_part 40 = .ok (.new 123, 3) := by decide +kernel
theorem dX5_part_43 : decode cX5_part 43 = .ok (.dup, 1) := by decide +kernel
theorem dX5_part_44 : decode cX5_part 44 = .ok (.iload_n 3, 1) := by decide +kernel
theorem dX5_part_45 : decode cX5_part 45 = .ok (.iload 4, 2) := by decide +kernel
theorem dX5_part_47 : decode cX5_part 47 = .ok (.iload 5, 2) := by decide +kernel
theorem dX5_part_49 : decode cX5_part 49 = .ok (.iload 6, 2) := by decide +kernel
theorem dX5_part_51 : decode cX5_part 51 = .ok (.invokespecial 125, 3) := by decide +kernel
theorem dX5_part_54 : decode cX5_part 54 = .ok (.invokevirtual 139, 3) := by decide +kernel
theorem dX5_part_57 : decode cX5_part 57 = .ok (.lreturn, 1) := by decide +kernel
set_option maxRecDepth 20000 in
theorem ggX5_doubles_X5_isYear : GoodIn wsX5_doubles wsX5_isYear := goodIn_r _ [7] (by decide +kernel) (by decide +kernel)
set_option maxRecDepth 20000 in
theorem gX5_doubles_X5_isYear : GoodIn wsX5_doubles (va_wsS RX5 108 yX5_isYear wsX5_isYear) := goodIn_app (goodIn_of _ (by decide +kernel)) ggX5_doubles_X5_isYear
set_option maxRecDepth 20000 in
theorem ggX5_doubles_X2_isOfYear : GoodIn wsX5_doubles wsX2_isOfYear := goodIn_r _ [12, 13, 14, 15, 11, 16, 17, 74, 75, 76, 77, 78, 79, 80] (by decide +kernel) (by decide +kernel)
set_option maxRecDepth 20000 in
theorem gX5_doubles_X2_isOfYear : GoodIn wsX5_doubles (wsV RX5 143 RX2 yX2_isOfYear wsX2_isOfYear) := goodIn_app (goodIn_of _ (by decide +kernel)) ggX5_doubles_X2_isOfYear
set_option maxRecDepth 20000 in
theorem ggX5_doubles_X5_isDouble : GoodIn wsX5_doubles wsX5_isDouble := goodIn_r _ [21, 1, 22, 23, 24, 25, 26, 27, 28, 29, 30, 31, 32, 33, 34, 35, 36, 37, 38, 39, 40, 41, 42, 43, 44, 45, 46, 47, 48, 49, 50, 51, 52, 53, 54, 55, 56, 57, 58, 59, 60, 61, 62, 63, 64, 65, 66, 67, 68, 69, 70, 71, 72, 73, 74, 75, 76, 77, 78, 79, 80, 81, 82, 83, 84, 85, 86, 87, 88, 89, 90, 91] (by decide +kernel) (by decide +kernel)
set_option maxRecDepth 20000 in
theorem gX5_doubles_X5_isDouble : GoodIn wsX5_doubles (wsV RX5 102 RX5 yX5_isDouble wsX5_isDouble) := goodIn_app (goodIn_of _ (by decide +kernel)) ggX5_doubles_X5_isDouble
theorem dX5_doubles_0 : decode cX5_doubles 0 = .ok (.iload_n 1, 1) := by decide +kernel
theorem dX5_doubles_1 : decode cX5_doubles 1 = .ok (.invokestatic 108, 3) := by decide +kernel
theorem dX5_doubles_4 : decode cX5_doubles 4 = .ok (.ifCond .ne 6, 3) := by decide +kernel
theorem dX5_doubles_7 : decode cX5_doubles 7 = .ok (.bipush (-2), 2) := by decide +kernel
theorem dX5_doubles_9 : decode cX5_doubles 9 = .ok (.ireturn, 1) := by decide +kernel
theorem dX5_doubles_10 : decode cX5_doubles 10 = .ok (.iconst 0, 1) := by decide +kernel
theorem dX5_doubles_11 : decode cX5_doubles 11 = .ok (.istore_n 2, 1) := by decide +kernel
theorem dX5_doubles_12 : decode cX5_doubles 12 = .ok (.iconst 0, 1) := by decide +kernel
theorem dX5_doubles_13 : decode cX5_doubles 13 = .ok (.istore_n 3, 1) := by decide +kernel
theorem dX5_doubles_14 : decode cX5_doubles 14 = .ok (.iload_n 3, 1) := by decide +kernel
theorem dX5_doubles_15 : decode cX5_doubles 15 = .ok (.aload_n 0, 1) := by decide +kernel
theorem dX5_doubles_16 : decode cX5_doubles 16 = .ok (.getfield 19, 3) := by decide +kernel
theorem dX5_doubles_19 : decode cX5_doubles 19 = .ok (.getfield 132, 3) := by decide +kernel
theorem dX5_doubles_22 : decode cX5_doubles 22 = .ok (.if_icmp .ge 41, 3) := by decide +kernel
theorem dX5_doubles_25 : decode cX5_doubles 25 = .ok (.aload_n 0, 1) := by decide +kernel
theorem dX5_doubles_26 : decode cX5_doubles 26 = .ok (.getfield 19, 3) := by decide +kernel
theorem dX5_doubles_29 : decode cX5_doubles 29 = .ok (.iload_n 3, 1) := by decide +kernel
theorem dX5_doubles_30 : decode cX5_doubles 30 = .ok (.iload_n 1, 1) := by decide +kernel
theorem dX5_doubles_31 : decode cX5_doubles 31 = .ok (.invokevirtual 143, 3) := by decide +kernel
theorem dX5_doubles_34 : decode cX5_doubles 34 = .ok (.ifCond .eq 23, 3) := by decide +kernel
theorem dX5_doubles_37 : decode cX5_doubles 37 = .ok (.aload_n 0, 1) := by decide +kernel
theorem dX5_doubles_38 : decode cX5_doubles 38 = .ok (.iload_n 3, 1) := by decide +kernel
theorem dX5_doubles_39 : decode cX5_doubles 39 = .ok (.aload_n 0, 1) := by decide +kernel
theorem dX5_doubles_40 : decode cX5_doubles 40 = .ok (.getfield 19, 3) := by decide +kernel
theorem dX5_doubles_43 : decode cX5_doubles 43 = .ok (.getfield 96, 3) := by decide +kernel
theorem dX5_doubles_46 : decode cX5_doubles 46 = .ok (.iload_n 3, 1) := by decide +kernel
theorem dX5_doubles_47 : decode cX5_doubles 47 = .ok (.iaload, 1) := by decide +kernel
theorem dX5_doubles_48 : decode cX5_doubles 48 = .ok (.invokevirtual 102, 3) := by decide +kernel
theorem dX5_doubles_51 : decode cX5_doubles 51 = .ok (.ifCond .eq 6, 3) := by decide +kernel
theorem dX5_doubles_54 : decode cX5_doubles 54 = .ok (.iinc 2 1, 3) := by decide +kernel
theorem dX5_doubles_57 : decode cX5_doubles 57 = .ok (.iinc 3 1, 3) := by decide +kernel
theorem dX5_doubles_60 : decode cX5_doubles 60 = .ok (.goto (-46), 3) := by decide +kernel
theorem dX5_doubles_63 : decode cX5_doubles 63 = .ok (.iload_n 2, 1) := by decide +kernel
theorem dX5_doubles_64 : decode cX5_doubles 64 = .ok (.ireturn, 1) := by decide +kernel
set_option maxRecDepth 20000 in
theorem ggX5_onPath_X5_isYear : GoodIn wsX5_onPath wsX5_isYear := goodIn_r _ [9] (by decide +kernel) (by decide +kernel)
set_option maxRecDepth 20000 in
theorem gX5_onPath_X5_isYear : GoodIn wsX5_onPath (va_wsS RX5 108 yX5_isYear wsX5_isYear) := goodIn_app (goodIn_of _ (by decide +kernel)) ggX5_onPath_X5_isYear
set_option maxRecDepth 20000 in
theorem ggX5_onPath_X5_isHundredths : GoodIn wsX5_onPath wsX5_isHundredths := goodIn_r _ [12] (by decide +kernel) (by decide +kernel)
set_option maxRecDepth 20000 in
theorem gX5_onPath_X5_isHundredths : GoodIn wsX5_onPath (va_wsS RX5 45 yX5_isHundredths wsX5_isHundredths) := goodIn_app (goodIn_of _ (by decide +kernel)) ggX5_onPath_X5_isHundredths
set_option maxRecDepth 20000 in
theorem ggX5_onPath_X4_init : GoodIn wsX5_onPath wsX4_init := goodIn_r _ [15, 16, 17, 18, 19, 20, 21, 22, 130, 131, 132, 133] (by decide +kernel) (by decide +kernel)
set_option maxRecDepth 20000 in
theorem gX5_onPath_X4_init : GoodIn wsX5_onPath (wsX4_init) := ggX5_onPath_X4_init
set_option maxRecDepth 20000 in
theorem ggX5_onPath_X5_totalOf : GoodIn wsX5_onPath wsX5_totalOf := goodIn_r _ [26, 27, 28, 29, 30, 31, 32, 4, 33, 34, 35, 36, 37, 38, 39, 40, 41, 42, 43, 44, 45, 46, 47, 48, 49, 50, 51, 52, 53, 54, 55, 56, 57, 58, 59, 60, 61, 62, 63, 64, 65, 66, 67, 68, 69, 70, 71, 72, 73, 74, 75, 76, 77, 78, 79, 80, 81, 82, 83, 84, 85, 86, 87, 88, 89, 8, 90, 91, 92, 93, 94, 95, 96, 97, 98, 99, 100, 101, 102, 103, 104, 105, 106, 107, 108, 109, 110, 111, 112, 113, 114, 115, 116, 117, 118, 119, 120, 121, 122, 123, 124, 125, 126, 134, 135, 136, 137, 138, 139, 140, 141, 142, 143, 144, 145, 130, 131, 132, 133, 146, 147, 148, 149, 150, 151, 152, 153, 154, 155, 156, 157, 158, 159, 160, 161] (by decide +kernel) (by decide +kernel)
set_option maxRecDepth 20000 in
theorem gX5_onPath_X5_totalOf : GoodIn wsX5_onPath (wsV RX5 139 RX5 yX5_totalOf wsX5_totalOf) := goodIn_app (goodIn_of _ (by decide +kernel)) ggX5_onPath_X5_totalOf
set_option maxRecDepth 20000 in
theorem ggX5_onPath_X5_cutPart : GoodIn wsX5_onPath wsX5_cutPart := goodIn_r _ [129] (by decide +kernel) (by decide +kernel)
set_option maxRecDepth 20000 in
theorem gX5_onPath_X5_cutPart : GoodIn wsX5_onPath (va_wsS RX5 150 yX5_cutPart wsX5_cutPart) := goodIn_app (goodIn_of _ (by decide +kernel)) ggX5_onPath_X5_cutPart
theorem dX5_onPath_0 : decode cX5_onPath 0 = .ok (.iload_n 1, 1) := by decide +kernel
theorem dX5_onPath_1 : decode cX5_onPath 1 = .ok (.invokestatic 108, 3) := by decide +kernel
theorem dX5_onPath_4 : decode cX5_onPath 4 = .ok (.ifCond .eq 25, 3) := by decide +kernel
theorem dX5_onPath_7 : decode cX5_onPath 7 = .ok (.iload_n 2, 1) := by decide +kernel
theorem dX5_onPath_8 : decode cX5_onPath 8 = .ok (.invokestatic 108, 3) := by decide +kernel
theorem dX5_onPath_11 : decode cX5_onPath 11 = .ok (.ifCond .eq 18, 3) := by decide +kernel
theorem dX5_onPath_14 : decode cX5_onPath 14 = .ok (.iload_n 3, 1) := by decide +kernel
theorem dX5_onPath_15 : decode cX5_onPath 15 = .ok (.invokestatic 108, 3) := by decide +kernel
theorem dX5_onPath_18 : decode cX5_onPath 18 = .ok (.ifCond .eq 11, 3) := by decide +kernel
theorem dX5_onPath_21 : decode cX5_onPath 21 = .ok (.iload 4, 2) := by decide +kernel
theorem dX5_onPath_23 : decode cX5_onPath 23 = .ok (.invokestatic 45, 3) := by decide +kernel
theorem dX5_onPath_26 : decode cX5_onPath 26 = .ok (.ifCond .ne 6, 3) := by decide +kernel
theorem dX5_onPath_29 : decode cX5_onPath 29 = .ok (.bipush (-2), 2) := by decide +kernel
theorem dX5_onPath_31 : decode cX5_onPath 31 = .ok (.ireturn, 1) := by decide +kernel
theorem dX5_onPath_32 : decode cX5_onPath 32 = .ok (.iload_n 3, 1) := by decide +kernel
theorem dX5_onPath_33 : decode cX5_onPath 33 = .ok (.iload_n 2, 1) := by decide +kernel
theorem dX5_onPath_34 : decode cX5_onPath 34 = .ok (.if_icmp .le 13, 3) := by decide +kernel
theorem dX5_onPath_37 : decode cX5_onPath 37 = .ok (.iload_n 1, 1) := by decide +kernel
theorem dX5_onPath_38 : decode cX5_onPath 38 = .ok (.iload_n 2, 1) := by decide +kernel
theorem dX5_onPath_39 : decode cX5_onPath 39 = .ok (.if_icmp .lt 8, 3) := by decide +kernel
theorem dX5_onPath_42 : decode cX5_onPath 42 = .ok (.iload_n 1, 1) := by decide +kernel
theorem dX5_onPath_43 : decode cX5_onPath 43 = .ok (.iload_n 3, 1) := by decide +kernel
theorem dX5_onPath_44 : decode cX5_onPath 44 = .ok (.if_icmp .le 6, 3) := by decide +kernel
theorem dX5_onPath_47 : decode cX5_onPath 47 = .ok (.bipush (-2), 2) := by decide +kernel
theorem dX5_onPath_49 : decode cX5_onPath 49 = .ok (.ireturn, 1) := by decide +kernel
theorem dX5_onPath_50 : decode cX5_onPath 50 = .ok (.aload_n 0, 1) := by decide +kernel
theorem dX5_onPath_51 : decode cX5_onPath 51 = .ok (.bipush (-9), 2) := by decide +kernel
theorem dX5_onPath_53 : decode cX5_onPath 53 = .ok (.iload_n 1, 1) := by decide +kernel
theorem dX5_onPath_54 : decode cX5_onPath 54 = .ok (.bipush (-9), 2) := by decide +kernel
theorem dX5_onPath_56 : decode cX5_onPath 56 = .ok (.new 123, 3) := by decide +kernel
theorem dX5_onPath_59 : decode cX5_onPath 59 = .ok (.dup, 1) := by decide +kernel
theorem dX5_onPath_60 : decode cX5_onPath 60 = .ok (.bipush (-9), 2) := by decide +kernel
theorem dX5_onPath_62 : decode cX5_onPath 62 = .ok (.iconst 1, 1) := by decide +kernel
theorem dX5_onPath_63 : decode cX5_onPath 63 = .ok (.iconst 1, 1) := by decide +kernel
theorem dX5_onPath_64 : decode cX5_onPath 64 = .ok (.iconst 0, 1) := by decide +kernel
theorem dX5_onPath_65 : decode cX5_onPath 65 = .ok (.invokespecial 125, 3) := by decide +kernel
theorem dX5_onPath_68 : decode cX5_onPath 68 = .ok (.invokevirtual 139, 3) := by decide +kernel
theorem dX5_onPath_71 : decode cX5_onPath 71 = .ok (.lstore 5, 2) := by decide +kernel
theorem dX5_onPath_73 : decode cX5_onPath 73 = .ok (.aload_n 0, 1) := by decide +kernel
theorem dX5_onPath_74 : decode cX5_onPath 74 = .ok (.bipush (-9), 2) := by decide +kernel
theorem dX5_onPath_76 : decode cX5_onPath 76 = .ok (.iload_n 2, 1) := by decide +kernel
theorem dX5_onPath_77 : decode cX5_onPath 77 = .ok (.bipush (-9), 2) := by decide +kernel
theorem dX5_onPath_79 : decode cX5_onPath 79 = .ok (.new 123, 3) := by decide +kernel
theorem dX5_onPath_82 : decode cX5_onPath 82 = .ok (.dup, 1) := by decide +kernel
theorem dX5_onPath_83 : decode cX5_onPath 83 = .ok (.bipush (-9), 2) := by decide +kernel
theorem dX5_onPath_85 : decode cX5_onPath 85 = .ok (.iconst 1, 1) := by decide +kernel
theorem dX5_onPath_86 : decode cX5_onPath 86 = .ok (.iconst 1, 1) := by decide +kernel
theorem dX5_onPath_87 : decode cX5_onPath 87 = .ok (.iconst 1, 1) := by decide +kernel
theorem dX5_onPath_88 : decode cX5_onPath 88 = .ok (.invokespecial 125, 3) := by decide +kernel
theorem dX5_onPath_91 : decode cX5_onPath 91 = .ok (.invokevirtual 139, 3) := by decide +kernel
theorem dX5_onPath_94 : decode cX5_onPath 94 = .ok (.lstore 7, 2) := by decide +kernel
theorem dX5_onPath_96 : decode cX5_onPath 96 = .ok (.lload 5, 2) := by decide +kernel
theorem dX5_onPath_98 : decode cX5_onPath 98 = .ok (.ldc2_w 146, 3) := by decide +kernel
theorem dX5_onPath_101 : decode cX5_onPath 101 = .ok (.lcmp, 1) := by decide +kernel
theorem dX5_onPath_102 : decode cX5_onPath 102 = .ok (.ifCond .eq 12, 3) := by decide +kernel
theorem dX5_onPath_105 : decode cX5_onPath 105 = .ok (.lload 7, 2) := by decide +kernel
theorem dX5_onPath_107 : decode cX5_onPath 107 = .ok (.ldc2_w 146, 3) := by decide +kernel
theorem dX5_onPath_110 : decode cX5_onPath 110 = .ok (.lcmp, 1) := by decide +kernel
theorem dX5_onPath_111 : decode cX5_onPath 111 = .ok (.ifCond .ne 6, 3) := by decide +kernel
theorem dX5_onPath_114 : decode cX5_onPath 114 = .ok (.bipush (-9), 2) := by decide +kernel
theorem dX5_onPath_116 : decode cX5_onPath 116 = .ok (.ireturn, 1) := by decide +kernel
theorem dX5_onPath_117 : decode cX5_onPath 117 = .ok (.ldc2_w 148, 3) := by decide +kernel
theorem dX5_onPath_120 : decode cX5_onPath 120 = .ok (.iload_n 3, 1) := by decide +kernel
theorem dX5_onPath_121 : decode cX5_onPath 121 = .ok (.iload_n 2, 1) := by decide +kernel
theorem dX5_onPath_122 : decode cX5_onPath 122 = .ok (.isub, 1) := by decide +kernel
theorem dX5_onPath_123 : decode cX5_onPath 123 = .ok (.i2l, 1) := by decide +kernel
theorem dX5_onPath_124 : decode cX5_onPath 124 = .ok (.lmul, 1) := by decide +kernel
theorem dX5_onPath_125 : decode cX5_onPath 125 = .ok (.lstore 9, 2) := by decide +kernel
theorem dX5_onPath_127 : decode cX5_onPath 127 = .ok (.lload 9, 2) := by decide +kernel
theorem dX5_onPath_129 : decode cX5_onPath 129 = .ok (.iload 4, 2) := by decide +kernel
theorem dX5_onPath_131 : decode cX5_onPath 131 = .ok (.i2l, 1) := by decide +kernel
theorem dX5_onPath_132 : decode cX5_onPath 132 = .ok (.iload_n 1, 1) := by decide +kernel
theorem dX5_onPath_133 : decode cX5_onPath 133 = .ok (.iload_n 2, 1) := by decide +kernel
theorem dX5_onPath_134 : decode cX5_onPath 134 = .ok (.isub, 1) := by decide +kernel
theorem dX5_onPath_135 : decode cX5_onPath 135 = .ok (.i2l, 1) := by decide +kernel
theorem dX5_onPath_136 : decode cX5_onPath 136 = .ok (.lmul, 1) := by decide +kernel
theorem dX5_onPath_137 : decode cX5_onPath 137 = .ok (.lsub, 1) := by decide +kernel
theorem dX5_onPath_138 : decode cX5_onPath 138 = .ok (.lstore 11, 2) := by decide +kernel
theorem dX5_onPath_140 : decode cX5_onPath 140 = .ok (.lload 5, 2) := by decide +kernel
theorem dX5_onPath_142 : decode cX5_onPath 142 = .ok (.lload 7, 2) := by decide +kernel
theorem dX5_onPath_144 : decode cX5_onPath 144 = .ok (.lload 11, 2) := by decide +kernel
theorem dX5_onPath_146 : decode cX5_onPath 146 = .ok (.lload 9, 2) := by decide +kernel
theorem dX5_onPath_148 : decode cX5_onPath 148 = .ok (.invokestatic 150, 3) := by decide +kernel
theorem dX5_onPath_151 : decode cX5_onPath 151 = .ok (.lcmp, 1) := by decide +kernel
theorem dX5_onPath_152 : decode cX5_onPath 152 = .ok (.ifCond .gt 7, 3) := by decide +kernel
theorem dX5_onPath_155 : decode cX5_onPath 155 = .ok (.iconst 1, 1) := by decide +kernel
theorem dX5_onPath_156 : decode cX5_onPath 156 = .ok (.goto 4, 3) := by decide +kernel
theorem dX5_onPath_159 : decode cX5_onPath 159 = .ok (.iconst 0, 1) := by decide +kernel
theorem dX5_onPath_160 : decode cX5_onPath 160 = .ok (.ireturn, 1) := by decide +kernel
set_option maxRecDepth 20000 in
theorem ggX5_issue_X5_isUnit : GoodIn wsX5_issue wsX5_isUnit := goodIn_r _ [6, 7, 42, 43, 44, 45, 46] (by decide +kernel) (by decide +kernel)
set_option maxRecDepth 20000 in
theorem gX5_issue_X5_isUnit : GoodIn wsX5_issue (wsV RX5 41 RX5 yX5_isUnit wsX5_isUnit) := goodIn_app (goodIn_of _ (by decide +kernel)) ggX5_issue_X5_isUnit
set_option maxRecDepth 20000 in
theorem ggX5_issue_X3_add : GoodIn wsX5_issue wsX3_add := goodIn_r _ [12, 13, 14, 15, 16, 17, 18, 19, 11, 20, 21, 22, 23, 24, 25, 26, 27, 28, 29, 30, 31, 32, 33, 34, 35, 36, 37, 38, 39, 40, 41, 47, 48, 49, 50, 51] (by decide +kernel) (by decide +kernel)
set_option maxRecDepth 20000 in
theorem gX5_issue_X3_add : GoodIn wsX5_issue (wsV RX5 154 RX3 yX3_add wsX3_add) := goodIn_app (goodIn_of _ (by decide +kernel)) ggX5_issue_X3_add
theorem dX5_issue_0 : decode cX5_issue 0 = .ok (.aload_n 0, 1) := by decide +kernel
theorem dX5_issue_1 : decode cX5_issue 1 = .ok (.iload_n 1, 1) := by decide +kernel
theorem dX5_issue_2 : decode cX5_issue 2 = .ok (.invokevirtual 41, 3) := by decide +kernel
theorem dX5_issue_5 : decode cX5_issue 5 = .ok (.ifCond .ne 5, 3) := by decide +kernel
theorem dX5_issue_8 : decode cX5_issue 8 = .ok (.iconst (-1), 1) := by decide +kernel
theorem dX5_issue_9 : decode cX5_issue 9 = .ok (.ireturn, 1) := by decide +kernel
theorem dX5_issue_10 : decode cX5_issue 10 = .ok (.iload_n 2, 1) := by decide +kernel
theorem dX5_issue_11 : decode cX5_issue 11 = .ok (.iconst 1, 1) := by decide +kernel
theorem dX5_issue_12 : decode cX5_issue 12 = .ok (.if_icmp .lt 10, 3) := by decide +kernel
theorem dX5_issue_15 : decode cX5_issue 15 = .ok (.iload_n 2, 1) := by decide +kernel
theorem dX5_issue_16 : decode cX5_issue 16 = .ok (.sipush 20000, 3) := by decide +kernel
theorem dX5_issue_19 : decode cX5_issue 19 = .ok (.if_icmp .le 6, 3) := by decide +kernel
theorem dX5_issue_22 : decode cX5_issue 22 = .ok (.bipush (-2), 2) := by decide +kernel
theorem dX5_issue_24 : decode cX5_issue 24 = .ok (.ireturn, 1) := by decide +kernel
theorem dX5_issue_25 : decode cX5_issue 25 = .ok (.aload_n 0, 1) := by decide +kernel
theorem dX5_issue_26 : decode cX5_issue 26 = .ok (.getfield 33, 3) := by decide +kernel
theorem dX5_issue_29 : decode cX5_issue 29 = .ok (.iload_n 1, 1) := by decide +kernel
theorem dX5_issue_30 : decode cX5_issue 30 = .ok (.iload_n 2, 1) := by decide +kernel
theorem dX5_issue_31 : decode cX5_issue 31 = .ok (.invokevirtual 154, 3) := by decide +kernel
theorem dX5_issue_34 : decode cX5_issue 34 = .ok (.ireturn, 1) := by decide +kernel
set_option maxRecDepth 20000 in
theorem ggX5_move_X5_isUnit : GoodIn wsX5_move wsX5_isUnit := goodIn_r _ [6, 7, 78, 79, 80, 81, 82] (by decide +kernel) (by decide +kernel)
set_option maxRecDepth 20000 in
theorem gX5_move_X5_isUnit : GoodIn wsX5_move (wsV RX5 41 RX5 yX5_isUnit wsX5_isUnit) := goodIn_app (goodIn_of _ (by decide +kernel)) ggX5_move_X5_isUnit
set_option maxRecDepth 20000 in
theorem ggX5_move_X3_areIssued : GoodIn wsX5_move wsX3_areIssued := goodIn_r _ [12, 13, 83, 84, 85, 86, 87] (by decide +kernel) (by decide +kernel)
set_option maxRecDepth 20000 in
theorem gX5_move_X3_areIssued : GoodIn wsX5_move (wsV RX5 157 RX3 yX3_areIssued wsX3_areIssued) := goodIn_app (goodIn_of _ (by decide +kernel)) ggX5_move_X3_areIssued
set_option maxRecDepth 20000 in
theorem ggX5_move_X3_usedAmong : GoodIn wsX5_move wsX3_usedAmong := goodIn_r _ [17, 18, 19, 20, 21, 22, 11, 23, 24, 25, 26, 27, 28, 29, 30, 31, 32, 33, 34, 35, 13, 83, 84, 85, 86, 87] (by decide +kernel) (by decide +kernel)
set_option maxRecDepth 20000 in
theorem gX5_move_X3_usedAmong : GoodIn wsX5_move (wsV RX5 160 RX3 yX3_usedAmong wsX3_usedAmong) := goodIn_app (goodIn_of _ (by decide +kernel)) ggX5_move_X3_usedAmong
set_option maxRecDepth 20000 in
theorem ggX5_move_X3_ownedAmong : GoodIn wsX5_move wsX3_ownedAmong := goodIn_r _ [39, 18, 40, 20, 21, 22, 11, 23, 24, 25, 26, 27, 28, 29, 30, 31, 32, 33, 34, 35, 13, 83, 84, 85, 86, 87] (by decide +kernel) (by decide +kernel)
set_option maxRecDepth 20000 in
theorem gX5_move_X3_ownedAmong : GoodIn wsX5_move (wsV RX5 163 RX3 yX3_ownedAmong wsX3_ownedAmong) := goodIn_app (goodIn_of _ (by decide +kernel)) ggX5_move_X3_ownedAmong
set_option maxRecDepth 20000 in
theorem ggX5_move_X3_mark : GoodIn wsX5_move wsX3_mark := goodIn_r _ [44, 40, 19, 45, 46, 47, 11, 48, 13, 18, 28, 49, 50, 51, 52, 53, 54, 55, 56, 57, 58, 59, 60, 61, 62, 63, 64, 65, 66, 67, 68, 69, 70, 71, 72, 25, 26, 27, 73, 74, 75, 76, 77, 83, 84, 85, 86, 87] (by decide +kernel) (by decide +kernel)
set_option maxRecDepth 20000 in
theorem gX5_move_X3_mark : GoodIn wsX5_move (wsV RX5 166 RX3 yX3_mark wsX3_mark) := goodIn_app (goodIn_of _ (by decide +kernel)) ggX5_move_X3_mark
theorem dX5_move_0 : decode cX5_move 0 = .ok (.aload_n 0, 1) := by decide +kernel
theorem dX5_move_1 : decode cX5_move 1 = .ok (.iload_n 3, 1) := by decide +kernel
theorem dX5_move_2 : decode cX5_move 2 = .ok (.invokevirtual 41, 3) := by decide +kernel
theorem dX5_move_5 : decode cX5_move 5 = .ok (.ifCond .ne 5, 3) := by decide +kernel
theorem dX5_move_8 : decode cX5_move 8 = .ok (.iconst (-1), 1) := by decide +kernel
theorem dX5_move_9 : decode cX5_move 9 = .ok (.ireturn, 1) := by decide +kernel
theorem dX5_move_10 : decode cX5_move 10 = .ok (.iload_n 2, 1) := by decide +kernel
theorem dX5_move_11 : decode cX5_move 11 = .ok (.iconst 1, 1) := by decide +kernel
theorem dX5_move_12 : decode cX5_move 12 = .ok (.if_icmp .ge 6, 3) := by decide +kernel
theorem dX5_move_15 : decode cX5_move 15 = .ok (.bipush (-2), 2) := by decide +kernel
theorem dX5_move_17 : decode cX5_move 17 = .ok (.ireturn, 1) := by decide +kernel
theorem dX5_move_18 : decode cX5_move 18 = .ok (.aload_n 0, 1) := by decide +kernel
theorem dX5_move_19 : decode cX5_move 19 = .ok (.getfield 33, 3) := by decide +kernel
theorem dX5_move_22 : decode cX5_move 22 = .ok (.iload_n 1, 1) := by decide +kernel
theorem dX5_move_23 : decode cX5_move 23 = .ok (.iload_n 2, 1) := by decide +kernel
theorem dX5_move_24 : decode cX5_move 24 = .ok (.invokevirtual 157, 3) := by decide +kernel
theorem dX5_move_27 : decode cX5_move 27 = .ok (.ifCond .ne 5, 3) := by decide +kernel
theorem dX5_move_30 : decode cX5_move 30 = .ok (.iconst (-1), 1) := by decide +kernel
theorem dX5_move_31 : decode cX5_move 31 = .ok (.ireturn, 1) := by decide +kernel
theorem dX5_move_32 : decode cX5_move 32 = .ok (.aload_n 0, 1) := by decide +kernel
theorem dX5_move_33 : decode cX5_move 33 = .ok (.getfield 33, 3) := by decide +kernel
theorem dX5_move_36 : decode cX5_move 36 = .ok (.iload_n 1, 1) := by decide +kernel
theorem dX5_move_37 : decode cX5_move 37 = .ok (.iload_n 2, 1) := by decide +kernel
theorem dX5_move_38 : decode cX5_move 38 = .ok (.invokevirtual 160, 3) := by decide +kernel
theorem dX5_move_41 : decode cX5_move 41 = .ok (.ifCond .le 6, 3) := by decide +kernel
theorem dX5_move_44 : decode cX5_move 44 = .ok (.bipush (-3), 2) := by decide +kernel
theorem dX5_move_46 : decode cX5_move 46 = .ok (.ireturn, 1) := by decide +kernel
theorem dX5_move_47 : decode cX5_move 47 = .ok (.iload_n 2, 1) := by decide +kernel
theorem dX5_move_48 : decode cX5_move 48 = .ok (.aload_n 0, 1) := by decide +kernel
theorem dX5_move_49 : decode cX5_move 49 = .ok (.getfield 33, 3) := by decide +kernel
theorem dX5_move_52 : decode cX5_move 52 = .ok (.iload_n 1, 1) := by decide +kernel
theorem dX5_move_53 : decode cX5_move 53 = .ok (.iload_n 2, 1) := by decide +kernel
theorem dX5_move_54 : decode cX5_move 54 = .ok (.iload_n 3, 1) := by decide +kernel
theorem dX5_move_55 : decode cX5_move 55 = .ok (.invokevirtual 163, 3) := by decide +kernel
theorem dX5_move_58 : decode cX5_move 58 = .ok (.isub, 1) := by decide +kernel
theorem dX5_move_59 : decode cX5_move 59 = .ok (.istore 4, 2) := by decide +kernel
theorem dX5_move_61 : decode cX5_move 61 = .ok (.aload_n 0, 1) := by decide +kernel
theorem dX5_move_62 : decode cX5_move 62 = .ok (.getfield 33, 3) := by decide +kernel
theorem dX5_move_65 : decode cX5_move 65 = .ok (.iload_n 1, 1) := by decide +kernel
theorem dX5_move_66 : decode cX5_move 66 = .ok (.iload_n 2, 1) := by decide +kernel
theorem dX5_move_67 : decode cX5_move 67 = .ok (.iload_n 3, 1) := by decide +kernel
theorem dX5_move_68 : decode cX5_move 68 = .ok (.bipush (-9), 2) := by decide +kernel
theorem dX5_move_70 : decode cX5_move 70 = .ok (.invokevirtual 166, 3) := by decide +kernel
theorem dX5_move_73 : decode cX5_move 73 = .ok (.iload 4, 2) := by decide +kernel
theorem dX5_move_75 : decode cX5_move 75 = .ok (.ireturn, 1) := by decide +kernel
set_option maxRecDepth 20000 in
theorem ggX5_use_X5_isRow : GoodIn wsX5_use wsX5_isRow := goodIn_r _ [10, 2, 11, 89, 90, 91, 92, 93, 94, 95, 96, 97, 98, 99, 100] (by decide +kernel) (by decide +kernel)
set_option maxRecDepth 20000 in
theorem gX5_use_X5_isRow : GoodIn wsX5_use (wsV RX5 83 RX5 yX5_isRow wsX5_isRow) := goodIn_app (goodIn_of _ (by decide +kernel)) ggX5_use_X5_isRow
set_option maxRecDepth 20000 in
theorem ggX5_use_X3_areIssued : GoodIn wsX5_use wsX3_areIssued := goodIn_r _ [16, 17, 101, 102, 103, 104, 105] (by decide +kernel) (by decide +kernel)
set_option maxRecDepth 20000 in
theorem gX5_use_X3_areIssued : GoodIn wsX5_use (wsV RX5 157 RX3 yX3_areIssued wsX3_areIssued) := goodIn_app (goodIn_of _ (by decide +kernel)) ggX5_use_X3_areIssued
set_option maxRecDepth 20000 in
theorem ggX5_use_X3_usedAmong : GoodIn wsX5_use wsX3_usedAmong := goodIn_r _ [21, 22, 23, 24, 25, 26, 15, 27, 28, 29, 30, 31, 32, 33, 34, 35, 36, 37, 38, 39, 17, 101, 102, 103, 104, 105] (by decide +kernel) (by decide +kernel)
set_option maxRecDepth 20000 in
theorem gX5_use_X3_usedAmong : GoodIn wsX5_use (wsV RX5 160 RX3 yX3_usedAmong wsX3_usedAmong) := goodIn_app (goodIn_of _ (by decide +kernel)) ggX5_use_X3_usedAmong
set_option maxRecDepth 20000 in
theorem ggX5_use_X3_ownedAmong : GoodIn wsX5_use wsX3_ownedAmong := goodIn_r _ [43, 22, 44, 24, 25, 26, 15, 27, 28, 29, 30, 31, 32, 33, 34, 35, 36, 37, 38, 39, 17, 101, 102, 103, 104, 105] (by decide +kernel) (by decide +kernel)
set_option maxRecDepth 20000 in
theorem gX5_use_X3_ownedAmong : GoodIn wsX5_use (wsV RX5 163 RX3 yX3_ownedAmong wsX3_ownedAmong) := goodIn_app (goodIn_of _ (by decide +kernel)) ggX5_use_X3_ownedAmong
set_option maxRecDepth 20000 in
theorem ggX5_use_X2_uncovered : GoodIn wsX5_use wsX2_uncovered := goodIn_r _ [49, 50, 51, 94, 95, 96, 97, 98, 99, 100] (by decide +kernel) (by decide +kernel)
set_option maxRecDepth 20000 in
theorem gX5_use_X2_uncovered : GoodIn wsX5_use (wsV RX5 170 RX2 yX2_uncovered wsX2_uncovered) := goodIn_app (goodIn_of _ (by decide +kernel)) ggX5_use_X2_uncovered
set_option maxRecDepth 20000 in
theorem ggX5_use_X3_mark : GoodIn wsX5_use wsX3_mark := goodIn_r _ [55, 44, 23, 56, 57, 58, 15, 59, 17, 22, 32, 60, 61, 62, 63, 64, 65, 66, 67, 68, 69, 70, 71, 72, 73, 74, 75, 76, 77, 78, 79, 80, 81, 82, 83, 29, 30, 31, 84, 85, 86, 87, 88, 101, 102, 103, 104, 105] (by decide +kernel) (by decide +kernel)
set_option maxRecDepth 20000 in
theorem gX5_use_X3_mark : GoodIn wsX5_use (wsV RX5 166 RX3 yX3_mark wsX3_mark) := goodIn_app (goodIn_of _ (by decide +kernel)) ggX5_use_X3_mark
theorem dX5_use_0 : decode cX5_use 0 = .ok (.aload_n 0, 1) := by decide +kernel
theorem dX5_use_1 : decode cX5_use 1 = .ok (.iload_n 3, 1) := by decide +kernel
theorem dX5_use_2 : decode cX5_use 2 = .ok (.invokevirtual 83, 3) := by decide +kernel
theorem dX5_use_5 : decode cX5_use 5 = .ok (.ifCond .ne 5, 3) := by decide +kernel
theorem dX5_use_8 : decode cX5_use 8 = .ok (.iconst (-1), 1) := by decide +kernel
theorem dX5_use_9 : decode cX5_use 9 = .ok (.ireturn, 1) := by decide +kernel
theorem dX5_use_10 : decode cX5_use 10 = .ok (.iload_n 2, 1) := by decide +kernel
theorem dX5_use_11 : decode cX5_use 11 = .ok (.iconst 1, 1) := by decide +kernel
theorem dX5_use_12 : decode cX5_use 12 = .ok (.if_icmp .ge 6, 3) := by decide +kernel
theorem dX5_use_15 : decode cX5_use 15 = .ok (.bipush (-2), 2) := by decide +kernel
theorem dX5_use_17 : decode cX5_use 17 = .ok (.ireturn, 1) := by decide +kernel
theorem dX5_use_18 : decode cX5_use 18 = .ok (.aload_n 0, 1) := by decide +kernel
theorem dX5_use_19 : decode cX5_use 19 = .ok (.getfield 33, 3) := by decide +kernel
theorem dX5_use_22 : decode cX5_use 22 = .ok (.iload_n 1, 1) := by decide +kernel
theorem dX5_use_23 : decode cX5_use 23 = .ok (.iload_n 2, 1) := by decide +kernel
theorem dX5_use_24 : decode cX5_use 24 = .ok (.invokevirtual 157, 3) := by decide +kernel
theorem dX5_use_27 : decode cX5_use 27 = .ok (.ifCond .ne 5, 3) := by decide +kernel
theorem dX5_use_30 : decode cX5_use 30 = .ok (.iconst (-1), 1) := by decide +kernel
theorem dX5_use_31 : decode cX5_use 31 = .ok (.ireturn, 1) := by decide +kernel
theorem dX5_use_32 : decode cX5_use 32 = .ok (.aload_n 0, 1) := by decide +kernel
theorem dX5_use_33 : decode cX5_use 33 = .ok (.getfield 19, 3) := by decide +kernel
theorem dX5_use_36 : decode cX5_use 36 = .ok (.getfield 86, 3) := by decide +kernel
theorem dX5_use_39 : decode cX5_use 39 = .ok (.iload_n 3, 1) := by decide +kernel
theorem dX5_use_40 : decode cX5_use 40 = .ok (.iaload, 1) := by decide +kernel
theorem dX5_use_41 : decode cX5_use 41 = .ok (.istore 4, 2) := by decide +kernel
theorem dX5_use_43 : decode cX5_use 43 = .ok (.aload_n 0, 1) := by decide +kernel
theorem dX5_use_44 : decode cX5_use 44 = .ok (.getfield 33, 3) := by decide +kernel
theorem dX5_use_47 : decode cX5_use 47 = .ok (.iload_n 1, 1) := by decide +kernel
theorem dX5_use_48 : decode cX5_use 48 = .ok (.iload_n 2, 1) := by decide +kernel
theorem dX5_use_49 : decode cX5_use 49 = .ok (.invokevirtual 160, 3) := by decide +kernel
theorem dX5_use_52 : decode cX5_use 52 = .ok (.ifCond .gt 31, 3) := by decide +kernel
theorem dX5_use_55 : decode cX5_use 55 = .ok (.aload_n 0, 1) := by decide +kernel
theorem dX5_use_56 : decode cX5_use 56 = .ok (.getfield 19, 3) := by decide +kernel
theorem dX5_use_59 : decode cX5_use 59 = .ok (.getfield 90, 3) := by decide +kernel
theorem dX5_use_62 : decode cX5_use 62 = .ok (.iload_n 3, 1) := by decide +kernel
theorem dX5_use_63 : decode cX5_use 63 = .ok (.iaload, 1) := by decide +kernel
theorem dX5_use_64 : decode cX5_use 64 = .ok (.iconst 1, 1) := by decide +kernel
theorem dX5_use_65 : decode cX5_use 65 = .ok (.if_icmp .ne 18, 3) := by decide +kernel
theorem dX5_use_68 : decode cX5_use 68 = .ok (.aload_n 0, 1) := by decide +kernel
theorem dX5_use_69 : decode cX5_use 69 = .ok (.getfield 33, 3) := by decide +kernel
theorem dX5_use_72 : decode cX5_use 72 = .ok (.iload_n 1, 1) := by decide +kernel
theorem dX5_use_73 : decode cX5_use 73 = .ok (.iload_n 2, 1) := by decide +kernel
theorem dX5_use_74 : decode cX5_use 74 = .ok (.iload 4, 2) := by decide +kernel
theorem dX5_use_76 : decode cX5_use 76 = .ok (.invokevirtual 163, 3) := by decide +kernel
theorem dX5_use_79 : decode cX5_use 79 = .ok (.iload_n 2, 1) := by decide +kernel
theorem dX5_use_80 : decode cX5_use 80 = .ok (.if_icmp .ge 6, 3) := by decide +kernel
theorem dX5_use_83 : decode cX5_use 83 = .ok (.bipush (-3), 2) := by decide +kernel
theorem dX5_use_85 : decode cX5_use 85 = .ok (.ireturn, 1) := by decide +kernel
theorem dX5_use_86 : decode cX5_use 86 = .ok (.iload_n 2, 1) := by decide +kernel
theorem dX5_use_87 : decode cX5_use 87 = .ok (.aload_n 0, 1) := by decide +kernel
theorem dX5_use_88 : decode cX5_use 88 = .ok (.getfield 19, 3) := by decide +kernel
theorem dX5_use_91 : decode cX5_use 91 = .ok (.iload_n 3, 1) := by decide +kernel
theorem dX5_use_92 : decode cX5_use 92 = .ok (.invokevirtual 170, 3) := by decide +kernel
theorem dX5_use_95 : decode cX5_use 95 = .ok (.if_icmp .le 6, 3) := by decide +kernel
theorem dX5_use_98 : decode cX5_use 98 = .ok (.bipush (-4), 2) := by decide +kernel
theorem dX5_use_100 : decode cX5_use 100 = .ok (.ireturn, 1) := by decide +kernel
theorem dX5_use_101 : decode cX5_use 101 = .ok (.aload_n 0, 1) := by decide +kernel
theorem dX5_use_102 : decode cX5_use 102 = .ok (.getfield 33, 3) := by decide +kernel
theorem dX5_use_105 : decode cX5_use 105 = .ok (.iload_n 1, 1) := by decide +kernel
theorem dX5_use_106 : decode cX5_use 106 = .ok (.iload_n 2, 1) := by decide +kernel
theorem dX5_use_107 : decode cX5_use 107 = .ok (.iload 4, 2) := by decide +kernel
theorem dX5_use_109 : decode cX5_use 109 = .ok (.iload_n 3, 1) := by decide +kernel
theorem dX5_use_110 : decode cX5_use 110 = .ok (.invokevirtual 166, 3) := by decide +kernel
theorem dX5_use_113 : decode cX5_use 113 = .ok (.aload_n 0, 1) := by decide +kernel
theorem dX5_use_114 : decode cX5_use 114 = .ok (.getfield 19, 3) := by decide +kernel
theorem dX5_use_117 : decode cX5_use 117 = .ok (.getfield 105, 3) := by decide +kernel
theorem dX5_use_120 : decode cX5_use 120 = .ok (.iload_n 3, 1) := by decide +kernel
theorem dX5_use_121 : decode cX5_use 121 = .ok (.dup2, 1) := by decide +kernel
theorem dX5_use_122 : decode cX5_use 122 = .ok (.iaload, 1) := by decide +kernel
theorem dX5_use_123 : decode cX5_use 123 = .ok (.iload_n 2, 1) := by decide +kernel
theorem dX5_use_124 : decode cX5_use 124 = .ok (.iadd, 1) := by decide +kernel
theorem dX5_use_125 : decode cX5_use 125 = .ok (.iastore, 1) := by decide +kernel
theorem dX5_use_126 : decode cX5_use 126 = .ok (.aload_n 0, 1) := by decide +kernel
theorem dX5_use_127 : decode cX5_use 127 = .ok (.getfield 19, 3) := by decide +kernel
theorem dX5_use_130 : decode cX5_use 130 = .ok (.getfield 105, 3) := by decide +kernel
theorem dX5_use_133 : decode cX5_use 133 = .ok (.iload_n 3, 1) := by decide +kernel
theorem dX5_use_134 : decode cX5_use 134 = .ok (.iaload, 1) := by decide +kernel
theorem dX5_use_135 : decode cX5_use 135 = .ok (.ireturn, 1) := by decide +kernel
set_option maxRecDepth 20000 in
theorem ggX5_owner_X3_areIssued : GoodIn wsX5_owner wsX3_areIssued := goodIn_r _ [7, 8, 20, 21, 22, 23, 24] (by decide +kernel) (by decide +kernel)
set_option maxRecDepth 20000 in
theorem gX5_owner_X3_areIssued : GoodIn wsX5_owner (wsV RX5 157 RX3 yX3_areIssued wsX3_areIssued) := goodIn_app (goodIn_of _ (by decide +kernel)) ggX5_owner_X3_areIssued
set_option maxRecDepth 20000 in
theorem ggX5_owner_X3_runWith : GoodIn wsX5_owner wsX3_runWith := goodIn_r _ [12, 13, 14, 20, 21, 22, 23, 24] (by decide +kernel) (by decide +kernel)
set_option maxRecDepth 20000 in
theorem gX5_owner_X3_runWith : GoodIn wsX5_owner (wsV RX5 177 RX3 yX3_runWith wsX3_runWith) := goodIn_app (goodIn_of _ (by decide +kernel)) ggX5_owner_X3_runWith
theorem dX5_owner_0 : decode cX5_owner 0 = .ok (.aload_n 0, 1) := by decide +kernel
theorem dX5_owner_1 : decode cX5_owner 1 = .ok (.getfield 33, 3) := by decide +kernel
theorem dX5_owner_4 : decode cX5_owner 4 = .ok (.iload_n 1, 1) := by decide +kernel
theorem dX5_owner_5 : decode cX5_owner 5 = .ok (.iconst 1, 1) := by decide +kernel
theorem dX5_owner_6 : decode cX5_owner 6 = .ok (.invokevirtual 157, 3) := by decide +kernel
theorem dX5_owner_9 : decode cX5_owner 9 = .ok (.ifCond .eq 22, 3) := by decide +kernel
theorem dX5_owner_12 : decode cX5_owner 12 = .ok (.aload_n 0, 1) := by decide +kernel
theorem dX5_owner_13 : decode cX5_owner 13 = .ok (.getfield 33, 3) := by decide +kernel
theorem dX5_owner_16 : decode cX5_owner 16 = .ok (.getfield 174, 3) := by decide +kernel
theorem dX5_owner_19 : decode cX5_owner 19 = .ok (.aload_n 0, 1) := by decide +kernel
theorem dX5_owner_20 : decode cX5_owner 20 = .ok (.getfield 33, 3) := by decide +kernel
theorem dX5_owner_23 : decode cX5_owner 23 = .ok (.iload_n 1, 1) := by decide +kernel
theorem dX5_owner_24 : decode cX5_owner 24 = .ok (.invokevirtual 177, 3) := by decide +kernel
theorem dX5_owner_27 : decode cX5_owner 27 = .ok (.iaload, 1) := by decide +kernel
theorem dX5_owner_28 : decode cX5_owner 28 = .ok (.goto 4, 3) := by decide +kernel
theorem dX5_owner_31 : decode cX5_owner 31 = .ok (.iconst (-1), 1) := by decide +kernel
theorem dX5_owner_32 : decode cX5_owner 32 = .ok (.ireturn, 1) := by decide +kernel
set_option maxRecDepth 20000 in
theorem ggX5_usedFor_X3_areIssued : GoodIn wsX5_usedFor wsX3_areIssued := goodIn_r _ [7, 8, 20, 21, 22, 23, 24] (by decide +kernel) (by decide +kernel)
set_option maxRecDepth 20000 in
theorem gX5_usedFor_X3_areIssued : GoodIn wsX5_usedFor (wsV RX5 157 RX3 yX3_areIssued wsX3_areIssued) := goodIn_app (goodIn_of _ (by decide +kernel)) ggX5_usedFor_X3_areIssued
set_option maxRecDepth 20000 in
theorem ggX5_usedFor_X3_runWith : GoodIn wsX5_usedFor wsX3_runWith := goodIn_r _ [12, 13, 14, 20, 21, 22, 23, 24] (by decide +kernel) (by decide +kernel)
set_option maxRecDepth 20000 in
theorem gX5_usedFor_X3_runWith : GoodIn wsX5_usedFor (wsV RX5 177 RX3 yX3_runWith wsX3_runWith) := goodIn_app (goodIn_of _ (by decide +kernel)) ggX5_usedFor_X3_runWith
theorem dX5_usedFor_0 : decode cX5_usedFor 0 = .ok (.aload_n 0, 1) := by decide +kernel
theorem dX5_usedFor_1 : decode cX5_usedFor 1 = .ok (.getfield 33, 3) := by decide +kernel
theorem dX5_usedFor_4 : decode cX5_usedFor 4 = .ok (.iload_n 1, 1) := by decide +kernel
theorem dX5_usedFor_5 : decode cX5_usedFor 5 = .ok (.iconst 1, 1) := by decide +kernel
theorem dX5_usedFor_6 : decode cX5_usedFor 6 = .ok (.invokevirtual 157, 3) := by decide +kernel
theorem dX5_usedFor_9 : decode cX5_usedFor 9 = .ok (.ifCond .eq 22, 3) := by decide +kernel
theorem dX5_usedFor_12 : decode cX5_usedFor 12 = .ok (.aload_n 0, 1) := by decide +kernel
theorem dX5_usedFor_13 : decode cX5_usedFor 13 = .ok (.getfield 33, 3) := by decide +kernel
theorem dX5_usedFor_16 : decode cX5_usedFor 16 = .ok (.getfield 180, 3) := by decide +kernel
theorem dX5_usedFor_19 : decode cX5_usedFor 19 = .ok (.aload_n 0, 1) := by decide +kernel
theorem dX5_usedFor_20 : decode cX5_usedFor 20 = .ok (.getfield 33, 3) := by decide +kernel
theorem dX5_usedFor_23 : decode cX5_usedFor 23 = .ok (.iload_n 1, 1) := by decide +kernel
theorem dX5_usedFor_24 : decode cX5_usedFor 24 = .ok (.invokevirtual 177, 3) := by decide +kernel
theorem dX5_usedFor_27 : decode cX5_usedFor 27 = .ok (.iaload, 1) := by decide +kernel
theorem dX5_usedFor_28 : decode cX5_usedFor 28 = .ok (.goto 4, 3) := by decide +kernel
theorem dX5_usedFor_31 : decode cX5_usedFor 31 = .ok (.iconst (-1), 1) := by decide +kernel
theorem dX5_usedFor_32 : decode cX5_usedFor 32 = .ok (.ireturn, 1) := by decide +kernel
set_option maxRecDepth 20000 in
theorem ggX5_free_X5_isUnit : GoodIn wsX5_free wsX5_isUnit := goodIn_r _ [6, 7, 26, 27, 28, 29, 30] (by decide +kernel) (by decide +kernel)
set_option maxRecDepth 20000 in
theorem gX5_free_X5_isUnit : GoodIn wsX5_free (wsV RX5 41 RX5 yX5_isUnit wsX5_isUnit) := goodIn_app (goodIn_of _ (by decide +kernel)) ggX5_free_X5_isUnit
set_option maxRecDepth 20000 in
theorem ggX5_free_X3_unusedOf : GoodIn wsX5_free wsX3_unusedOf := goodIn_r _ [12, 13, 14, 15, 16, 17, 18, 11, 19, 20, 21, 22, 23, 24, 25, 31, 32, 33, 34, 35] (by decide +kernel) (by decide +kernel)
set_option maxRecDepth 20000 in
theorem gX5_free_X3_unusedOf : GoodIn wsX5_free (wsV RX5 183 RX3 yX3_unusedOf wsX3_unusedOf) := goodIn_app (goodIn_of _ (by decide +kernel)) ggX5_free_X3_unusedOf
theorem dX5_free_0 : decode cX5_free 0 = .ok (.aload_n 0, 1) := by decide +kernel
theorem dX5_free_1 : decode cX5_free 1 = .ok (.iload_n 1, 1) := by decide +kernel
theorem dX5_free_2 : decode cX5_free 2 = .ok (.invokevirtual 41, 3) := by decide +kernel
theorem dX5_free_5 : decode cX5_free 5 = .ok (.ifCond .eq 14, 3) := by decide +kernel
theorem dX5_free_8 : decode cX5_free 8 = .ok (.aload_n 0, 1) := by decide +kernel
theorem dX5_free_9 : decode cX5_free 9 = .ok (.getfield 33, 3) := by decide +kernel
theorem dX5_free_12 : decode cX5_free 12 = .ok (.iload_n 1, 1) := by decide +kernel
theorem dX5_free_13 : decode cX5_free 13 = .ok (.invokevirtual 183, 3) := by decide +kernel
theorem dX5_free_16 : decode cX5_free 16 = .ok (.goto 4, 3) := by decide +kernel
theorem dX5_free_19 : decode cX5_free 19 = .ok (.iconst (-1), 1) := by decide +kernel
theorem dX5_free_20 : decode cX5_free 20 = .ok (.ireturn, 1) := by decide +kernel
theorem dX5_runs_0 : decode cX5_runs 0 = .ok (.aload_n 0, 1) := by decide +kernel
theorem dX5_runs_1 : decode cX5_runs 1 = .ok (.getfield 33, 3) := by decide +kernel
theorem dX5_runs_4 : decode cX5_runs 4 = .ok (.getfield 186, 3) := by decide +kernel
theorem dX5_runs_7 : decode cX5_runs 7 = .ok (.ireturn, 1) := by decide +kernel
set_option maxRecDepth 20000 in
theorem ggX5_run_X3_lengthOf : GoodIn wsX5_run wsX3_lengthOf := goodIn_r _ [10, 11, 12, 13, 14, 9, 15, 16, 17, 23, 24, 25, 26, 27] (by decide +kernel) (by decide +kernel)
set_option maxRecDepth 20000 in
theorem gX5_run_X3_lengthOf : GoodIn wsX5_run (wsV RX5 190 RX3 yX3_lengthOf wsX3_lengthOf) := goodIn_app (goodIn_of _ (by decide +kernel)) ggX5_run_X3_lengthOf
theorem dX5_run_0 : decode cX5_run 0 = .ok (.iload_n 1, 1) := by decide +kernel
theorem dX5_run_1 : decode cX5_run 1 = .ok (.ifCond .lt 14, 3) := by decide +kernel
theorem dX5_run_4 : decode cX5_run 4 = .ok (.iload_n 1, 1) := by decide +kernel
theorem dX5_run_5 : decode cX5_run 5 = .ok (.aload_n 0, 1) := by decide +kernel
theorem dX5_run_6 : decode cX5_run 6 = .ok (.getfield 33, 3) := by decide +kernel
theorem dX5_run_9 : decode cX5_run 9 = .ok (.getfield 186, 3) := by decide +kernel
theorem dX5_run_12 : decode cX5_run 12 = .ok (.if_icmp .lt 5, 3) := by decide +kernel
theorem dX5_run_15 : decode cX5_run 15 = .ok (.iconst (-1), 1) := by decide +kernel
theorem dX5_run_16 : decode cX5_run 16 = .ok (.ireturn, 1) := by decide +kernel
theorem dX5_run_17 : decode cX5_run 17 = .ok (.iload_n 2, 1) := by decide +kernel
theorem dX5_run_18 : decode cX5_run 18 = .ok (.tableswitch 69 0 3 #[30, 40, 49, 59], 30) := by decide +kernel
theorem dX5_run_48 : decode cX5_run 48 = .ok (.aload_n 0, 1) := by decide +kernel
theorem dX5_run_49 : decode cX5_run 49 = .ok (.getfield 33, 3) := by decide +kernel
theorem dX5_run_52 : decode cX5_run 52 = .ok (.getfield 187, 3) := by decide +kernel
theorem dX5_run_55 : decode cX5_run 55 = .ok (.iload_n 1, 1) := by decide +kernel
theorem dX5_run_56 : decode cX5_run 56 = .ok (.iaload, 1) := by decide +kernel
theorem dX5_run_57 : decode cX5_run 57 = .ok (.ireturn, 1) := by decide +kernel
theorem dX5_run_58 : decode cX5_run 58 = .ok (.aload_n 0, 1) := by decide +kernel
theorem dX5_run_59 : decode cX5_run 59 = .ok (.getfield 33, 3) := by decide +kernel
theorem dX5_run_62 : decode cX5_run 62 = .ok (.iload_n 1, 1) := by decide +kernel
theorem dX5_run_63 : decode cX5_run 63 = .ok (.invokevirtual 190, 3) := by decide +kernel
theorem dX5_run_66 : decode cX5_run 66 = .ok (.ireturn, 1) := by decide +kernel
theorem dX5_run_67 : decode cX5_run 67 = .ok (.aload_n 0, 1) := by decide +kernel
theorem dX5_run_68 : decode cX5_run 68 = .ok (.getfield 33, 3) := by decide +kernel
theorem dX5_run_71 : decode cX5_run 71 = .ok (.getfield 174, 3) := by decide +kernel
theorem dX5_run_74 : decode cX5_run 74 = .ok (.iload_n 1, 1) := by decide +kernel
theorem dX5_run_75 : decode cX5_run 75 = .ok (.iaload, 1) := by decide +kernel
theorem dX5_run_76 : decode cX5_run 76 = .ok (.ireturn, 1) := by decide +kernel
theorem dX5_run_77 : decode cX5_run 77 = .ok (.aload_n 0, 1) := by decide +kernel
theorem dX5_run_78 : decode cX5_run 78 = .ok (.getfield 33, 3) := by decide +kernel
theorem dX5_run_81 : decode cX5_run 81 = .ok (.getfield 180, 3) := by decide +kernel
theorem dX5_run_84 : decode cX5_run 84 = .ok (.iload_n 1, 1) := by decide +kernel
theorem dX5_run_85 : decode cX5_run 85 = .ok (.iaload, 1) := by decide +kernel
theorem dX5_run_86 : decode cX5_run 86 = .ok (.ireturn, 1) := by decide +kernel
theorem dX5_run_87 : decode cX5_run 87 = .ok (.bipush (-2), 2) := by decide +kernel
theorem dX5_run_89 : decode cX5_run 89 = .ok (.ireturn, 1) := by decide +kernel
theorem dX5_count_0 : decode cX5_count 0 = .ok (.iload_n 1, 1) := by decide +kernel
theorem dX5_count_1 : decode cX5_count 1 = .ok (.tableswitch 72 0 4 #[35, 40, 48, 56, 64], 35) := by decide +kernel
theorem dX5_count_36 : decode cX5_count 36 = .ok (.aload_n 0, 1) := by decide +kernel
theorem dX5_count_37 : decode cX5_count 37 = .ok (.getfield 37, 3) := by decide +kernel
theorem dX5_count_40 : decode cX5_count 40 = .ok (.ireturn, 1) := by decide +kernel
theorem dX5_count_41 : decode cX5_count 41 = .ok (.aload_n 0, 1) := by decide +kernel
theorem dX5_count_42 : decode cX5_count 42 = .ok (.getfield 19, 3) := by decide +kernel
theorem dX5_count_45 : decode cX5_count 45 = .ok (.getfield 132, 3) := by decide +kernel
theorem dX5_count_48 : decode cX5_count 48 = .ok (.ireturn, 1) := by decide +kernel
theorem dX5_count_49 : decode cX5_count 49 = .ok (.aload_n 0, 1) := by decide +kernel
theorem dX5_count_50 : decode cX5_count 50 = .ok (.getfield 26, 3) := by decide +kernel
theorem dX5_count_53 : decode cX5_count 53 = .ok (.getfield 193, 3) := by decide +kernel
theorem dX5_count_56 : decode cX5_count 56 = .ok (.ireturn, 1) := by decide +kernel
theorem dX5_count_57 : decode cX5_count 57 = .ok (.aload_n 0, 1) := by decide +kernel
theorem dX5_count_58 : decode cX5_count 58 = .ok (.getfield 33, 3) := by decide +kernel
theorem dX5_count_61 : decode cX5_count 61 = .ok (.getfield 194, 3) := by decide +kernel
theorem dX5_count_64 : decode cX5_count 64 = .ok (.ireturn, 1) := by decide +kernel
theorem dX5_count_65 : decode cX5_count 65 = .ok (.aload_n 0, 1) := by decide +kernel
theorem dX5_count_66 : decode cX5_count 66 = .ok (.getfield 10, 3) := by decide +kernel
theorem dX5_count_69 : decode cX5_count 69 = .ok (.getfield 197, 3) := by decide +kernel
theorem dX5_count_72 : decode cX5_count 72 = .ok (.ireturn, 1) := by decide +kernel
theorem dX5_count_73 : decode cX5_count 73 = .ok (.bipush (-2), 2) := by decide +kernel
theorem dX5_count_75 : decode cX5_count 75 = .ok (.ireturn, 1) := by decide +kernel
theorem dX5_isUnit_0 : decode cX5_isUnit 0 = .ok (.iload_n 1, 1) := by decide +kernel
theorem dX5_isUnit_1 : decode cX5_isUnit 1 = .ok (.ifCond .lt 15, 3) := by decide +kernel
theorem dX5_isUnit_4 : decode cX5_isUnit 4 = .ok (.iload_n 1, 1) := by decide +kernel
theorem dX5_isUnit_5 : decode cX5_isUnit 5 = .ok (.aload_n 0, 1) := by decide +kernel
theorem dX5_isUnit_6 : decode cX5_isUnit 6 = .ok (.getfield 37, 3) := by decide +kernel
theorem dX5_isUnit_9 : decode cX5_isUnit 9 = .ok (.if_icmp .ge 7, 3) := by decide +kernel
theorem dX5_isUnit_12 : decode cX5_isUnit 12 = .ok (.iconst 1, 1) := by decide +kernel
theorem dX5_isUnit_13 : decode cX5_isUnit 13 = .ok (.goto 4, 3) := by decide +kernel
theorem dX5_isUnit_16 : decode cX5_isUnit 16 = .ok (.iconst 0, 1) := by decide +kernel
theorem dX5_isUnit_17 : decode cX5_isUnit 17 = .ok (.ireturn, 1) := by decide +kernel
theorem dX5_isRow_0 : decode cX5_isRow 0 = .ok (.iload_n 1, 1) := by decide +kernel
theorem dX5_isRow_1 : decode cX5_isRow 1 = .ok (.ifCond .lt 18, 3) := by decide +kernel
theorem dX5_isRow_4 : decode cX5_isRow 4 = .ok (.iload_n 1, 1) := by decide +kernel
theorem dX5_isRow_5 : decode cX5_isRow 5 = .ok (.aload_n 0, 1) := by decide +kernel
theorem dX5_isRow_6 : decode cX5_isRow 6 = .ok (.getfield 19, 3) := by decide +kernel
theorem dX5_isRow_9 : decode cX5_isRow 9 = .ok (.getfield 132, 3) := by decide +kernel
theorem dX5_isRow_12 : decode cX5_isRow 12 = .ok (.if_icmp .ge 7, 3) := by decide +kernel
theorem dX5_isRow_15 : decode cX5_isRow 15 = .ok (.iconst 1, 1) := by decide +kernel
theorem dX5_isRow_16 : decode cX5_isRow 16 = .ok (.goto 4, 3) := by decide +kernel
theorem dX5_isRow_19 : decode cX5_isRow 19 = .ok (.iconst 0, 1) := by decide +kernel
theorem dX5_isRow_20 : decode cX5_isRow 20 = .ok (.ireturn, 1) := by decide +kernel
theorem dX5_isAsOf_0 : decode cX5_isAsOf 0 = .ok (.iload_n 1, 1) := by decide +kernel
theorem dX5_isAsOf_1 : decode cX5_isAsOf 1 = .ok (.bipush (-9), 2) := by decide +kernel
theorem dX5_isAsOf_3 : decode cX5_isAsOf 3 = .ok (.if_icmp .eq 18, 3) := by decide +kernel
theorem dX5_isAsOf_6 : decode cX5_isAsOf 6 = .ok (.iload_n 1, 1) := by decide +kernel
theorem dX5_isAsOf_7 : decode cX5_isAsOf 7 = .ok (.ifCond .lt 18, 3) := by decide +kernel
theorem dX5_isAsOf_10 : decode cX5_isAsOf 10 = .ok (.iload_n 1, 1) := by decide +kernel
theorem dX5_isAsOf_11 : decode cX5_isAsOf 11 = .ok (.aload_n 0, 1) := by decide +kernel
theorem dX5_isAsOf_12 : decode cX5_isAsOf 12 = .ok (.getfield 26, 3) := by decide +kernel
theorem dX5_isAsOf_15 : decode cX5_isAsOf 15 = .ok (.getfield 193, 3) := by decide +kernel
theorem dX5_isAsOf_18 : decode cX5_isAsOf 18 = .ok (.if_icmp .ge 7, 3) := by decide +kernel
theorem dX5_isAsOf_21 : decode cX5_isAsOf 21 = .ok (.iconst 1, 1) := by decide +kernel
theorem dX5_isAsOf_22 : decode cX5_isAsOf 22 = .ok (.goto 4, 3) := by decide +kernel
theorem dX5_isAsOf_25 : decode cX5_isAsOf 25 = .ok (.iconst 0, 1) := by decide +kernel
theorem dX5_isAsOf_26 : decode cX5_isAsOf 26 = .ok (.ireturn, 1) := by decide +kernel
theorem dX5_isHundredths_0 : decode cX5_isHundredths 0 = .ok (.iload_n 0, 1) := by decide +kernel
theorem dX5_isHundredths_1 : decode cX5_isHundredths 1 = .ok (.ifCond .lt 13, 3) := by decide +kernel
theorem dX5_isHundredths_4 : decode cX5_isHundredths 4 = .ok (.iload_n 0, 1) := by decide +kernel
theorem dX5_isHundredths_5 : decode cX5_isHundredths 5 = .ok (.bipush 100, 2) := by decide +kernel
theorem dX5_isHundredths_7 : decode cX5_isHundredths 7 = .ok (.if_icmp .gt 7, 3) := by decide +kernel
theorem dX5_isHundredths_10 : decode cX5_isHundredths 10 = .ok (.iconst 1, 1) := by decide +kernel
theorem dX5_isHundredths_11 : decode cX5_isHundredths 11 = .ok (.goto 4, 3) := by decide +kernel
theorem dX5_isHundredths_14 : decode cX5_isHundredths 14 = .ok (.iconst 0, 1) := by decide +kernel
theorem dX5_isHundredths_15 : decode cX5_isHundredths 15 = .ok (.ireturn, 1) := by decide +kernel
theorem dX5_isDay_0 : decode cX5_isDay 0 = .ok (.iload_n 0, 1) := by decide +kernel
theorem dX5_isDay_1 : decode cX5_isDay 1 = .ok (.ifCond .lt 14, 3) := by decide +kernel
theorem dX5_isDay_4 : decode cX5_isDay 4 = .ok (.iload_n 0, 1) := by decide +kernel
theorem dX5_isDay_5 : decode cX5_isDay 5 = .ok (.sipush 3650, 3) := by decide +kernel
theorem dX5_isDay_8 : decode cX5_isDay 8 = .ok (.if_icmp .ge 7, 3) := by decide +kernel
theorem dX5_isDay_11 : decode cX5_isDay 11 = .ok (.iconst 1, 1) := by decide +kernel
theorem dX5_isDay_12 : decode cX5_isDay 12 = .ok (.goto 4, 3) := by decide +kernel
theorem dX5_isDay_15 : decode cX5_isDay 15 = .ok (.iconst 0, 1) := by decide +kernel
theorem dX5_isDay_16 : decode cX5_isDay 16 = .ok (.ireturn, 1) := by decide +kernel
theorem dX5_isYear_0 : decode cX5_isYear 0 = .ok (.iload_n 0, 1) := by decide +kernel
theorem dX5_isYear_1 : decode cX5_isYear 1 = .ok (.ifCond .lt 13, 3) := by decide +kernel
theorem dX5_isYear_4 : decode cX5_isYear 4 = .ok (.iload_n 0, 1) := by decide +kernel
theorem dX5_isYear_5 : decode cX5_isYear 5 = .ok (.bipush 10, 2) := by decide +kernel
theorem dX5_isYear_7 : decode cX5_isYear 7 = .ok (.if_icmp .ge 7, 3) := by decide +kernel
theorem dX5_isYear_10 : decode cX5_isYear 10 = .ok (.iconst 1, 1) := by decide +kernel
theorem dX5_isYear_11 : decode cX5_isYear 11 = .ok (.goto 4, 3) := by decide +kernel
theorem dX5_isYear_14 : decode cX5_isYear 14 = .ok (.iconst 0, 1) := by decide +kernel
theorem dX5_isYear_15 : decode cX5_isYear 15 = .ok (.ireturn, 1) := by decide +kernel
theorem dX5_isKind_0 : decode cX5_isKind 0 = .ok (.iload_n 0, 1) := by decide +kernel
theorem dX5_isKind_1 : decode cX5_isKind 1 = .ok (.ifCond .lt 12, 3) := by decide +kernel
theorem dX5_isKind_4 : decode cX5_isKind 4 = .ok (.iload_n 0, 1) := by decide +kernel
theorem dX5_isKind_5 : decode cX5_isKind 5 = .ok (.iconst 4, 1) := by decide +kernel
theorem dX5_isKind_6 : decode cX5_isKind 6 = .ok (.if_icmp .ge 7, 3) := by decide +kernel
theorem dX5_isKind_9 : decode cX5_isKind 9 = .ok (.iconst 1, 1) := by decide +kernel
theorem dX5_isKind_10 : decode cX5_isKind 10 = .ok (.goto 4, 3) := by decide +kernel
theorem dX5_isKind_13 : decode cX5_isKind 13 = .ok (.iconst 0, 1) := by decide +kernel
theorem dX5_isKind_14 : decode cX5_isKind 14 = .ok (.ireturn, 1) := by decide +kernel
set_option maxRecDepth 20000 in
theorem ggX5_isDouble_X1_shareOn : GoodIn wsX5_isDouble wsX1_shareOn := goodIn_r _ [9, 10, 11, 12, 8, 13, 14, 15, 16, 17, 18, 19, 20, 21, 22, 23, 24, 25, 26, 27, 28, 29, 30, 31, 32, 33, 34, 35, 36, 37, 38, 39, 40, 41, 42, 43, 44, 45, 46, 47, 48, 61, 62, 63, 64, 65, 66, 67, 68, 69, 70, 71] (by decide +kernel) (by decide +kernel)
set_option maxRecDepth 20000 in
theorem gX5_isDouble_X1_shareOn : GoodIn wsX5_isDouble (wsV RX5 65 RX1 yX1_shareOn wsX1_shareOn) := goodIn_app (goodIn_of _ (by decide +kernel)) ggX5_isDouble_X1_shareOn
theorem dX5_isDouble_0 : decode cX5_isDouble 0 = .ok (.aload_n 0, 1) := by decide +kernel
theorem dX5_isDouble_1 : decode cX5_isDouble 1 = .ok (.getfield 19, 3) := by decide +kernel
theorem dX5_isDouble_4 : decode cX5_isDouble 4 = .ok (.getfield 99, 3) := by decide +kernel
theorem dX5_isDouble_7 : decode cX5_isDouble 7 = .ok (.iload_n 1, 1) := by decide +kernel
theorem dX5_isDouble_8 : decode cX5_isDouble 8 = .ok (.iaload, 1) := by decide +kernel
theorem dX5_isDouble_9 : decode cX5_isDouble 9 = .ok (.istore_n 3, 1) := by decide +kernel
theorem dX5_isDouble_10 : decode cX5_isDouble 10 = .ok (.iload_n 3, 1) := by decide +kernel
theorem dX5_isDouble_11 : decode cX5_isDouble 11 = .ok (.bipush (-9), 2) := by decide +kernel
theorem dX5_isDouble_13 : decode cX5_isDouble 13 = .ok (.if_icmp .eq 43, 3) := by decide +kernel
theorem dX5_isDouble_16 : decode cX5_isDouble 16 = .ok (.aload_n 0, 1) := by decide +kernel
theorem dX5_isDouble_17 : decode cX5_isDouble 17 = .ok (.getfield 10, 3) := by decide +kernel
theorem dX5_isDouble_20 : decode cX5_isDouble 20 = .ok (.aload_n 0, 1) := by decide +kernel
theorem dX5_isDouble_21 : decode cX5_isDouble 21 = .ok (.getfield 19, 3) := by decide +kernel
theorem dX5_isDouble_24 : decode cX5_isDouble 24 = .ok (.getfield 86, 3) := by decide +kernel
theorem dX5_isDouble_27 : decode cX5_isDouble 27 = .ok (.iload_n 1, 1) := by decide +kernel
theorem dX5_isDouble_28 : decode cX5_isDouble 28 = .ok (.iaload, 1) := by decide +kernel
theorem dX5_isDouble_29 : decode cX5_isDouble 29 = .ok (.iload_n 2, 1) := by decide +kernel
theorem dX5_isDouble_30 : decode cX5_isDouble 30 = .ok (.invokevirtual 65, 3) := by decide +kernel
theorem dX5_isDouble_33 : decode cX5_isDouble 33 = .ok (.lconst 0, 1) := by decide +kernel
theorem dX5_isDouble_34 : decode cX5_isDouble 34 = .ok (.lcmp, 1) := by decide +kernel
theorem dX5_isDouble_35 : decode cX5_isDouble 35 = .ok (.ifCond .le 21, 3) := by decide +kernel
theorem dX5_isDouble_38 : decode cX5_isDouble 38 = .ok (.aload_n 0, 1) := by decide +kernel
theorem dX5_isDouble_39 : decode cX5_isDouble 39 = .ok (.getfield 10, 3) := by decide +kernel
theorem dX5_isDouble_42 : decode cX5_isDouble 42 = .ok (.iload_n 3, 1) := by decide +kernel
theorem dX5_isDouble_43 : decode cX5_isDouble 43 = .ok (.iload_n 2, 1) := by decide +kernel
theorem dX5_isDouble_44 : decode cX5_isDouble 44 = .ok (.invokevirtual 65, 3) := by decide +kernel
theorem dX5_isDouble_47 : decode cX5_isDouble 47 = .ok (.lconst 0, 1) := by decide +kernel
theorem dX5_isDouble_48 : decode cX5_isDouble 48 = .ok (.lcmp, 1) := by decide +kernel
theorem dX5_isDouble_49 : decode cX5_isDouble 49 = .ok (.ifCond .le 7, 3) := by decide +kernel
theorem dX5_isDouble_52 : decode cX5_isDouble 52 = .ok (.iconst 1, 1) := by decide +kernel
theorem dX5_isDouble_53 : decode cX5_isDouble 53 = .ok (.goto 4, 3) := by decide +kernel
theorem dX5_isDouble_56 : decode cX5_isDouble 56 = .ok (.iconst 0, 1) := by decide +kernel
theorem dX5_isDouble_57 : decode cX5_isDouble 57 = .ok (.ireturn, 1) := by decide +kernel
set_option maxRecDepth 20000 in
theorem ggX5_versionOf_X2_yearOf : GoodIn wsX5_versionOf wsX2_yearOf := goodIn_r _ [8, 9, 23, 24, 25, 26, 27, 28, 29] (by decide +kernel) (by decide +kernel)
set_option maxRecDepth 20000 in
theorem gX5_versionOf_X2_yearOf : GoodIn wsX5_versionOf (wsV RX5 198 RX2 yX2_yearOf wsX2_yearOf) := goodIn_app (goodIn_of _ (by decide +kernel)) ggX5_versionOf_X2_yearOf
set_option maxRecDepth 20000 in
theorem ggX5_versionOf_X0_versionFor : GoodIn wsX5_versionOf wsX0_versionFor := goodIn_r _ [14, 15, 16, 17, 30, 31, 32, 33, 34] (by decide +kernel) (by decide +kernel)
set_option maxRecDepth 20000 in
theorem gX5_versionOf_X0_versionFor : GoodIn wsX5_versionOf (wsV RX5 116 RX0 yX0_versionFor wsX0_versionFor) := goodIn_app (goodIn_of _ (by decide +kernel)) ggX5_versionOf_X0_versionFor
theorem dX5_versionOf_0 : decode cX5_versionOf 0 = .ok (.aload_n 0, 1) := by decide +kernel
theorem dX5_versionOf_1 : decode cX5_versionOf 1 = .ok (.getfield 26, 3) := by decide +kernel
theorem dX5_versionOf_4 : decode cX5_versionOf 4 = .ok (.aload_n 0, 1) := by decide +kernel
theorem dX5_versionOf_5 : decode cX5_versionOf 5 = .ok (.getfield 19, 3) := by decide +kernel
theorem dX5_versionOf_8 : decode cX5_versionOf 8 = .ok (.getfield 90, 3) := by decide +kernel
theorem dX5_versionOf_11 : decode cX5_versionOf 11 = .ok (.iload_n 1, 1) := by decide +kernel
theorem dX5_versionOf_12 : decode cX5_versionOf 12 = .ok (.iaload, 1) := by decide +kernel
theorem dX5_versionOf_13 : decode cX5_versionOf 13 = .ok (.aload_n 0, 1) := by decide +kernel
theorem dX5_versionOf_14 : decode cX5_versionOf 14 = .ok (.getfield 19, 3) := by decide +kernel
theorem dX5_versionOf_17 : decode cX5_versionOf 17 = .ok (.iload_n 1, 1) := by decide +kernel
theorem dX5_versionOf_18 : decode cX5_versionOf 18 = .ok (.invokevirtual 198, 3) := by decide +kernel
theorem dX5_versionOf_21 : decode cX5_versionOf 21 = .ok (.iload_n 2, 1) := by decide +kernel
theorem dX5_versionOf_22 : decode cX5_versionOf 22 = .ok (.invokevirtual 116, 3) := by decide +kernel
theorem dX5_versionOf_25 : decode cX5_versionOf 25 = .ok (.ireturn, 1) := by decide +kernel
set_option maxRecDepth 20000 in
theorem ggX5_tonsOf_X5_versionOf : GoodIn wsX5_tonsOf wsX5_versionOf := goodIn_r _ [13, 1, 6, 7, 14, 15, 16, 17, 18, 19, 20, 21, 22, 23, 24, 25, 26, 27, 40, 41, 42, 43, 44, 49, 50, 51, 52, 53, 54, 55, 56, 57, 58, 59, 60] (by decide +kernel) (by decide +kernel)
set_option maxRecDepth 20000 in
theorem gX5_tonsOf_X5_versionOf : GoodIn wsX5_tonsOf (wsV RX5 204 RX5 yX5_versionOf wsX5_versionOf) := goodIn_app (goodIn_of _ (by decide +kernel)) ggX5_tonsOf_X5_versionOf
set_option maxRecDepth 20000 in
theorem ggX5_tonsOf_X0_endOf : GoodIn wsX5_tonsOf wsX0_endOf := goodIn_r _ [31, 32, 33, 56, 57, 58, 59, 60] (by decide +kernel) (by decide +kernel)
set_option maxRecDepth 20000 in
theorem gX5_tonsOf_X0_endOf : GoodIn wsX5_tonsOf (wsV RX5 119 RX0 yX0_endOf wsX0_endOf) := goodIn_app (goodIn_of _ (by decide +kernel)) ggX5_tonsOf_X0_endOf
set_option maxRecDepth 20000 in
theorem ggX5_tonsOf_X2_uncovered : GoodIn wsX5_tonsOf wsX2_uncovered := goodIn_r _ [37, 38, 39, 49, 50, 51, 52, 53, 54, 55] (by decide +kernel) (by decide +kernel)
set_option maxRecDepth 20000 in
theorem gX5_tonsOf_X2_uncovered : GoodIn wsX5_tonsOf (wsV RX5 170 RX2 yX2_uncovered wsX2_uncovered) := goodIn_app (goodIn_of _ (by decide +kernel)) ggX5_tonsOf_X2_uncovered
theorem dX5_tonsOf_0 : decode cX5_tonsOf 0 = .ok (.aload_n 0, 1) := by decide +kernel
theorem dX5_tonsOf_1 : decode cX5_tonsOf 1 = .ok (.getfield 26, 3) := by decide +kernel
theorem dX5_tonsOf_4 : decode cX5_tonsOf 4 = .ok (.aload_n 0, 1) := by decide +kernel
theorem dX5_tonsOf_5 : decode cX5_tonsOf 5 = .ok (.iload_n 1, 1) := by decide +kernel
theorem dX5_tonsOf_6 : decode cX5_tonsOf 6 = .ok (.aload_n 2, 1) := by decide +kernel
theorem dX5_tonsOf_7 : decode cX5_tonsOf 7 = .ok (.getfield 201, 3) := by decide +kernel
theorem dX5_tonsOf_10 : decode cX5_tonsOf 10 = .ok (.invokevirtual 204, 3) := by decide +kernel
theorem dX5_tonsOf_13 : decode cX5_tonsOf 13 = .ok (.aload_n 2, 1) := by decide +kernel
theorem dX5_tonsOf_14 : decode cX5_tonsOf 14 = .ok (.getfield 207, 3) := by decide +kernel
theorem dX5_tonsOf_17 : decode cX5_tonsOf 17 = .ok (.invokevirtual 119, 3) := by decide +kernel
theorem dX5_tonsOf_20 : decode cX5_tonsOf 20 = .ok (.istore_n 3, 1) := by decide +kernel
theorem dX5_tonsOf_21 : decode cX5_tonsOf 21 = .ok (.iload_n 3, 1) := by decide +kernel
theorem dX5_tonsOf_22 : decode cX5_tonsOf 22 = .ok (.bipush (-9), 2) := by decide +kernel
theorem dX5_tonsOf_24 : decode cX5_tonsOf 24 = .ok (.if_icmp .ne 7, 3) := by decide +kernel
theorem dX5_tonsOf_27 : decode cX5_tonsOf 27 = .ok (.ldc2_w 146, 3) := by decide +kernel
theorem dX5_tonsOf_30 : decode cX5_tonsOf 30 = .ok (.lreturn, 1) := by decide +kernel
theorem dX5_tonsOf_31 : decode cX5_tonsOf 31 = .ok (.aload_n 2, 1) := by decide +kernel
theorem dX5_tonsOf_32 : decode cX5_tonsOf 32 = .ok (.getfield 211, 3) := by decide +kernel
theorem dX5_tonsOf_35 : decode cX5_tonsOf 35 = .ok (.ifCond .eq 20, 3) := by decide +kernel
theorem dX5_tonsOf_38 : decode cX5_tonsOf 38 = .ok (.aload_n 0, 1) := by decide +kernel
theorem dX5_tonsOf_39 : decode cX5_tonsOf 39 = .ok (.getfield 19, 3) := by decide +kernel
theorem dX5_tonsOf_42 : decode cX5_tonsOf 42 = .ok (.getfield 90, 3) := by decide +kernel
theorem dX5_tonsOf_45 : decode cX5_tonsOf 45 = .ok (.iload_n 1, 1) := by decide +kernel
theorem dX5_tonsOf_46 : decode cX5_tonsOf 46 = .ok (.iaload, 1) := by decide +kernel
theorem dX5_tonsOf_47 : decode cX5_tonsOf 47 = .ok (.iconst 1, 1) := by decide +kernel
theorem dX5_tonsOf_48 : decode cX5_tonsOf 48 = .ok (.if_icmp .ne 7, 3) := by decide +kernel
theorem dX5_tonsOf_51 : decode cX5_tonsOf 51 = .ok (.iconst 1, 1) := by decide +kernel
theorem dX5_tonsOf_52 : decode cX5_tonsOf 52 = .ok (.goto 4, 3) := by decide +kernel
theorem dX5_tonsOf_55 : decode cX5_tonsOf 55 = .ok (.iconst 0, 1) := by decide +kernel
theorem dX5_tonsOf_56 : decode cX5_tonsOf 56 = .ok (.istore 4, 2) := by decide +kernel
theorem dX5_tonsOf_58 : decode cX5_tonsOf 58 = .ok (.iload 4, 2) := by decide +kernel
theorem dX5_tonsOf_60 : decode cX5_tonsOf 60 = .ok (.ifCond .eq 14, 3) := by decide +kernel
theorem dX5_tonsOf_63 : decode cX5_tonsOf 63 = .ok (.aload_n 0, 1) := by decide +kernel
theorem dX5_tonsOf_64 : decode cX5_tonsOf 64 = .ok (.getfield 19, 3) := by decide +kernel
theorem dX5_tonsOf_67 : decode cX5_tonsOf 67 = .ok (.iload_n 1, 1) := by decide +kernel
theorem dX5_tonsOf_68 : decode cX5_tonsOf 68 = .ok (.invokevirtual 170, 3) := by decide +kernel
theorem dX5_tonsOf_71 : decode cX5_tonsOf 71 = .ok (.goto 12, 3) := by decide +kernel
theorem dX5_tonsOf_74 : decode cX5_tonsOf 74 = .ok (.aload_n 0, 1) := by decide +kernel
theorem dX5_tonsOf_75 : decode cX5_tonsOf 75 = .ok (.getfield 19, 3) := by decide +kernel
theorem dX5_tonsOf_78 : decode cX5_tonsOf 78 = .ok (.getfield 93, 3) := by decide +kernel
theorem dX5_tonsOf_81 : decode cX5_tonsOf 81 = .ok (.iload_n 1, 1) := by decide +kernel
theorem dX5_tonsOf_82 : decode cX5_tonsOf 82 = .ok (.iaload, 1) := by decide +kernel
theorem dX5_tonsOf_83 : decode cX5_tonsOf 83 = .ok (.istore 5, 2) := by decide +kernel
theorem dX5_tonsOf_85 : decode cX5_tonsOf 85 = .ok (.iload 5, 2) := by decide +kernel
theorem dX5_tonsOf_87 : decode cX5_tonsOf 87 = .ok (.i2l, 1) := by decide +kernel
theorem dX5_tonsOf_88 : decode cX5_tonsOf 88 = .ok (.iload_n 3, 1) := by decide +kernel
theorem dX5_tonsOf_89 : decode cX5_tonsOf 89 = .ok (.i2l, 1) := by decide +kernel
theorem dX5_tonsOf_90 : decode cX5_tonsOf 90 = .ok (.lmul, 1) := by decide +kernel
theorem dX5_tonsOf_91 : decode cX5_tonsOf 91 = .ok (.lreturn, 1) := by decide +kernel
set_option maxRecDepth 20000 in
theorem ggX5_isChanged_X2_isOfYear : GoodIn wsX5_isChanged wsX2_isOfYear := goodIn_r _ [7, 8, 9, 10, 6, 11, 12, 39, 40, 41, 42, 43, 44, 45] (by decide +kernel) (by decide +kernel)
set_option maxRecDepth 20000 in
theorem gX5_isChanged_X2_isOfYear : GoodIn wsX5_isChanged (wsV RX5 143 RX2 yX2_isOfYear wsX2_isOfYear) := goodIn_app (goodIn_of _ (by decide +kernel)) ggX5_isChanged_X2_isOfYear
set_option maxRecDepth 20000 in
theorem ggX5_isChanged_X5_versionOf : GoodIn wsX5_isChanged wsX5_versionOf := goodIn_r _ [17, 2, 1, 18, 19, 9, 10, 6, 11, 12, 20, 21, 22, 23, 24, 25, 26, 27, 34, 35, 36, 37, 38, 39, 40, 41, 42, 43, 44, 45, 46, 47, 48, 49, 50] (by decide +kernel) (by decide +kernel)
set_option maxRecDepth 20000 in
theorem gX5_isChanged_X5_versionOf : GoodIn wsX5_isChanged (wsV RX5 204 RX5 yX5_versionOf wsX5_versionOf) := goodIn_app (goodIn_of _ (by decide +kernel)) ggX5_isChanged_X5_versionOf
set_option maxRecDepth 20000 in
theorem ggX5_isChanged_X0_endOf : GoodIn wsX5_isChanged wsX0_endOf := goodIn_r _ [31, 32, 33, 46, 47, 48, 49, 50] (by decide +kernel) (by decide +kernel)
set_option maxRecDepth 20000 in
theorem gX5_isChanged_X0_endOf : GoodIn wsX5_isChanged (wsV RX5 119 RX0 yX0_endOf wsX0_endOf) := goodIn_app (goodIn_of _ (by decide +kernel)) ggX5_isChanged_X0_endOf
theorem dX5_isChanged_0 : decode cX5_isChanged 0 = .ok (.aload_n 0, 1) := by decide +kernel
theorem dX5_isChanged_1 : decode cX5_isChanged 1 = .ok (.getfield 19, 3) := by decide +kernel
theorem dX5_isChanged_4 : decode cX5_isChanged 4 = .ok (.iload_n 1, 1) := by decide +kernel
theorem dX5_isChanged_5 : decode cX5_isChanged 5 = .ok (.iload_n 2, 1) := by decide +kernel
theorem dX5_isChanged_6 : decode cX5_isChanged 6 = .ok (.invokevirtual 143, 3) := by decide +kernel
theorem dX5_isChanged_9 : decode cX5_isChanged 9 = .ok (.ifCond .ne 5, 3) := by decide +kernel
theorem dX5_isChanged_12 : decode cX5_isChanged 12 = .ok (.iconst 0, 1) := by decide +kernel
theorem dX5_isChanged_13 : decode cX5_isChanged 13 = .ok (.ireturn, 1) := by decide +kernel
theorem dX5_isChanged_14 : decode cX5_isChanged 14 = .ok (.aload_n 0, 1) := by decide +kernel
theorem dX5_isChanged_15 : decode cX5_isChanged 15 = .ok (.iload_n 1, 1) := by decide +kernel
theorem dX5_isChanged_16 : decode cX5_isChanged 16 = .ok (.iload_n 3, 1) := by decide +kernel
theorem dX5_isChanged_17 : decode cX5_isChanged 17 = .ok (.invokevirtual 204, 3) := by decide +kernel
theorem dX5_isChanged_20 : decode cX5_isChanged 20 = .ok (.istore 5, 2) := by decide +kernel
theorem dX5_isChanged_22 : decode cX5_isChanged 22 = .ok (.aload_n 0, 1) := by decide +kernel
theorem dX5_isChanged_23 : decode cX5_isChanged 23 = .ok (.iload_n 1, 1) := by decide +kernel
theorem dX5_isChanged_24 : decode cX5_isChanged 24 = .ok (.iload 4, 2) := by decide +kernel
theorem dX5_isChanged_26 : decode cX5_isChanged 26 = .ok (.invokevirtual 204, 3) := by decide +kernel
theorem dX5_isChanged_29 : decode cX5_isChanged 29 = .ok (.istore 6, 2) := by decide +kernel
theorem dX5_isChanged_31 : decode cX5_isChanged 31 = .ok (.aload_n 0, 1) := by decide +kernel
theorem dX5_isChanged_32 : decode cX5_isChanged 32 = .ok (.getfield 26, 3) := by decide +kernel
theorem dX5_isChanged_35 : decode cX5_isChanged 35 = .ok (.iload 5, 2) := by decide +kernel
theorem dX5_isChanged_37 : decode cX5_isChanged 37 = .ok (.iconst 0, 1) := by decide +kernel
theorem dX5_isChanged_38 : decode cX5_isChanged 38 = .ok (.invokevirtual 119, 3) := by decide +kernel
theorem dX5_isChanged_41 : decode cX5_isChanged 41 = .ok (.aload_n 0, 1) := by decide +kernel
theorem dX5_isChanged_42 : decode cX5_isChanged 42 = .ok (.getfield 26, 3) := by decide +kernel
theorem dX5_isChanged_45 : decode cX5_isChanged 45 = .ok (.iload 6, 2) := by decide +kernel
theorem dX5_isChanged_47 : decode cX5_isChanged 47 = .ok (.iconst 0, 1) := by decide +kernel
theorem dX5_isChanged_48 : decode cX5_isChanged 48 = .ok (.invokevirtual 119, 3) := by decide +kernel
theorem dX5_isChanged_51 : decode cX5_isChanged 51 = .ok (.if_icmp .ne 26, 3) := by decide +kernel
theorem dX5_isChanged_54 : decode cX5_isChanged 54 = .ok (.aload_n 0, 1) := by decide +kernel
theorem dX5_isChanged_55 : decode cX5_isChanged 55 = .ok (.getfield 26, 3) := by decide +kernel
theorem dX5_isChanged_58 : decode cX5_isChanged 58 = .ok (.iload 5, 2) := by decide +kernel
theorem dX5_isChanged_60 : decode cX5_isChanged 60 = .ok (.iconst 1, 1) := by decide +kernel
theorem dX5_isChanged_61 : decode cX5_isChanged 61 = .ok (.invokevirtual 119, 3) := by decide +kernel
theorem dX5_isChanged_64 : decode cX5_isChanged 64 = .ok (.aload_n 0, 1) := by decide +kernel
theorem dX5_isChanged_65 : decode cX5_isChanged 65 = .ok (.getfield 26, 3) := by decide +kernel
theorem dX5_isChanged_68 : decode cX5_isChanged 68 = .ok (.iload 6, 2) := by decide +kernel
theorem dX5_isChanged_70 : decode cX5_isChanged 70 = .ok (.iconst 1, 1) := by decide +kernel
theorem dX5_isChanged_71 : decode cX5_isChanged 71 = .ok (.invokevirtual 119, 3) := by decide +kernel
theorem dX5_isChanged_74 : decode cX5_isChanged 74 = .ok (.if_icmp .eq 7, 3) := by decide +kernel
theorem dX5_isChanged_77 : decode cX5_isChanged 77 = .ok (.iconst 1, 1) := by decide +kernel
theorem dX5_isChanged_78 : decode cX5_isChanged 78 = .ok (.goto 4, 3) := by decide +kernel
theorem dX5_isChanged_81 : decode cX5_isChanged 81 = .ok (.iconst 0, 1) := by decide +kernel
theorem dX5_isChanged_82 : decode cX5_isChanged 82 = .ok (.ireturn, 1) := by decide +kernel
set_option maxRecDepth 20000 in
theorem ggX5_totalOf_X2_isOfYear : GoodIn wsX5_totalOf wsX2_isOfYear := goodIn_r _ [12, 13, 14, 15, 11, 16, 17, 108, 109, 110, 111, 112, 113, 114] (by decide +kernel) (by decide +kernel)
set_option maxRecDepth 20000 in
theorem gX5_totalOf_X2_isOfYear : GoodIn wsX5_totalOf (wsV RX5 143 RX2 yX2_isOfYear wsX2_isOfYear) := goodIn_app (goodIn_of _ (by decide +kernel)) ggX5_totalOf_X2_isOfYear
set_option maxRecDepth 20000 in
theorem ggX5_totalOf_X1_shareOn : GoodIn wsX5_totalOf wsX1_shareOn := goodIn_r _ [22, 23, 24, 25, 21, 26, 27, 28, 29, 30, 31, 32, 33, 34, 35, 36, 37, 38, 39, 40, 41, 42, 43, 44, 45, 46, 47, 48, 49, 50, 51, 52, 53, 54, 55, 56, 57, 58, 59, 60, 61, 119, 120, 121, 122, 123, 124, 125, 126, 127, 128, 129] (by decide +kernel) (by decide +kernel)
set_option maxRecDepth 20000 in
theorem gX5_totalOf_X1_shareOn : GoodIn wsX5_totalOf (wsV RX5 65 RX1 yX1_shareOn wsX1_shareOn) := goodIn_app (goodIn_of _ (by decide +kernel)) ggX5_totalOf_X1_shareOn
set_option maxRecDepth 20000 in
theorem ggX5_totalOf_X5_isDouble : GoodIn wsX5_totalOf wsX5_isDouble := goodIn_r _ [66, 1, 67, 5, 3, 18, 19, 20, 21, 22, 23, 24, 25, 26, 27, 28, 29, 30, 31, 32, 33, 34, 35, 36, 37, 38, 39, 40, 41, 42, 43, 44, 45, 46, 47, 48, 49, 50, 51, 52, 53, 54, 55, 56, 57, 58, 59, 60, 61, 103, 104, 105, 106, 107, 108, 109, 110, 111, 112, 113, 114, 119, 120, 121, 122, 123, 124, 125, 126, 127, 128, 129] (by decide +kernel) (by decide +kernel)
set_option maxRecDepth 20000 in
theorem gX5_totalOf_X5_isDouble : GoodIn wsX5_totalOf (wsV RX5 102 RX5 yX5_isDouble wsX5_isDouble) := goodIn_app (goodIn_of _ (by decide +kernel)) ggX5_totalOf_X5_isDouble
set_option maxRecDepth 20000 in
theorem ggX5_totalOf_X5_tonsOf : GoodIn wsX5_totalOf wsX5_tonsOf := goodIn_r _ [71, 72, 73, 74, 7, 75, 1, 76, 77, 78, 79, 80, 65, 81, 82, 14, 15, 11, 16, 17, 83, 84, 85, 86, 87, 88, 89, 90, 91, 92, 93, 94, 95, 96, 97, 98, 99, 100, 101, 102, 103, 104, 105, 106, 107, 115, 116, 117, 118, 108, 109, 110, 111, 112, 113, 114, 130, 131, 132, 133, 134] (by decide +kernel) (by decide +kernel)
set_option maxRecDepth 20000 in
theorem gX5_totalOf_X5_tonsOf : GoodIn wsX5_totalOf (wsV RX5 128 RX5 yX5_tonsOf wsX5_tonsOf) := goodIn_app (goodIn_of _ (by decide +kernel)) ggX5_totalOf_X5_tonsOf
theorem dX5_totalOf_0 : decode cX5_totalOf 0 = .ok (.lconst 0, 1) := by decide +kernel
theorem dX5_totalOf_1 : decode cX5_totalOf 1 = .ok (.lstore 5, 2) := by decide +kernel
theorem dX5_totalOf_3 : decode cX5_totalOf 3 = .ok (.iconst 0, 1) := by decide +kernel
theorem dX5_totalOf_4 : decode cX5_totalOf 4 = .ok (.istore 7, 2) := by decide +kernel
theorem dX5_totalOf_6 : decode cX5_totalOf 6 = .ok (.iload 7, 2) := by decide +kernel
theorem dX5_totalOf_8 : decode cX5_totalOf 8 = .ok (.aload_n 0, 1) := by decide +kernel
theorem dX5_totalOf_9 : decode cX5_totalOf 9 = .ok (.getfield 19, 3) := by decide +kernel
theorem dX5_totalOf_12 : decode cX5_totalOf 12 = .ok (.getfield 132, 3) := by decide +kernel
theorem dX5_totalOf_15 : decode cX5_totalOf 15 = .ok (.if_icmp .ge 150, 3) := by decide +kernel
theorem dX5_totalOf_18 : decode cX5_totalOf 18 = .ok (.aload_n 0, 1) := by decide +kernel
theorem dX5_totalOf_19 : decode cX5_totalOf 19 = .ok (.getfield 19, 3) := by decide +kernel
theorem dX5_totalOf_22 : decode cX5_totalOf 22 = .ok (.iload 7, 2) := by decide +kernel
theorem dX5_totalOf_24 : decode cX5_totalOf 24 = .ok (.iload_n 2, 1) := by decide +kernel
theorem dX5_totalOf_25 : decode cX5_totalOf 25 = .ok (.invokevirtual 143, 3) := by decide +kernel
theorem dX5_totalOf_28 : decode cX5_totalOf 28 = .ok (.ifCond .eq 131, 3) := by decide +kernel
theorem dX5_totalOf_31 : decode cX5_totalOf 31 = .ok (.iload_n 1, 1) := by decide +kernel
theorem dX5_totalOf_32 : decode cX5_totalOf 32 = .ok (.bipush (-9), 2) := by decide +kernel
theorem dX5_totalOf_34 : decode cX5_totalOf 34 = .ok (.if_icmp .eq 20, 3) := by decide +kernel
theorem dX5_totalOf_37 : decode cX5_totalOf 37 = .ok (.aload_n 0, 1) := by decide +kernel
theorem dX5_totalOf_38 : decode cX5_totalOf 38 = .ok (.getfield 19, 3) := by decide +kernel
theorem dX5_totalOf_41 : decode cX5_totalOf 41 = .ok (.getfield 86, 3) := by decide +kernel
theorem dX5_totalOf_44 : decode cX5_totalOf 44 = .ok (.iload 7, 2) := by decide +kernel
theorem dX5_totalOf_46 : decode cX5_totalOf 46 = .ok (.iaload, 1) := by decide +kernel
theorem dX5_totalOf_47 : decode cX5_totalOf 47 = .ok (.iload_n 1, 1) := by decide +kernel
theorem dX5_totalOf_48 : decode cX5_totalOf 48 = .ok (.if_icmp .eq 6, 3) := by decide +kernel
theorem dX5_totalOf_51 : decode cX5_totalOf 51 = .ok (.goto 108, 3) := by decide +kernel
theorem dX5_totalOf_54 : decode cX5_totalOf 54 = .ok (.iload_n 3, 1) := by decide +kernel
theorem dX5_totalOf_55 : decode cX5_totalOf 55 = .ok (.bipush (-9), 2) := by decide +kernel
theorem dX5_totalOf_57 : decode cX5_totalOf 57 = .ok (.if_icmp .ne 16, 3) := by decide +kernel
theorem dX5_totalOf_60 : decode cX5_totalOf 60 = .ok (.aload_n 0, 1) := by decide +kernel
theorem dX5_totalOf_61 : decode cX5_totalOf 61 = .ok (.getfield 19, 3) := by decide +kernel
theorem dX5_totalOf_64 : decode cX5_totalOf 64 = .ok (.getfield 96, 3) := by decide +kernel
theorem dX5_totalOf_67 : decode cX5_totalOf 67 = .ok (.iload 7, 2) := by decide +kernel
theorem dX5_totalOf_69 : decode cX5_totalOf 69 = .ok (.iaload, 1) := by decide +kernel
theorem dX5_totalOf_70 : decode cX5_totalOf 70 = .ok (.goto 4, 3) := by decide +kernel
theorem dX5_totalOf_73 : decode cX5_totalOf 73 = .ok (.iload_n 3, 1) := by decide +kernel
theorem dX5_totalOf_74 : decode cX5_totalOf 74 = .ok (.istore 8, 2) := by decide +kernel
theorem dX5_totalOf_76 : decode cX5_totalOf 76 = .ok (.aload_n 0, 1) := by decide +kernel
theorem dX5_totalOf_77 : decode cX5_totalOf 77 = .ok (.getfield 10, 3) := by decide +kernel
theorem dX5_totalOf_80 : decode cX5_totalOf 80 = .ok (.aload_n 0, 1) := by decide +kernel
theorem dX5_totalOf_81 : decode cX5_totalOf 81 = .ok (.getfield 19, 3) := by decide +kernel
theorem dX5_totalOf_84 : decode cX5_totalOf 84 = .ok (.getfield 86, 3) := by decide +kernel
theorem dX5_totalOf_87 : decode cX5_totalOf 87 = .ok (.iload 7, 2) := by decide +kernel
theorem dX5_totalOf_89 : decode cX5_totalOf 89 = .ok (.iaload, 1) := by decide +kernel
theorem dX5_totalOf_90 : decode cX5_totalOf 90 = .ok (.iload 8, 2) := by decide +kernel
theorem dX5_totalOf_92 : decode cX5_totalOf 92 = .ok (.invokevirtual 65, 3) := by decide +kernel
theorem dX5_totalOf_95 : decode cX5_totalOf 95 = .ok (.lstore 9, 2) := by decide +kernel
theorem dX5_totalOf_97 : decode cX5_totalOf 97 = .ok (.lload 9, 2) := by decide +kernel
theorem dX5_totalOf_99 : decode cX5_totalOf 99 = .ok (.lconst 0, 1) := by decide +kernel
theorem dX5_totalOf_100 : decode cX5_totalOf 100 = .ok (.lcmp, 1) := by decide +kernel
theorem dX5_totalOf_101 : decode cX5_totalOf 101 = .ok (.ifCond .eq 58, 3) := by decide +kernel
theorem dX5_totalOf_104 : decode cX5_totalOf 104 = .ok (.aload 4, 2) := by decide +kernel
theorem dX5_totalOf_106 : decode cX5_totalOf 106 = .ok (.getfield 214, 3) := by decide +kernel
theorem dX5_totalOf_109 : decode cX5_totalOf 109 = .ok (.ifCond .eq 17, 3) := by decide +kernel
theorem dX5_totalOf_112 : decode cX5_totalOf 112 = .ok (.aload_n 0, 1) := by decide +kernel
theorem dX5_totalOf_113 : decode cX5_totalOf 113 = .ok (.iload 7, 2) := by decide +kernel
theorem dX5_totalOf_115 : decode cX5_totalOf 115 = .ok (.iload 8, 2) := by decide +kernel
theorem dX5_totalOf_117 : decode cX5_totalOf 117 = .ok (.invokevirtual 102, 3) := by decide +kernel
theorem dX5_totalOf_120 : decode cX5_totalOf 120 = .ok (.ifCond .eq 6, 3) := by decide +kernel
theorem dX5_totalOf_123 : decode cX5_totalOf 123 = .ok (.goto 36, 3) := by decide +kernel
theorem dX5_totalOf_126 : decode cX5_totalOf 126 = .ok (.aload_n 0, 1) := by decide +kernel
theorem dX5_totalOf_127 : decode cX5_totalOf 127 = .ok (.iload 7, 2) := by decide +kernel
theorem dX5_totalOf_129 : decode cX5_totalOf 129 = .ok (.aload 4, 2) := by decide +kernel
theorem dX5_totalOf_131 : decode cX5_totalOf 131 = .ok (.invokevirtual 128, 3) := by decide +kernel
theorem dX5_totalOf_134 : decode cX5_totalOf 134 = .ok (.lstore 11, 2) := by decide +kernel
theorem dX5_totalOf_136 : decode cX5_totalOf 136 = .ok (.lload 11, 2) := by decide +kernel
theorem dX5_totalOf_138 : decode cX5_totalOf 138 = .ok (.ldc2_w 146, 3) := by decide +kernel
theorem dX5_totalOf_141 : decode cX5_totalOf 141 = .ok (.lcmp, 1) := by decide +kernel
theorem dX5_totalOf_142 : decode cX5_totalOf 142 = .ok (.ifCond .ne 7, 3) := by decide +kernel
theorem dX5_totalOf_145 : decode cX5_totalOf 145 = .ok (.ldc2_w 146, 3) := by decide +kernel
theorem dX5_totalOf_148 : decode cX5_totalOf 148 = .ok (.lreturn, 1) := by decide +kernel
theorem dX5_totalOf_149 : decode cX5_totalOf 149 = .ok (.lload 5, 2) := by decide +kernel
theorem dX5_totalOf_151 : decode cX5_totalOf 151 = .ok (.lload 11, 2) := by decide +kernel
theorem dX5_totalOf_153 : decode cX5_totalOf 153 = .ok (.lload 9, 2) := by decide +kernel
theorem dX5_totalOf_155 : decode cX5_totalOf 155 = .ok (.lmul, 1) := by decide +kernel
theorem dX5_totalOf_156 : decode cX5_totalOf 156 = .ok (.ladd, 1) := by decide +kernel
theorem dX5_totalOf_157 : decode cX5_totalOf 157 = .ok (.lstore 5, 2) := by decide +kernel
theorem dX5_totalOf_159 : decode cX5_totalOf 159 = .ok (.iinc 7 1, 3) := by decide +kernel
theorem dX5_totalOf_162 : decode cX5_totalOf 162 = .ok (.goto (-156), 3) := by decide +kernel
theorem dX5_totalOf_165 : decode cX5_totalOf 165 = .ok (.lload 5, 2) := by decide +kernel
theorem dX5_totalOf_167 : decode cX5_totalOf 167 = .ok (.lreturn, 1) := by decide +kernel
theorem dX5_cutPart_0 : decode cX5_cutPart 0 = .ok (.lload 4, 2) := by decide +kernel
theorem dX5_cutPart_2 : decode cX5_cutPart 2 = .ok (.lconst 0, 1) := by decide +kernel
theorem dX5_cutPart_3 : decode cX5_cutPart 3 = .ok (.lcmp, 1) := by decide +kernel
theorem dX5_cutPart_4 : decode cX5_cutPart 4 = .ok (.ifCond .gt 5, 3) := by decide +kernel
theorem dX5_cutPart_7 : decode cX5_cutPart 7 = .ok (.lconst 0, 1) := by decide +kernel
theorem dX5_cutPart_8 : decode cX5_cutPart 8 = .ok (.lreturn, 1) := by decide +kernel
theorem dX5_cutPart_9 : decode cX5_cutPart 9 = .ok (.lload_n 0, 1) := by decide +kernel
theorem dX5_cutPart_10 : decode cX5_cutPart 10 = .ok (.lload 4, 2) := by decide +kernel
theorem dX5_cutPart_12 : decode cX5_cutPart 12 = .ok (.ldiv, 1) := by decide +kernel
theorem dX5_cutPart_13 : decode cX5_cutPart 13 = .ok (.lload_n 2, 1) := by decide +kernel
theorem dX5_cutPart_14 : decode cX5_cutPart 14 = .ok (.lmul, 1) := by decide +kernel
theorem dX5_cutPart_15 : decode cX5_cutPart 15 = .ok (.lload_n 0, 1) := by decide +kernel
theorem dX5_cutPart_16 : decode cX5_cutPart 16 = .ok (.lload 4, 2) := by decide +kernel
theorem dX5_cutPart_18 : decode cX5_cutPart 18 = .ok (.lrem, 1) := by decide +kernel
theorem dX5_cutPart_19 : decode cX5_cutPart 19 = .ok (.lload_n 2, 1) := by decide +kernel
theorem dX5_cutPart_20 : decode cX5_cutPart 20 = .ok (.lmul, 1) := by decide +kernel
theorem dX5_cutPart_21 : decode cX5_cutPart 21 = .ok (.lload 4, 2) := by decide +kernel
theorem dX5_cutPart_23 : decode cX5_cutPart 23 = .ok (.ldiv, 1) := by decide +kernel
theorem dX5_cutPart_24 : decode cX5_cutPart 24 = .ok (.ladd, 1) := by decide +kernel
theorem dX5_cutPart_25 : decode cX5_cutPart 25 = .ok (.lreturn, 1) := by decide +kernel
theorem dX6_init_0 : decode cX6_init 0 = .ok (.aload_n 0, 1) := by decide +kernel
theorem dX6_init_1 : decode cX6_init 1 = .ok (.invokespecial 1, 3) := by decide +kernel
theorem dX6_init_4 : decode cX6_init 4 = .ok (.aload_n 0, 1) := by decide +kernel
theorem dX6_init_5 : decode cX6_init 5 = .ok (.iconst 1, 1) := by decide +kernel
theorem dX6_init_6 : decode cX6_init 6 = .ok (.putfield 7, 3) := by decide +kernel
theorem dX6_init_9 : decode cX6_init 9 = .ok (.aload_n 0, 1) := by decide +kernel
theorem dX6_init_10 : decode cX6_init 10 = .ok (.bipush 100, 2) := by decide +kernel
theorem dX6_init_12 : decode cX6_init 12 = .ok (.newarray .int, 2) := by decide +kernel
theorem dX6_init_14 : decode cX6_init 14 = .ok (.putfield 13, 3) := by decide +kernel
theorem dX6_init_17 : decode cX6_init 17 = .ok (.aload_n 0, 1) := by decide +kernel
theorem dX6_init_18 : decode cX6_init 18 = .ok (.bipush 100, 2) := by decide +kernel
theorem dX6_init_20 : decode cX6_init 20 = .ok (.newarray .int, 2) := by decide +kernel
theorem dX6_init_22 : decode cX6_init 22 = .ok (.putfield 17, 3) := by decide +kernel
theorem dX6_init_25 : decode cX6_init 25 = .ok (.aload_n 0, 1) := by decide +kernel
theorem dX6_init_26 : decode cX6_init 26 = .ok (.bipush 100, 2) := by decide +kernel
theorem dX6_init_28 : decode cX6_init 28 = .ok (.newarray .int, 2) := by decide +kernel
theorem dX6_init_30 : decode cX6_init 30 = .ok (.putfield 20, 3) := by decide +kernel
theorem dX6_init_33 : decode cX6_init 33 = .ok (.aload_n 0, 1) := by decide +kernel
theorem dX6_init_34 : decode cX6_init 34 = .ok (.bipush 100, 2) := by decide +kernel
theorem dX6_init_36 : decode cX6_init 36 = .ok (.newarray .int, 2) := by decide +kernel
theorem dX6_init_38 : decode cX6_init 38 = .ok (.putfield 23, 3) := by decide +kernel
theorem dX6_init_41 : decode cX6_init 41 = .ok (.aload_n 0, 1) := by decide +kernel
theorem dX6_init_42 : decode cX6_init 42 = .ok (.sipush 200, 3) := by decide +kernel
theorem dX6_init_45 : decode cX6_init 45 = .ok (.newarray .int, 2) := by decide +kernel
theorem dX6_init_47 : decode cX6_init 47 = .ok (.putfield 26, 3) := by decide +kernel
theorem dX6_init_50 : decode cX6_init 50 = .ok (.aload_n 0, 1) := by decide +kernel
theorem dX6_init_51 : decode cX6_init 51 = .ok (.sipush 200, 3) := by decide +kernel
theorem dX6_init_54 : decode cX6_init 54 = .ok (.newarray .int, 2) := by decide +kernel
theorem dX6_init_56 : decode cX6_init 56 = .ok (.putfield 29, 3) := by decide +kernel
theorem dX6_init_59 : decode cX6_init 59 = .ok (.aload_n 0, 1) := by decide +kernel
theorem dX6_init_60 : decode cX6_init 60 = .ok (.sipush 200, 3) := by decide +kernel
theorem dX6_init_63 : decode cX6_init 63 = .ok (.newarray .int, 2) := by decide +kernel
theorem dX6_init_65 : decode cX6_init 65 = .ok (.putfield 32, 3) := by decide +kernel
theorem dX6_init_68 : decode cX6_init 68 = .ok (.aload_n 0, 1) := by decide +kernel
theorem dX6_init_69 : decode cX6_init 69 = .ok (.sipush 200, 3) := by decide +kernel
theorem dX6_init_72 : decode cX6_init 72 = .ok (.newarray .int, 2) := by decide +kernel
theorem dX6_init_74 : decode cX6_init 74 = .ok (.putfield 35, 3) := by decide +kernel
theorem dX6_init_77 : decode cX6_init 77 = .ok (.aload_n 0, 1) := by decide +kernel
theorem dX6_init_78 : decode cX6_init 78 = .ok (.sipush 200, 3) := by decide +kernel
theorem dX6_init_81 : decode cX6_init 81 = .ok (.newarray .int, 2) := by decide +kernel
theorem dX6_init_83 : decode cX6_init 83 = .ok (.putfield 38, 3) := by decide +kernel
theorem dX6_init_86 : decode cX6_init 86 = .ok (.aload_n 0, 1) := by decide +kernel
theorem dX6_init_87 : decode cX6_init 87 = .ok (.sipush 200, 3) := by decide +kernel
theorem dX6_init_90 : decode cX6_init 90 = .ok (.newarray .int, 2) := by decide +kernel
theorem dX6_init_92 : decode cX6_init 92 = .ok (.putfield 41, 3) := by decide +kernel
theorem dX6_init_95 : decode cX6_init 95 = .ok (.aload_n 0, 1) := by decide +kernel
theorem dX6_init_96 : decode cX6_init 96 = .ok (.bipush 80, 2) := by decide +kernel
theorem dX6_init_98 : decode cX6_init 98 = .ok (.newarray .int, 2) := by decide +kernel
theorem dX6_init_100 : decode cX6_init 100 = .ok (.putfield 44, 3) := by decide +kernel
theorem dX6_init_103 : decode cX6_init 103 = .ok (.aload_n 0, 1) := by decide +kernel
theorem dX6_init_104 : decode cX6_init 104 = .ok (.bipush 80, 2) := by decide +kernel
theorem dX6_init_106 : decode cX6_init 106 = .ok (.newarray .int, 2) := by decide +kernel
theorem dX6_init_108 : decode cX6_init 108 = .ok (.putfield 47, 3) := by decide +kernel
theorem dX6_init_111 : decode cX6_init 111 = .ok (.aload_n 0, 1) := by decide +kernel
theorem dX6_init_112 : decode cX6_init 112 = .ok (.bipush 80, 2) := by decide +kernel
theorem dX6_init_114 : decode cX6_init 114 = .ok (.newarray .int, 2) := by decide +kernel
theorem dX6_init_116 : decode cX6_init 116 = .ok (.putfield 50, 3) := by decide +kernel
theorem dX6_init_119 : decode cX6_init 119 = .ok (.aload_n 0, 1) := by decide +kernel
theorem dX6_init_120 : decode cX6_init 120 = .ok (.bipush 80, 2) := by decide +kernel
theorem dX6_init_122 : decode cX6_init 122 = .ok (.newarray .int, 2) := by decide +kernel
theorem dX6_init_124 : decode cX6_init 124 = .ok (.putfield 53, 3) := by decide +kernel
theorem dX6_init_127 : decode cX6_init 127 = .ok (.aload_n 0, 1) := by decide +kernel
theorem dX6_init_128 : decode cX6_init 128 = .ok (.sipush 20001, 3) := by decide +kernel
theorem dX6_init_131 : decode cX6_init 131 = .ok (.newarray .int, 2) := by decide +kernel
theorem dX6_init_133 : decode cX6_init 133 = .ok (.putfield 56, 3) := by decide +kernel
theorem dX6_init_136 : decode cX6_init 136 = .ok (.aload_n 0, 1) := by decide +kernel
theorem dX6_init_137 : decode cX6_init 137 = .ok (.sipush 20001, 3) := by decide +kernel
theorem dX6_init_140 : decode cX6_init 140 = .ok (.newarray .int, 2) := by decide +kernel
theorem dX6_init_142 : decode cX6_init 142 = .ok (.putfield 59, 3) := by decide +kernel
theorem dX6_init_145 : decode cX6_init 145 = .ok (.aload_n 0, 1) := by decide +kernel
theorem dX6_init_146 : decode cX6_init 146 = .ok (.bipush 100, 2) := by decide +kernel
theorem dX6_init_148 : decode cX6_init 148 = .ok (.newarray .int, 2) := by decide +kernel
theorem dX6_init_150 : decode cX6_init 150 = .ok (.putfield 62, 3) := by decide +kernel
theorem dX6_init_153 : decode cX6_init 153 = .ok (.aload_n 0, 1) := by decide +kernel
theorem dX6_init_154 : decode cX6_init 154 = .ok (.bipush 10, 2) := by decide +kernel
theorem dX6_init_156 : decode cX6_init 156 = .ok (.newarray .long, 2) := by decide +kernel
theorem dX6_init_158 : decode cX6_init 158 = .ok (.putfield 65, 3) := by decide +kernel
theorem dX6_init_161 : decode cX6_init 161 = .ok (.aload_n 0, 1) := by decide +kernel
theorem dX6_init_162 : decode cX6_init 162 = .ok (.bipush 100, 2) := by decide +kernel
theorem dX6_init_164 : decode cX6_init 164 = .ok (.newarray .boolean, 2) := by decide +kernel
theorem dX6_init_166 : decode cX6_init 166 = .ok (.putfield 69, 3) := by decide +kernel
theorem dX6_init_169 : decode cX6_init 169 = .ok (.aload_n 0, 1) := by decide +kernel
theorem dX6_init_170 : decode cX6_init 170 = .ok (.bipush 10, 2) := by decide +kernel
theorem dX6_init_172 : decode cX6_init 172 = .ok (.newarray .int, 2) := by decide +kernel
theorem dX6_init_174 : decode cX6_init 174 = .ok (.putfield 73, 3) := by decide +kernel
theorem dX6_init_177 : decode cX6_init 177 = .ok (.return_, 1) := by decide +kernel
theorem dX6_in_0 : decode cX6_in 0 = .ok (.lload_n 0, 1) := by decide +kernel
theorem dX6_in_1 : decode cX6_in 1 = .ok (.lload_n 2, 1) := by decide +kernel
theorem dX6_in_2 : decode cX6_in 2 = .ok (.lcmp, 1) := by decide +kernel
theorem dX6_in_3 : decode cX6_in 3 = .ok (.ifCond .lt 14, 3) := by decide +kernel
theorem dX6_in_6 : decode cX6_in 6 = .ok (.lload_n 0, 1) := by decide +kernel
theorem dX6_in_7 : decode cX6_in 7 = .ok (.lload 4, 2) := by decide +kernel
theorem dX6_in_9 : decode cX6_in 9 = .ok (.lcmp, 1) := by decide +kernel
theorem dX6_in_10 : decode cX6_in 10 = .ok (.ifCond .gt 7, 3) := by decide +kernel
theorem dX6_in_13 : decode cX6_in 13 = .ok (.iconst 1, 1) := by decide +kernel
theorem dX6_in_14 : decode cX6_in 14 = .ok (.goto 4, 3) := by decide +kernel
theorem dX6_in_17 : decode cX6_in 17 = .ok (.iconst 0, 1) := by decide +kernel
theorem dX6_in_18 : decode cX6_in 18 = .ok (.ireturn, 1) := by decide +kernel
set_option maxRecDepth 20000 in
theorem ggX6_noUnit_X6_in : GoodIn wsX6_noUnit wsX6_in := goodIn_r _ [5] (by decide +kernel) (by decide +kernel)
set_option maxRecDepth 20000 in
theorem gX6_noUnit_X6_in : GoodIn wsX6_noUnit (va_wsS RX6 79 yX6_in wsX6_in) := goodIn_app (goodIn_of _ (by decide +kernel)) ggX6_noUnit_X6_in
theorem dX6_noUnit_0 : decode cX6_noUnit 0 = .ok (.iload_n 1, 1) := by decide +kernel
theorem dX6_noUnit_1 : decode cX6_noUnit 1 = .ok (.i2l, 1) := by decide +kernel
theorem dX6_noUnit_2 : decode cX6_noUnit 2 = .ok (.lconst 0, 1) := by decide +kernel
theorem dX6_noUnit_3 : decode cX6_noUnit 3 = .ok (.aload_n 0, 1) := by decide +kernel
theorem dX6_noUnit_4 : decode cX6_noUnit 4 = .ok (.getfield 7, 3) := by decide +kernel
theorem dX6_noUnit_7 : decode cX6_noUnit 7 = .ok (.iconst 1, 1) := by decide +kernel
theorem dX6_noUnit_8 : decode cX6_noUnit 8 = .ok (.isub, 1) := by decide +kernel
theorem dX6_noUnit_9 : decode cX6_noUnit 9 = .ok (.i2l, 1) := by decide +kernel
theorem dX6_noUnit_10 : decode cX6_noUnit 10 = .ok (.invokestatic 79, 3) := by decide +kernel
theorem dX6_noUnit_13 : decode cX6_noUnit 13 = .ok (.ifCond .ne 7, 3) := by decide +kernel
theorem dX6_noUnit_16 : decode cX6_noUnit 16 = .ok (.iconst 1, 1) := by decide +kernel
theorem dX6_noUnit_17 : decode cX6_noUnit 17 = .ok (.goto 4, 3) := by decide +kernel
theorem dX6_noUnit_20 : decode cX6_noUnit 20 = .ok (.iconst 0, 1) := by decide +kernel
theorem dX6_noUnit_21 : decode cX6_noUnit 21 = .ok (.ireturn, 1) := by decide +kernel
set_option maxRecDepth 20000 in
theorem ggX6_noDay_X6_in : GoodIn wsX6_noDay wsX6_in := goodIn_r _ [5] (by decide +kernel) (by decide +kernel)
set_option maxRecDepth 20000 in
theorem gX6_noDay_X6_in : GoodIn wsX6_noDay (va_wsS RX6 79 yX6_in wsX6_in) := goodIn_app (goodIn_of _ (by decide +kernel)) ggX6_noDay_X6_in
theorem dX6_noDay_0 : decode cX6_noDay 0 = .ok (.iload_n 0, 1) := by decide +kernel
theorem dX6_noDay_1 : decode cX6_noDay 1 = .ok (.i2l, 1) := by decide +kernel
theorem dX6_noDay_2 : decode cX6_noDay 2 = .ok (.lconst 0, 1) := by decide +kernel
theorem dX6_noDay_3 : decode cX6_noDay 3 = .ok (.ldc2_w 83, 3) := by decide +kernel
theorem dX6_noDay_6 : decode cX6_noDay 6 = .ok (.invokestatic 79, 3) := by decide +kernel
theorem dX6_noDay_9 : decode cX6_noDay 9 = .ok (.ifCond .ne 7, 3) := by decide +kernel
theorem dX6_noDay_12 : decode cX6_noDay 12 = .ok (.iconst 1, 1) := by decide +kernel
theorem dX6_noDay_13 : decode cX6_noDay 13 = .ok (.goto 4, 3) := by decide +kernel
theorem dX6_noDay_16 : decode cX6_noDay 16 = .ok (.iconst 0, 1) := by decide +kernel
theorem dX6_noDay_17 : decode cX6_noDay 17 = .ok (.ireturn, 1) := by decide +kernel
set_option maxRecDepth 20000 in
theorem ggX6_noYear_X6_in : GoodIn wsX6_noYear wsX6_in := goodIn_r _ [5] (by decide +kernel) (by decide +kernel)
set_option maxRecDepth 20000 in
theorem gX6_noYear_X6_in : GoodIn wsX6_noYear (va_wsS RX6 79 yX6_in wsX6_in) := goodIn_app (goodIn_of _ (by decide +kernel)) ggX6_noYear_X6_in
theorem dX6_noYear_0 : decode cX6_noYear 0 = .ok (.iload_n 0, 1) := by decide +kernel
theorem dX6_noYear_1 : decode cX6_noYear 1 = .ok (.i2l, 1) := by decide +kernel
theorem dX6_noYear_2 : decode cX6_noYear 2 = .ok (.lconst 0, 1) := by decide +kernel
theorem dX6_noYear_3 : decode cX6_noYear 3 = .ok (.ldc2_w 85, 3) := by decide +kernel
theorem dX6_noYear_6 : decode cX6_noYear 6 = .ok (.invokestatic 79, 3) := by decide +kernel
theorem dX6_noYear_9 : decode cX6_noYear 9 = .ok (.ifCond .ne 7, 3) := by decide +kernel
theorem dX6_noYear_12 : decode cX6_noYear 12 = .ok (.iconst 1, 1) := by decide +kernel
theorem dX6_noYear_13 : decode cX6_noYear 13 = .ok (.goto 4, 3) := by decide +kernel
theorem dX6_noYear_16 : decode cX6_noYear 16 = .ok (.iconst 0, 1) := by decide +kernel
theorem dX6_noYear_17 : decode cX6_noYear 17 = .ok (.ireturn, 1) := by decide +kernel
set_option maxRecDepth 20000 in
theorem ggX6_noAs_X6_in : GoodIn wsX6_noAs wsX6_in := goodIn_r _ [5] (by decide +kernel) (by decide +kernel)
set_option maxRecDepth 20000 in
theorem gX6_noAs_X6_in : GoodIn wsX6_noAs (va_wsS RX6 79 yX6_in wsX6_in) := goodIn_app (goodIn_of _ (by decide +kernel)) ggX6_noAs_X6_in
theorem dX6_noAs_0 : decode cX6_noAs 0 = .ok (.iload_n 1, 1) := by decide +kernel
theorem dX6_noAs_1 : decode cX6_noAs 1 = .ok (.bipush (-9), 2) := by decide +kernel
theorem dX6_noAs_3 : decode cX6_noAs 3 = .ok (.if_icmp .eq 23, 3) := by decide +kernel
theorem dX6_noAs_6 : decode cX6_noAs 6 = .ok (.iload_n 1, 1) := by decide +kernel
theorem dX6_noAs_7 : decode cX6_noAs 7 = .ok (.i2l, 1) := by decide +kernel
theorem dX6_noAs_8 : decode cX6_noAs 8 = .ok (.lconst 0, 1) := by decide +kernel
theorem dX6_noAs_9 : decode cX6_noAs 9 = .ok (.aload_n 0, 1) := by decide +kernel
theorem dX6_noAs_10 : decode cX6_noAs 10 = .ok (.getfield 87, 3) := by decide +kernel
theorem dX6_noAs_13 : decode cX6_noAs 13 = .ok (.iconst 1, 1) := by decide +kernel
theorem dX6_noAs_14 : decode cX6_noAs 14 = .ok (.isub, 1) := by decide +kernel
theorem dX6_noAs_15 : decode cX6_noAs 15 = .ok (.i2l, 1) := by decide +kernel
theorem dX6_noAs_16 : decode cX6_noAs 16 = .ok (.invokestatic 79, 3) := by decide +kernel
theorem dX6_noAs_19 : decode cX6_noAs 19 = .ok (.ifCond .ne 7, 3) := by decide +kernel
theorem dX6_noAs_22 : decode cX6_noAs 22 = .ok (.iconst 1, 1) := by decide +kernel
theorem dX6_noAs_23 : decode cX6_noAs 23 = .ok (.goto 4, 3) := by decide +kernel
theorem dX6_noAs_26 : decode cX6_noAs 26 = .ok (.iconst 0, 1) := by decide +kernel
theorem dX6_noAs_27 : decode cX6_noAs 27 = .ok (.ireturn, 1) := by decide +kernel
set_option maxRecDepth 20000 in
theorem ggX6_noRow_X6_in : GoodIn wsX6_noRow wsX6_in := goodIn_r _ [5] (by decide +kernel) (by decide +kernel)
set_option maxRecDepth 20000 in
theorem gX6_noRow_X6_in : GoodIn wsX6_noRow (va_wsS RX6 79 yX6_in wsX6_in) := goodIn_app (goodIn_of _ (by decide +kernel)) ggX6_noRow_X6_in
theorem dX6_noRow_0 : decode cX6_noRow 0 = .ok (.iload_n 1, 1) := by decide +kernel
theorem dX6_noRow_1 : decode cX6_noRow 1 = .ok (.i2l, 1) := by decide +kernel
theorem dX6_noRow_2 : decode cX6_noRow 2 = .ok (.lconst 0, 1) := by decide +kernel
theorem dX6_noRow_3 : decode cX6_noRow 3 = .ok (.aload_n 0, 1) := by decide +kernel
theorem dX6_noRow_4 : decode cX6_noRow 4 = .ok (.getfield 90, 3) := by decide +kernel
theorem dX6_noRow_7 : decode cX6_noRow 7 = .ok (.iconst 1, 1) := by decide +kernel
theorem dX6_noRow_8 : decode cX6_noRow 8 = .ok (.isub, 1) := by decide +kernel
theorem dX6_noRow_9 : decode cX6_noRow 9 = .ok (.i2l, 1) := by decide +kernel
theorem dX6_noRow_10 : decode cX6_noRow 10 = .ok (.invokestatic 79, 3) := by decide +kernel
theorem dX6_noRow_13 : decode cX6_noRow 13 = .ok (.ifCond .ne 7, 3) := by decide +kernel
theorem dX6_noRow_16 : decode cX6_noRow 16 = .ok (.iconst 1, 1) := by decide +kernel
theorem dX6_noRow_17 : decode cX6_noRow 17 = .ok (.goto 4, 3) := by decide +kernel
theorem dX6_noRow_20 : decode cX6_noRow 20 = .ok (.iconst 0, 1) := by decide +kernel
theorem dX6_noRow_21 : decode cX6_noRow 21 = .ok (.ireturn, 1) := by decide +kernel
theorem dX6_unit_0 : decode cX6_unit 0 = .ok (.aload_n 0, 1) := by decide +kernel
theorem dX6_unit_1 : decode cX6_unit 1 = .ok (.iconst 0, 1) := by decide +kernel
theorem dX6_unit_2 : decode cX6_unit 2 = .ok (.putfield 76, 3) := by decide +kernel
theorem dX6_unit_5 : decode cX6_unit 5 = .ok (.aload_n 0, 1) := by decide +kernel
theorem dX6_unit_6 : decode cX6_unit 6 = .ok (.getfield 7, 3) := by decide +kernel
theorem dX6_unit_9 : decode cX6_unit 9 = .ok (.bipush 10, 2) := by decide +kernel
theorem dX6_unit_11 : decode cX6_unit 11 = .ok (.if_icmp .ne 6, 3) := by decide +kernel
theorem dX6_unit_14 : decode cX6_unit 14 = .ok (.bipush (-4), 2) := by decide +kernel
theorem dX6_unit_16 : decode cX6_unit 16 = .ok (.ireturn, 1) := by decide +kernel
theorem dX6_unit_17 : decode cX6_unit 17 = .ok (.aload_n 0, 1) := by decide +kernel
theorem dX6_unit_18 : decode cX6_unit 18 = .ok (.dup, 1) := by decide +kernel
theorem dX6_unit_19 : decode cX6_unit 19 = .ok (.getfield 7, 3) := by decide +kernel
theorem dX6_unit_22 : decode cX6_unit 22 = .ok (.iconst 1, 1) := by decide +kernel
theorem dX6_unit_23 : decode cX6_unit 23 = .ok (.iadd, 1) := by decide +kernel
theorem dX6_unit_24 : decode cX6_unit 24 = .ok (.putfield 7, 3) := by decide +kernel
theorem dX6_unit_27 : decode cX6_unit 27 = .ok (.aload_n 0, 1) := by decide +kernel
theorem dX6_unit_28 : decode cX6_unit 28 = .ok (.getfield 7, 3) := by decide +kernel
theorem dX6_unit_31 : decode cX6_unit 31 = .ok (.iconst 1, 1) := by decide +kernel
theorem dX6_unit_32 : decode cX6_unit 32 = .ok (.isub, 1) := by decide +kernel
theorem dX6_unit_33 : decode cX6_unit 33 = .ok (.ireturn, 1) := by decide +kernel
theorem dX6_lay_0 : decode cX6_lay 0 = .ok (.iconst 0, 1) := by decide +kernel
theorem dX6_lay_1 : decode cX6_lay 1 = .ok (.istore_n 2, 1) := by decide +kernel
theorem dX6_lay_2 : decode cX6_lay 2 = .ok (.iload_n 2, 1) := by decide +kernel
theorem dX6_lay_3 : decode cX6_lay 3 = .ok (.bipush 100, 2) := by decide +kernel
theorem dX6_lay_5 : decode cX6_lay 5 = .ok (.if_icmp .ge 27, 3) := by decide +kernel
theorem dX6_lay_8 : decode cX6_lay 8 = .ok (.aload_n 0, 1) := by decide +kernel
theorem dX6_lay_9 : decode cX6_lay 9 = .ok (.getfield 62, 3) := by decide +kernel
theorem dX6_lay_12 : decode cX6_lay 12 = .ok (.iload_n 2, 1) := by decide +kernel
theorem dX6_lay_13 : decode cX6_lay 13 = .ok (.iconst 0, 1) := by decide +kernel
theorem dX6_lay_14 : decode cX6_lay 14 = .ok (.iastore, 1) := by decide +kernel
theorem dX6_lay_15 : decode cX6_lay 15 = .ok (.aload_n 0, 1) := by decide +kernel
theorem dX6_lay_16 : decode cX6_lay 16 = .ok (.getfield 73, 3) := by decide +kernel
theorem dX6_lay_19 : decode cX6_lay 19 = .ok (.iload_n 2, 1) := by decide +kernel
theorem dX6_lay_20 : decode cX6_lay 20 = .ok (.bipush 10, 2) := by decide +kernel
theorem dX6_lay_22 : decode cX6_lay 22 = .ok (.idiv, 1) := by decide +kernel
theorem dX6_lay_23 : decode cX6_lay 23 = .ok (.bipush (-9), 2) := by decide +kernel
theorem dX6_lay_25 : decode cX6_lay 25 = .ok (.iastore, 1) := by decide +kernel
theorem dX6_lay_26 : decode cX6_lay 26 = .ok (.iinc 2 1, 3) := by decide +kernel
theorem dX6_lay_29 : decode cX6_lay 29 = .ok (.goto (-27), 3) := by decide +kernel
theorem dX6_lay_32 : decode cX6_lay 32 = .ok (.iconst 0, 1) := by decide +kernel
theorem dX6_lay_33 : decode cX6_lay 33 = .ok (.istore_n 2, 1) := by decide +kernel
theorem dX6_lay_34 : decode cX6_lay 34 = .ok (.iload_n 2, 1) := by decide +kernel
theorem dX6_lay_35 : decode cX6_lay 35 = .ok (.bipush 100, 2) := by decide +kernel
theorem dX6_lay_37 : decode cX6_lay 37 = .ok (.if_icmp .ge 16, 3) := by decide +kernel
theorem dX6_lay_40 : decode cX6_lay 40 = .ok (.aload_n 0, 1) := by decide +kernel
theorem dX6_lay_41 : decode cX6_lay 41 = .ok (.getfield 69, 3) := by decide +kernel
theorem dX6_lay_44 : decode cX6_lay 44 = .ok (.iload_n 2, 1) := by decide +kernel
theorem dX6_lay_45 : decode cX6_lay 45 = .ok (.iconst 0, 1) := by decide +kernel
theorem dX6_lay_46 : decode cX6_lay 46 = .ok (.bastore, 1) := by decide +kernel
theorem dX6_lay_47 : decode cX6_lay 47 = .ok (.iinc 2 1, 3) := by decide +kernel
theorem dX6_lay_50 : decode cX6_lay 50 = .ok (.goto (-16), 3) := by decide +kernel
theorem dX6_lay_53 : decode cX6_lay 53 = .ok (.iconst 0, 1) := by decide +kernel
theorem dX6_lay_54 : decode cX6_lay 54 = .ok (.istore_n 2, 1) := by decide +kernel
theorem dX6_lay_55 : decode cX6_lay 55 = .ok (.iload_n 2, 1) := by decide +kernel
theorem dX6_lay_56 : decode cX6_lay 56 = .ok (.aload_n 0, 1) := by decide +kernel
theorem dX6_lay_57 : decode cX6_lay 57 = .ok (.getfield 93, 3) := by decide +kernel
theorem dX6_lay_60 : decode cX6_lay 60 = .ok (.if_icmp .ge 159, 3) := by decide +kernel
theorem dX6_lay_63 : decode cX6_lay 63 = .ok (.bipush 10, 2) := by decide +kernel
theorem dX6_lay_65 : decode cX6_lay 65 = .ok (.aload_n 0, 1) := by decide +kernel
theorem dX6_lay_66 : decode cX6_lay 66 = .ok (.getfield 13, 3) := by decide +kernel
theorem dX6_lay_69 : decode cX6_lay 69 = .ok (.iload_n 2, 1) := by decide +kernel
theorem dX6_lay_70 : decode cX6_lay 70 = .ok (.iaload, 1) := by decide +kernel
theorem dX6_lay_71 : decode cX6_lay 71 = .ok (.imul, 1) := by decide +kernel
theorem dX6_lay_72 : decode cX6_lay 72 = .ok (.aload_n 0, 1) := by decide +kernel
theorem dX6_lay_73 : decode cX6_lay 73 = .ok (.getfield 17, 3) := by decide +kernel
theorem dX6_lay_76 : decode cX6_lay 76 = .ok (.iload_n 2, 1) := by decide +kernel
theorem dX6_lay_77 : decode cX6_lay 77 = .ok (.iaload, 1) := by decide +kernel
theorem dX6_lay_78 : decode cX6_lay 78 = .ok (.iadd, 1) := by decide +kernel
theorem dX6_lay_79 : decode cX6_lay 79 = .ok (.istore_n 3, 1) := by decide +kernel
theorem dX6_lay_80 : decode cX6_lay 80 = .ok (.bipush (-9), 2) := by decide +kernel
theorem dX6_lay_82 : decode cX6_lay 82 = .ok (.istore 4, 2) := by decide +kernel
theorem dX6_lay_84 : decode cX6_lay 84 = .ok (.aload_n 0, 1) := by decide +kernel
theorem dX6_lay_85 : decode cX6_lay 85 = .ok (.getfield 69, 3) := by decide +kernel
theorem dX6_lay_88 : decode cX6_lay 88 = .ok (.iload_n 3, 1) := by decide +kernel
theorem dX6_lay_89 : decode cX6_lay 89 = .ok (.baload, 1) := by decide +kernel
theorem dX6_lay_90 : decode cX6_lay 90 = .ok (.ifCond .ne 123, 3) := by decide +kernel
theorem dX6_lay_93 : decode cX6_lay 93 = .ok (.iload_n 2, 1) := by decide +kernel
theorem dX6_lay_94 : decode cX6_lay 94 = .ok (.istore 5, 2) := by decide +kernel
theorem dX6_lay_96 : decode cX6_lay 96 = .ok (.iload 5, 2) := by decide +kernel
theorem dX6_lay_98 : decode cX6_lay 98 = .ok (.aload_n 0, 1) := by decide +kernel
theorem dX6_lay_99 : decode cX6_lay 99 = .ok (.getfield 93, 3) := by decide +kernel
theorem dX6_lay_102 : decode cX6_lay 102 = .ok (.if_icmp .ge 80, 3) := by decide +kernel
theorem dX6_lay_105 : decode cX6_lay 105 = .ok (.aload_n 0, 1) := by decide +kernel
theorem dX6_lay_106 : decode cX6_lay 106 = .ok (.getfield 13, 3) := by decide +kernel
theorem dX6_lay_109 : decode cX6_lay 109 = .ok (.iload 5, 2) := by decide +kernel
theorem dX6_lay_111 : decode cX6_lay 111 = .ok (.iaload, 1) := by decide +kernel
theorem dX6_lay_112 : decode cX6_lay 112 = .ok (.aload_n 0, 1) := by decide +kernel
theorem dX6_lay_113 : decode cX6_lay 113 = .ok (.getfield 13, 3) := by decide +kernel
theorem dX6_lay_116 : decode cX6_lay 116 = .ok (.iload_n 2, 1) := by decide +kernel
theorem dX6_lay_117 : decode cX6_lay 117 = .ok (.iaload, 1) := by decide +kernel
theorem dX6_lay_118 : decode cX6_lay 118 = .ok (.if_icmp .ne 58, 3) := by decide +kernel
theorem dX6_lay_121 : decode cX6_lay 121 = .ok (.aload_n 0, 1) := by decide +kernel
theorem dX6_lay_122 : decode cX6_lay 122 = .ok (.getfield 17, 3) := by decide +kernel
theorem dX6_lay_125 : decode cX6_lay 125 = .ok (.iload 5, 2) := by decide +kernel
theorem dX6_lay_127 : decode cX6_lay 127 = .ok (.iaload, 1) := by decide +kernel
theorem dX6_lay_128 : decode cX6_lay 128 = .ok (.aload_n 0, 1) := by decide +kernel
theorem dX6_lay_129 : decode cX6_lay 129 = .ok (.getfield 17, 3) := by decide +kernel
theorem dX6_lay_132 : decode cX6_lay 132 = .ok (.iload_n 2, 1) := by decide +kernel
theorem dX6_lay_133 : decode cX6_lay 133 = .ok (.iaload, 1) := by decide +kernel
theorem dX6_lay_134 : decode cX6_lay 134 = .ok (.if_icmp .ne 42, 3) := by decide +kernel
theorem dX6_lay_137 : decode cX6_lay 137 = .ok (.aload_n 0, 1) := by decide +kernel
theorem dX6_lay_138 : decode cX6_lay 138 = .ok (.getfield 23, 3) := by decide +kernel
theorem dX6_lay_141 : decode cX6_lay 141 = .ok (.iload 5, 2) := by decide +kernel
theorem dX6_lay_143 : decode cX6_lay 143 = .ok (.iaload, 1) := by decide +kernel
theorem dX6_lay_144 : decode cX6_lay 144 = .ok (.iload_n 1, 1) := by decide +kernel
theorem dX6_lay_145 : decode cX6_lay 145 = .ok (.if_icmp .gt 31, 3) := by decide +kernel
theorem dX6_lay_148 : decode cX6_lay 148 = .ok (.iload 4, 2) := by decide +kernel
theorem dX6_lay_150 : decode cX6_lay 150 = .ok (.bipush (-9), 2) := by decide +kernel
theorem dX6_lay_152 : decode cX6_lay 152 = .ok (.if_icmp .eq 20, 3) := by decide +kernel
theorem dX6_lay_155 : decode cX6_lay 155 = .ok (.aload_n 0, 1) := by decide +kernel
theorem dX6_lay_156 : decode cX6_lay 156 = .ok (.getfield 23, 3) := by decide +kernel
theorem dX6_lay_159 : decode cX6_lay 159 = .ok (.iload 5, 2) := by decide +kernel
theorem dX6_lay_161 : decode cX6_lay 161 = .ok (.iaload, 1) := by decide +kernel
theorem dX6_lay_162 : decode cX6_lay 162 = .ok (.aload_n 0, 1) := by decide +kernel
theorem dX6_lay_163 : decode cX6_lay 163 = .ok (.getfield 23, 3) := by decide +kernel
theorem dX6_lay_166 : decode cX6_lay 166 = .ok (.iload 4, 2) := by decide +kernel
theorem dX6_lay_168 : decode cX6_lay 168 = .ok (.iaload, 1) := by decide +kernel
theorem dX6_lay_169 : decode cX6_lay 169 = .ok (.if_icmp .le 7, 3) := by decide +kernel
theorem dX6_lay_172 : decode cX6_lay 172 = .ok (.iload 5, 2) := by decide +kernel
theorem dX6_lay_174 : decode cX6_lay 174 = .ok (.istore 4, 2) := by decide +kernel
theorem dX6_lay_176 : decode cX6_lay 176 = .ok (.iinc 5 1, 3) := by decide +kernel
theorem dX6_lay_179 : decode cX6_lay 179 = .ok (.goto (-83), 3) := by decide +kernel
theorem dX6_lay_182 : decode cX6_lay 182 = .ok (.aload_n 0, 1) := by decide +kernel
theorem dX6_lay_183 : decode cX6_lay 183 = .ok (.getfield 62, 3) := by decide +kernel
theorem dX6_lay_186 : decode cX6_lay 186 = .ok (.iload_n 3, 1) := by decide +kernel
theorem dX6_lay_187 : decode cX6_lay 187 = .ok (.iload 4, 2) := by decide +kernel
theorem dX6_lay_189 : decode cX6_lay 189 = .ok (.bipush (-9), 2) := by decide +kernel
theorem dX6_lay_191 : decode cX6_lay 191 = .ok (.if_icmp .ne 7, 3) := by decide +kernel
theorem dX6_lay_194 : decode cX6_lay 194 = .ok (.iconst 0, 1) := by decide +kernel
theorem dX6_lay_195 : decode cX6_lay 195 = .ok (.goto 10, 3) := by decide +kernel
theorem dX6_lay_198 : decode cX6_lay 198 = .ok (.aload_n 0, 1) := by decide +kernel
theorem dX6_lay_199 : decode cX6_lay 199 = .ok (.getfield 20, 3) := by decide +kernel
theorem dX6_lay_202 : decode cX6_lay 202 = .ok (.iload 4, 2) := by decide +kernel
theorem dX6_lay_204 : decode cX6_lay 204 = .ok (.iaload, 1) := by decide +kernel
