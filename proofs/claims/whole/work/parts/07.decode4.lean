theorem dX6_issue_14 : decode cX6_issue 14 = .ok (.ireturn, 1) := by decide +kernel
theorem dX6_issue_15 : decode cX6_issue 15 = .ok (.iload_n 2, 1) := by decide +kernel
theorem dX6_issue_16 : decode cX6_issue 16 = .ok (.i2l, 1) := by decide +kernel
theorem dX6_issue_17 : decode cX6_issue 17 = .ok (.lconst 1, 1) := by decide +kernel
theorem dX6_issue_18 : decode cX6_issue 18 = .ok (.ldc2_w 162, 3) := by decide +kernel
theorem dX6_issue_21 : decode cX6_issue 21 = .ok (.invokestatic 79, 3) := by decide +kernel
theorem dX6_issue_24 : decode cX6_issue 24 = .ok (.ifCond .ne 6, 3) := by decide +kernel
theorem dX6_issue_27 : decode cX6_issue 27 = .ok (.bipush (-2), 2) := by decide +kernel
theorem dX6_issue_29 : decode cX6_issue 29 = .ok (.ireturn, 1) := by decide +kernel
theorem dX6_issue_30 : decode cX6_issue 30 = .ok (.aload_n 0, 1) := by decide +kernel
theorem dX6_issue_31 : decode cX6_issue 31 = .ok (.getfield 164, 3) := by decide +kernel
theorem dX6_issue_34 : decode cX6_issue 34 = .ok (.iload_n 2, 1) := by decide +kernel
theorem dX6_issue_35 : decode cX6_issue 35 = .ok (.iadd, 1) := by decide +kernel
theorem dX6_issue_36 : decode cX6_issue 36 = .ok (.sipush 20000, 3) := by decide +kernel
theorem dX6_issue_39 : decode cX6_issue 39 = .ok (.if_icmp .le 6, 3) := by decide +kernel
theorem dX6_issue_42 : decode cX6_issue 42 = .ok (.bipush (-4), 2) := by decide +kernel
theorem dX6_issue_44 : decode cX6_issue 44 = .ok (.ireturn, 1) := by decide +kernel
theorem dX6_issue_45 : decode cX6_issue 45 = .ok (.aload_n 0, 1) := by decide +kernel
theorem dX6_issue_46 : decode cX6_issue 46 = .ok (.getfield 164, 3) := by decide +kernel
theorem dX6_issue_49 : decode cX6_issue 49 = .ok (.iconst 1, 1) := by decide +kernel
theorem dX6_issue_50 : decode cX6_issue 50 = .ok (.iadd, 1) := by decide +kernel
theorem dX6_issue_51 : decode cX6_issue 51 = .ok (.istore_n 3, 1) := by decide +kernel
theorem dX6_issue_52 : decode cX6_issue 52 = .ok (.iconst 0, 1) := by decide +kernel
theorem dX6_issue_53 : decode cX6_issue 53 = .ok (.istore 4, 2) := by decide +kernel
theorem dX6_issue_55 : decode cX6_issue 55 = .ok (.iload 4, 2) := by decide +kernel
theorem dX6_issue_57 : decode cX6_issue 57 = .ok (.iload_n 2, 1) := by decide +kernel
theorem dX6_issue_58 : decode cX6_issue 58 = .ok (.if_icmp .ge 40, 3) := by decide +kernel
theorem dX6_issue_61 : decode cX6_issue 61 = .ok (.aload_n 0, 1) := by decide +kernel
theorem dX6_issue_62 : decode cX6_issue 62 = .ok (.dup, 1) := by decide +kernel
theorem dX6_issue_63 : decode cX6_issue 63 = .ok (.getfield 164, 3) := by decide +kernel
theorem dX6_issue_66 : decode cX6_issue 66 = .ok (.iconst 1, 1) := by decide +kernel
theorem dX6_issue_67 : decode cX6_issue 67 = .ok (.iadd, 1) := by decide +kernel
theorem dX6_issue_68 : decode cX6_issue 68 = .ok (.putfield 164, 3) := by decide +kernel
theorem dX6_issue_71 : decode cX6_issue 71 = .ok (.aload_n 0, 1) := by decide +kernel
theorem dX6_issue_72 : decode cX6_issue 72 = .ok (.getfield 56, 3) := by decide +kernel
theorem dX6_issue_75 : decode cX6_issue 75 = .ok (.aload_n 0, 1) := by decide +kernel
theorem dX6_issue_76 : decode cX6_issue 76 = .ok (.getfield 164, 3) := by decide +kernel
theorem dX6_issue_79 : decode cX6_issue 79 = .ok (.iload_n 1, 1) := by decide +kernel
theorem dX6_issue_80 : decode cX6_issue 80 = .ok (.iastore, 1) := by decide +kernel
theorem dX6_issue_81 : decode cX6_issue 81 = .ok (.aload_n 0, 1) := by decide +kernel
theorem dX6_issue_82 : decode cX6_issue 82 = .ok (.getfield 59, 3) := by decide +kernel
theorem dX6_issue_85 : decode cX6_issue 85 = .ok (.aload_n 0, 1) := by decide +kernel
theorem dX6_issue_86 : decode cX6_issue 86 = .ok (.getfield 164, 3) := by decide +kernel
theorem dX6_issue_89 : decode cX6_issue 89 = .ok (.bipush (-9), 2) := by decide +kernel
theorem dX6_issue_91 : decode cX6_issue 91 = .ok (.iastore, 1) := by decide +kernel
theorem dX6_issue_92 : decode cX6_issue 92 = .ok (.iinc 4 1, 3) := by decide +kernel
theorem dX6_issue_95 : decode cX6_issue 95 = .ok (.goto (-40), 3) := by decide +kernel
theorem dX6_issue_98 : decode cX6_issue 98 = .ok (.iload_n 3, 1) := by decide +kernel
theorem dX6_issue_99 : decode cX6_issue 99 = .ok (.ireturn, 1) := by decide +kernel
theorem dX6_noSerials_0 : decode cX6_noSerials 0 = .ok (.iload_n 1, 1) := by decide +kernel
theorem dX6_noSerials_1 : decode cX6_noSerials 1 = .ok (.iconst 1, 1) := by decide +kernel
theorem dX6_noSerials_2 : decode cX6_noSerials 2 = .ok (.if_icmp .lt 19, 3) := by decide +kernel
theorem dX6_noSerials_5 : decode cX6_noSerials 5 = .ok (.iload_n 1, 1) := by decide +kernel
theorem dX6_noSerials_6 : decode cX6_noSerials 6 = .ok (.i2l, 1) := by decide +kernel
theorem dX6_noSerials_7 : decode cX6_noSerials 7 = .ok (.iload_n 2, 1) := by decide +kernel
theorem dX6_noSerials_8 : decode cX6_noSerials 8 = .ok (.i2l, 1) := by decide +kernel
theorem dX6_noSerials_9 : decode cX6_noSerials 9 = .ok (.ladd, 1) := by decide +kernel
theorem dX6_noSerials_10 : decode cX6_noSerials 10 = .ok (.lconst 1, 1) := by decide +kernel
theorem dX6_noSerials_11 : decode cX6_noSerials 11 = .ok (.lsub, 1) := by decide +kernel
theorem dX6_noSerials_12 : decode cX6_noSerials 12 = .ok (.aload_n 0, 1) := by decide +kernel
theorem dX6_noSerials_13 : decode cX6_noSerials 13 = .ok (.getfield 164, 3) := by decide +kernel
theorem dX6_noSerials_16 : decode cX6_noSerials 16 = .ok (.i2l, 1) := by decide +kernel
theorem dX6_noSerials_17 : decode cX6_noSerials 17 = .ok (.lcmp, 1) := by decide +kernel
theorem dX6_noSerials_18 : decode cX6_noSerials 18 = .ok (.ifCond .le 7, 3) := by decide +kernel
theorem dX6_noSerials_21 : decode cX6_noSerials 21 = .ok (.iconst 1, 1) := by decide +kernel
theorem dX6_noSerials_22 : decode cX6_noSerials 22 = .ok (.goto 4, 3) := by decide +kernel
theorem dX6_noSerials_25 : decode cX6_noSerials 25 = .ok (.iconst 0, 1) := by decide +kernel
theorem dX6_noSerials_26 : decode cX6_noSerials 26 = .ok (.ireturn, 1) := by decide +kernel
theorem dX6_hasUsed_0 : decode cX6_hasUsed 0 = .ok (.iconst 0, 1) := by decide +kernel
theorem dX6_hasUsed_1 : decode cX6_hasUsed 1 = .ok (.istore_n 3, 1) := by decide +kernel
theorem dX6_hasUsed_2 : decode cX6_hasUsed 2 = .ok (.iload_n 1, 1) := by decide +kernel
theorem dX6_hasUsed_3 : decode cX6_hasUsed 3 = .ok (.istore 4, 2) := by decide +kernel
theorem dX6_hasUsed_5 : decode cX6_hasUsed 5 = .ok (.iload 4, 2) := by decide +kernel
theorem dX6_hasUsed_7 : decode cX6_hasUsed 7 = .ok (.iload_n 1, 1) := by decide +kernel
theorem dX6_hasUsed_8 : decode cX6_hasUsed 8 = .ok (.iload_n 2, 1) := by decide +kernel
theorem dX6_hasUsed_9 : decode cX6_hasUsed 9 = .ok (.iadd, 1) := by decide +kernel
theorem dX6_hasUsed_10 : decode cX6_hasUsed 10 = .ok (.if_icmp .ge 31, 3) := by decide +kernel
theorem dX6_hasUsed_13 : decode cX6_hasUsed 13 = .ok (.iload_n 3, 1) := by decide +kernel
theorem dX6_hasUsed_14 : decode cX6_hasUsed 14 = .ok (.ifCond .ne 15, 3) := by decide +kernel
theorem dX6_hasUsed_17 : decode cX6_hasUsed 17 = .ok (.aload_n 0, 1) := by decide +kernel
theorem dX6_hasUsed_18 : decode cX6_hasUsed 18 = .ok (.getfield 59, 3) := by decide +kernel
theorem dX6_hasUsed_21 : decode cX6_hasUsed 21 = .ok (.iload 4, 2) := by decide +kernel
theorem dX6_hasUsed_23 : decode cX6_hasUsed 23 = .ok (.iaload, 1) := by decide +kernel
theorem dX6_hasUsed_24 : decode cX6_hasUsed 24 = .ok (.bipush (-9), 2) := by decide +kernel
theorem dX6_hasUsed_26 : decode cX6_hasUsed 26 = .ok (.if_icmp .eq 7, 3) := by decide +kernel
theorem dX6_hasUsed_29 : decode cX6_hasUsed 29 = .ok (.iconst 1, 1) := by decide +kernel
theorem dX6_hasUsed_30 : decode cX6_hasUsed 30 = .ok (.goto 4, 3) := by decide +kernel
theorem dX6_hasUsed_33 : decode cX6_hasUsed 33 = .ok (.iconst 0, 1) := by decide +kernel
theorem dX6_hasUsed_34 : decode cX6_hasUsed 34 = .ok (.istore_n 3, 1) := by decide +kernel
theorem dX6_hasUsed_35 : decode cX6_hasUsed 35 = .ok (.iinc 4 1, 3) := by decide +kernel
theorem dX6_hasUsed_38 : decode cX6_hasUsed 38 = .ok (.goto (-33), 3) := by decide +kernel
theorem dX6_hasUsed_41 : decode cX6_hasUsed 41 = .ok (.iload_n 3, 1) := by decide +kernel
theorem dX6_hasUsed_42 : decode cX6_hasUsed 42 = .ok (.ireturn, 1) := by decide +kernel
set_option maxRecDepth 20000 in
theorem ggX6_move_X6_noUnit : GoodIn wsX6_move wsX6_noUnit := goodIn_r _ [7, 8, 9, 10, 6, 11, 22, 23, 24, 25, 26, 27, 28, 29, 30, 31, 32, 33, 34, 35, 36, 37, 38, 39, 40, 41, 42, 43, 44, 45, 46, 47] (by decide +kernel) (by decide +kernel)
set_option maxRecDepth 20000 in
theorem gX6_move_X6_noUnit : GoodIn wsX6_move (wsV RX6 106 RX6 yX6_noUnit wsX6_noUnit) := goodIn_app (goodIn_of _ (by decide +kernel)) ggX6_move_X6_noUnit
set_option maxRecDepth 20000 in
theorem ggX6_move_X6_noSerials : GoodIn wsX6_move wsX6_noSerials := goodIn_r _ [15, 16, 22, 23, 24, 25, 26, 27, 28, 29, 30, 31, 32, 33, 34, 35, 36, 37, 38, 39, 40, 41, 42, 43, 44, 45, 46, 47] (by decide +kernel) (by decide +kernel)
set_option maxRecDepth 20000 in
theorem gX6_move_X6_noSerials : GoodIn wsX6_move (wsV RX6 167 RX6 yX6_noSerials wsX6_noSerials) := goodIn_app (goodIn_of _ (by decide +kernel)) ggX6_move_X6_noSerials
set_option maxRecDepth 20000 in
theorem ggX6_move_X6_hasUsed : GoodIn wsX6_move wsX6_hasUsed := goodIn_r _ [20, 21, 22, 23, 24, 25, 26, 27, 28, 29, 30, 31, 32, 33, 34, 35, 36, 37, 38, 39, 40, 41, 42, 43, 44, 45, 46, 47] (by decide +kernel) (by decide +kernel)
set_option maxRecDepth 20000 in
theorem gX6_move_X6_hasUsed : GoodIn wsX6_move (wsV RX6 170 RX6 yX6_hasUsed wsX6_hasUsed) := goodIn_app (goodIn_of _ (by decide +kernel)) ggX6_move_X6_hasUsed
theorem dX6_move_0 : decode cX6_move 0 = .ok (.aload_n 0, 1) := by decide +kernel
theorem dX6_move_1 : decode cX6_move 1 = .ok (.iconst 0, 1) := by decide +kernel
theorem dX6_move_2 : decode cX6_move 2 = .ok (.putfield 76, 3) := by decide +kernel
theorem dX6_move_5 : decode cX6_move 5 = .ok (.aload_n 0, 1) := by decide +kernel
theorem dX6_move_6 : decode cX6_move 6 = .ok (.iload_n 3, 1) := by decide +kernel
theorem dX6_move_7 : decode cX6_move 7 = .ok (.invokevirtual 106, 3) := by decide +kernel
theorem dX6_move_10 : decode cX6_move 10 = .ok (.ifCond .eq 5, 3) := by decide +kernel
theorem dX6_move_13 : decode cX6_move 13 = .ok (.iconst (-1), 1) := by decide +kernel
theorem dX6_move_14 : decode cX6_move 14 = .ok (.ireturn, 1) := by decide +kernel
theorem dX6_move_15 : decode cX6_move 15 = .ok (.iload_n 2, 1) := by decide +kernel
theorem dX6_move_16 : decode cX6_move 16 = .ok (.iconst 1, 1) := by decide +kernel
theorem dX6_move_17 : decode cX6_move 17 = .ok (.if_icmp .ge 6, 3) := by decide +kernel
theorem dX6_move_20 : decode cX6_move 20 = .ok (.bipush (-2), 2) := by decide +kernel
theorem dX6_move_22 : decode cX6_move 22 = .ok (.ireturn, 1) := by decide +kernel
theorem dX6_move_23 : decode cX6_move 23 = .ok (.aload_n 0, 1) := by decide +kernel
theorem dX6_move_24 : decode cX6_move 24 = .ok (.iload_n 1, 1) := by decide +kernel
theorem dX6_move_25 : decode cX6_move 25 = .ok (.iload_n 2, 1) := by decide +kernel
theorem dX6_move_26 : decode cX6_move 26 = .ok (.invokevirtual 167, 3) := by decide +kernel
theorem dX6_move_29 : decode cX6_move 29 = .ok (.ifCond .eq 5, 3) := by decide +kernel
theorem dX6_move_32 : decode cX6_move 32 = .ok (.iconst (-1), 1) := by decide +kernel
theorem dX6_move_33 : decode cX6_move 33 = .ok (.ireturn, 1) := by decide +kernel
theorem dX6_move_34 : decode cX6_move 34 = .ok (.aload_n 0, 1) := by decide +kernel
theorem dX6_move_35 : decode cX6_move 35 = .ok (.iload_n 1, 1) := by decide +kernel
theorem dX6_move_36 : decode cX6_move 36 = .ok (.iload_n 2, 1) := by decide +kernel
theorem dX6_move_37 : decode cX6_move 37 = .ok (.invokevirtual 170, 3) := by decide +kernel
theorem dX6_move_40 : decode cX6_move 40 = .ok (.ifCond .eq 6, 3) := by decide +kernel
theorem dX6_move_43 : decode cX6_move 43 = .ok (.bipush (-3), 2) := by decide +kernel
theorem dX6_move_45 : decode cX6_move 45 = .ok (.ireturn, 1) := by decide +kernel
theorem dX6_move_46 : decode cX6_move 46 = .ok (.iconst 0, 1) := by decide +kernel
theorem dX6_move_47 : decode cX6_move 47 = .ok (.istore 4, 2) := by decide +kernel
theorem dX6_move_49 : decode cX6_move 49 = .ok (.iload_n 1, 1) := by decide +kernel
theorem dX6_move_50 : decode cX6_move 50 = .ok (.istore 5, 2) := by decide +kernel
theorem dX6_move_52 : decode cX6_move 52 = .ok (.iload 5, 2) := by decide +kernel
theorem dX6_move_54 : decode cX6_move 54 = .ok (.iload_n 1, 1) := by decide +kernel
theorem dX6_move_55 : decode cX6_move 55 = .ok (.iload_n 2, 1) := by decide +kernel
theorem dX6_move_56 : decode cX6_move 56 = .ok (.iadd, 1) := by decide +kernel
theorem dX6_move_57 : decode cX6_move 57 = .ok (.if_icmp .ge 38, 3) := by decide +kernel
theorem dX6_move_60 : decode cX6_move 60 = .ok (.iload 4, 2) := by decide +kernel
theorem dX6_move_62 : decode cX6_move 62 = .ok (.aload_n 0, 1) := by decide +kernel
theorem dX6_move_63 : decode cX6_move 63 = .ok (.getfield 56, 3) := by decide +kernel
theorem dX6_move_66 : decode cX6_move 66 = .ok (.iload 5, 2) := by decide +kernel
theorem dX6_move_68 : decode cX6_move 68 = .ok (.iaload, 1) := by decide +kernel
theorem dX6_move_69 : decode cX6_move 69 = .ok (.iload_n 3, 1) := by decide +kernel
theorem dX6_move_70 : decode cX6_move 70 = .ok (.if_icmp .ne 7, 3) := by decide +kernel
theorem dX6_move_73 : decode cX6_move 73 = .ok (.iconst 0, 1) := by decide +kernel
theorem dX6_move_74 : decode cX6_move 74 = .ok (.goto 4, 3) := by decide +kernel
theorem dX6_move_77 : decode cX6_move 77 = .ok (.iconst 1, 1) := by decide +kernel
theorem dX6_move_78 : decode cX6_move 78 = .ok (.iadd, 1) := by decide +kernel
theorem dX6_move_79 : decode cX6_move 79 = .ok (.istore 4, 2) := by decide +kernel
theorem dX6_move_81 : decode cX6_move 81 = .ok (.aload_n 0, 1) := by decide +kernel
theorem dX6_move_82 : decode cX6_move 82 = .ok (.getfield 56, 3) := by decide +kernel
theorem dX6_move_85 : decode cX6_move 85 = .ok (.iload 5, 2) := by decide +kernel
theorem dX6_move_87 : decode cX6_move 87 = .ok (.iload_n 3, 1) := by decide +kernel
theorem dX6_move_88 : decode cX6_move 88 = .ok (.iastore, 1) := by decide +kernel
theorem dX6_move_89 : decode cX6_move 89 = .ok (.iinc 5 1, 3) := by decide +kernel
theorem dX6_move_92 : decode cX6_move 92 = .ok (.goto (-40), 3) := by decide +kernel
theorem dX6_move_95 : decode cX6_move 95 = .ok (.iload 4, 2) := by decide +kernel
theorem dX6_move_97 : decode cX6_move 97 = .ok (.ireturn, 1) := by decide +kernel
set_option maxRecDepth 20000 in
theorem ggX6_use_X6_noRow : GoodIn wsX6_use wsX6_noRow := goodIn_r _ [12, 13, 14, 15, 11, 16, 26, 27, 28, 29, 30, 31, 32, 33, 34, 35, 36, 37, 38, 39, 40, 41, 42, 43, 44, 45, 46, 47, 48, 49, 50, 51] (by decide +kernel) (by decide +kernel)
set_option maxRecDepth 20000 in
theorem gX6_use_X6_noRow : GoodIn wsX6_use (wsV RX6 128 RX6 yX6_noRow wsX6_noRow) := goodIn_app (goodIn_of _ (by decide +kernel)) ggX6_use_X6_noRow
set_option maxRecDepth 20000 in
theorem ggX6_use_X6_noSerials : GoodIn wsX6_use wsX6_noSerials := goodIn_r _ [20, 21, 26, 27, 28, 29, 30, 31, 32, 33, 34, 35, 36, 37, 38, 39, 40, 41, 42, 43, 44, 45, 46, 47, 48, 49, 50, 51] (by decide +kernel) (by decide +kernel)
set_option maxRecDepth 20000 in
theorem gX6_use_X6_noSerials : GoodIn wsX6_use (wsV RX6 167 RX6 yX6_noSerials wsX6_noSerials) := goodIn_app (goodIn_of _ (by decide +kernel)) ggX6_use_X6_noSerials
set_option maxRecDepth 20000 in
theorem ggX6_use_X6_hasUsed : GoodIn wsX6_use wsX6_hasUsed := goodIn_r _ [25, 7, 26, 27, 28, 29, 30, 31, 32, 33, 34, 35, 36, 37, 38, 39, 40, 41, 42, 43, 44, 45, 46, 47, 48, 49, 50, 51] (by decide +kernel) (by decide +kernel)
set_option maxRecDepth 20000 in
theorem gX6_use_X6_hasUsed : GoodIn wsX6_use (wsV RX6 170 RX6 yX6_hasUsed wsX6_hasUsed) := goodIn_app (goodIn_of _ (by decide +kernel)) ggX6_use_X6_hasUsed
theorem dX6_use_0 : decode cX6_use 0 = .ok (.aload_n 0, 1) := by decide +kernel
theorem dX6_use_1 : decode cX6_use 1 = .ok (.iconst 0, 1) := by decide +kernel
theorem dX6_use_2 : decode cX6_use 2 = .ok (.putfield 76, 3) := by decide +kernel
theorem dX6_use_5 : decode cX6_use 5 = .ok (.aload_n 0, 1) := by decide +kernel
theorem dX6_use_6 : decode cX6_use 6 = .ok (.iload_n 3, 1) := by decide +kernel
theorem dX6_use_7 : decode cX6_use 7 = .ok (.invokevirtual 128, 3) := by decide +kernel
theorem dX6_use_10 : decode cX6_use 10 = .ok (.ifCond .eq 5, 3) := by decide +kernel
theorem dX6_use_13 : decode cX6_use 13 = .ok (.iconst (-1), 1) := by decide +kernel
theorem dX6_use_14 : decode cX6_use 14 = .ok (.ireturn, 1) := by decide +kernel
theorem dX6_use_15 : decode cX6_use 15 = .ok (.iload_n 2, 1) := by decide +kernel
theorem dX6_use_16 : decode cX6_use 16 = .ok (.iconst 1, 1) := by decide +kernel
theorem dX6_use_17 : decode cX6_use 17 = .ok (.if_icmp .ge 6, 3) := by decide +kernel
theorem dX6_use_20 : decode cX6_use 20 = .ok (.bipush (-2), 2) := by decide +kernel
theorem dX6_use_22 : decode cX6_use 22 = .ok (.ireturn, 1) := by decide +kernel
theorem dX6_use_23 : decode cX6_use 23 = .ok (.aload_n 0, 1) := by decide +kernel
theorem dX6_use_24 : decode cX6_use 24 = .ok (.iload_n 1, 1) := by decide +kernel
theorem dX6_use_25 : decode cX6_use 25 = .ok (.iload_n 2, 1) := by decide +kernel
theorem dX6_use_26 : decode cX6_use 26 = .ok (.invokevirtual 167, 3) := by decide +kernel
theorem dX6_use_29 : decode cX6_use 29 = .ok (.ifCond .eq 5, 3) := by decide +kernel
theorem dX6_use_32 : decode cX6_use 32 = .ok (.iconst (-1), 1) := by decide +kernel
theorem dX6_use_33 : decode cX6_use 33 = .ok (.ireturn, 1) := by decide +kernel
theorem dX6_use_34 : decode cX6_use 34 = .ok (.aload_n 0, 1) := by decide +kernel
theorem dX6_use_35 : decode cX6_use 35 = .ok (.getfield 29, 3) := by decide +kernel
theorem dX6_use_38 : decode cX6_use 38 = .ok (.iload_n 3, 1) := by decide +kernel
theorem dX6_use_39 : decode cX6_use 39 = .ok (.iaload, 1) := by decide +kernel
theorem dX6_use_40 : decode cX6_use 40 = .ok (.iconst 1, 1) := by decide +kernel
theorem dX6_use_41 : decode cX6_use 41 = .ok (.if_icmp .ne 12, 3) := by decide +kernel
theorem dX6_use_44 : decode cX6_use 44 = .ok (.aload_n 0, 1) := by decide +kernel
theorem dX6_use_45 : decode cX6_use 45 = .ok (.iload_n 1, 1) := by decide +kernel
theorem dX6_use_46 : decode cX6_use 46 = .ok (.iload_n 2, 1) := by decide +kernel
theorem dX6_use_47 : decode cX6_use 47 = .ok (.invokevirtual 170, 3) := by decide +kernel
theorem dX6_use_50 : decode cX6_use 50 = .ok (.ifCond .eq 7, 3) := by decide +kernel
theorem dX6_use_53 : decode cX6_use 53 = .ok (.iconst 1, 1) := by decide +kernel
theorem dX6_use_54 : decode cX6_use 54 = .ok (.goto 4, 3) := by decide +kernel
theorem dX6_use_57 : decode cX6_use 57 = .ok (.iconst 0, 1) := by decide +kernel
theorem dX6_use_58 : decode cX6_use 58 = .ok (.istore 4, 2) := by decide +kernel
theorem dX6_use_60 : decode cX6_use 60 = .ok (.iload_n 1, 1) := by decide +kernel
theorem dX6_use_61 : decode cX6_use 61 = .ok (.istore 5, 2) := by decide +kernel
theorem dX6_use_63 : decode cX6_use 63 = .ok (.iload 5, 2) := by decide +kernel
theorem dX6_use_65 : decode cX6_use 65 = .ok (.iload_n 1, 1) := by decide +kernel
theorem dX6_use_66 : decode cX6_use 66 = .ok (.iload_n 2, 1) := by decide +kernel
theorem dX6_use_67 : decode cX6_use 67 = .ok (.iadd, 1) := by decide +kernel
theorem dX6_use_68 : decode cX6_use 68 = .ok (.if_icmp .ge 37, 3) := by decide +kernel
theorem dX6_use_71 : decode cX6_use 71 = .ok (.iload 4, 2) := by decide +kernel
theorem dX6_use_73 : decode cX6_use 73 = .ok (.ifCond .ne 19, 3) := by decide +kernel
theorem dX6_use_76 : decode cX6_use 76 = .ok (.aload_n 0, 1) := by decide +kernel
theorem dX6_use_77 : decode cX6_use 77 = .ok (.getfield 56, 3) := by decide +kernel
theorem dX6_use_80 : decode cX6_use 80 = .ok (.iload 5, 2) := by decide +kernel
theorem dX6_use_82 : decode cX6_use 82 = .ok (.iaload, 1) := by decide +kernel
theorem dX6_use_83 : decode cX6_use 83 = .ok (.aload_n 0, 1) := by decide +kernel
theorem dX6_use_84 : decode cX6_use 84 = .ok (.getfield 26, 3) := by decide +kernel
theorem dX6_use_87 : decode cX6_use 87 = .ok (.iload_n 3, 1) := by decide +kernel
theorem dX6_use_88 : decode cX6_use 88 = .ok (.iaload, 1) := by decide +kernel
theorem dX6_use_89 : decode cX6_use 89 = .ok (.if_icmp .eq 7, 3) := by decide +kernel
theorem dX6_use_92 : decode cX6_use 92 = .ok (.iconst 1, 1) := by decide +kernel
theorem dX6_use_93 : decode cX6_use 93 = .ok (.goto 4, 3) := by decide +kernel
theorem dX6_use_96 : decode cX6_use 96 = .ok (.iconst 0, 1) := by decide +kernel
theorem dX6_use_97 : decode cX6_use 97 = .ok (.istore 4, 2) := by decide +kernel
theorem dX6_use_99 : decode cX6_use 99 = .ok (.iinc 5 1, 3) := by decide +kernel
theorem dX6_use_102 : decode cX6_use 102 = .ok (.goto (-39), 3) := by decide +kernel
theorem dX6_use_105 : decode cX6_use 105 = .ok (.iload 4, 2) := by decide +kernel
theorem dX6_use_107 : decode cX6_use 107 = .ok (.ifCond .eq 6, 3) := by decide +kernel
theorem dX6_use_110 : decode cX6_use 110 = .ok (.bipush (-3), 2) := by decide +kernel
theorem dX6_use_112 : decode cX6_use 112 = .ok (.ireturn, 1) := by decide +kernel
theorem dX6_use_113 : decode cX6_use 113 = .ok (.aload_n 0, 1) := by decide +kernel
theorem dX6_use_114 : decode cX6_use 114 = .ok (.getfield 41, 3) := by decide +kernel
theorem dX6_use_117 : decode cX6_use 117 = .ok (.iload_n 3, 1) := by decide +kernel
theorem dX6_use_118 : decode cX6_use 118 = .ok (.iaload, 1) := by decide +kernel
theorem dX6_use_119 : decode cX6_use 119 = .ok (.iload_n 2, 1) := by decide +kernel
theorem dX6_use_120 : decode cX6_use 120 = .ok (.iadd, 1) := by decide +kernel
theorem dX6_use_121 : decode cX6_use 121 = .ok (.aload_n 0, 1) := by decide +kernel
theorem dX6_use_122 : decode cX6_use 122 = .ok (.getfield 32, 3) := by decide +kernel
theorem dX6_use_125 : decode cX6_use 125 = .ok (.iload_n 3, 1) := by decide +kernel
theorem dX6_use_126 : decode cX6_use 126 = .ok (.iaload, 1) := by decide +kernel
theorem dX6_use_127 : decode cX6_use 127 = .ok (.if_icmp .le 6, 3) := by decide +kernel
theorem dX6_use_130 : decode cX6_use 130 = .ok (.bipush (-4), 2) := by decide +kernel
theorem dX6_use_132 : decode cX6_use 132 = .ok (.ireturn, 1) := by decide +kernel
theorem dX6_use_133 : decode cX6_use 133 = .ok (.iload_n 1, 1) := by decide +kernel
theorem dX6_use_134 : decode cX6_use 134 = .ok (.istore 5, 2) := by decide +kernel
theorem dX6_use_136 : decode cX6_use 136 = .ok (.iload 5, 2) := by decide +kernel
theorem dX6_use_138 : decode cX6_use 138 = .ok (.iload_n 1, 1) := by decide +kernel
theorem dX6_use_139 : decode cX6_use 139 = .ok (.iload_n 2, 1) := by decide +kernel
theorem dX6_use_140 : decode cX6_use 140 = .ok (.iadd, 1) := by decide +kernel
theorem dX6_use_141 : decode cX6_use 141 = .ok (.if_icmp .ge 17, 3) := by decide +kernel
theorem dX6_use_144 : decode cX6_use 144 = .ok (.aload_n 0, 1) := by decide +kernel
theorem dX6_use_145 : decode cX6_use 145 = .ok (.getfield 59, 3) := by decide +kernel
theorem dX6_use_148 : decode cX6_use 148 = .ok (.iload 5, 2) := by decide +kernel
theorem dX6_use_150 : decode cX6_use 150 = .ok (.iload_n 3, 1) := by decide +kernel
theorem dX6_use_151 : decode cX6_use 151 = .ok (.iastore, 1) := by decide +kernel
theorem dX6_use_152 : decode cX6_use 152 = .ok (.iinc 5 1, 3) := by decide +kernel
theorem dX6_use_155 : decode cX6_use 155 = .ok (.goto (-19), 3) := by decide +kernel
theorem dX6_use_158 : decode cX6_use 158 = .ok (.aload_n 0, 1) := by decide +kernel
theorem dX6_use_159 : decode cX6_use 159 = .ok (.getfield 41, 3) := by decide +kernel
theorem dX6_use_162 : decode cX6_use 162 = .ok (.iload_n 3, 1) := by decide +kernel
theorem dX6_use_163 : decode cX6_use 163 = .ok (.dup2, 1) := by decide +kernel
theorem dX6_use_164 : decode cX6_use 164 = .ok (.iaload, 1) := by decide +kernel
theorem dX6_use_165 : decode cX6_use 165 = .ok (.iload_n 2, 1) := by decide +kernel
theorem dX6_use_166 : decode cX6_use 166 = .ok (.iadd, 1) := by decide +kernel
theorem dX6_use_167 : decode cX6_use 167 = .ok (.iastore, 1) := by decide +kernel
theorem dX6_use_168 : decode cX6_use 168 = .ok (.aload_n 0, 1) := by decide +kernel
theorem dX6_use_169 : decode cX6_use 169 = .ok (.getfield 41, 3) := by decide +kernel
theorem dX6_use_172 : decode cX6_use 172 = .ok (.iload_n 3, 1) := by decide +kernel
theorem dX6_use_173 : decode cX6_use 173 = .ok (.iaload, 1) := by decide +kernel
theorem dX6_use_174 : decode cX6_use 174 = .ok (.ireturn, 1) := by decide +kernel
set_option maxRecDepth 20000 in
theorem ggX6_owner_X6_in : GoodIn wsX6_owner wsX6_in := goodIn_r _ [7] (by decide +kernel) (by decide +kernel)
set_option maxRecDepth 20000 in
theorem gX6_owner_X6_in : GoodIn wsX6_owner (va_wsS RX6 79 yX6_in wsX6_in) := goodIn_app (goodIn_of _ (by decide +kernel)) ggX6_owner_X6_in
theorem dX6_owner_0 : decode cX6_owner 0 = .ok (.aload_n 0, 1) := by decide +kernel
theorem dX6_owner_1 : decode cX6_owner 1 = .ok (.iconst 0, 1) := by decide +kernel
theorem dX6_owner_2 : decode cX6_owner 2 = .ok (.putfield 76, 3) := by decide +kernel
theorem dX6_owner_5 : decode cX6_owner 5 = .ok (.iload_n 1, 1) := by decide +kernel
theorem dX6_owner_6 : decode cX6_owner 6 = .ok (.i2l, 1) := by decide +kernel
theorem dX6_owner_7 : decode cX6_owner 7 = .ok (.lconst 1, 1) := by decide +kernel
theorem dX6_owner_8 : decode cX6_owner 8 = .ok (.aload_n 0, 1) := by decide +kernel
theorem dX6_owner_9 : decode cX6_owner 9 = .ok (.getfield 164, 3) := by decide +kernel
theorem dX6_owner_12 : decode cX6_owner 12 = .ok (.i2l, 1) := by decide +kernel
theorem dX6_owner_13 : decode cX6_owner 13 = .ok (.invokestatic 79, 3) := by decide +kernel
theorem dX6_owner_16 : decode cX6_owner 16 = .ok (.ifCond .eq 12, 3) := by decide +kernel
theorem dX6_owner_19 : decode cX6_owner 19 = .ok (.aload_n 0, 1) := by decide +kernel
theorem dX6_owner_20 : decode cX6_owner 20 = .ok (.getfield 56, 3) := by decide +kernel
theorem dX6_owner_23 : decode cX6_owner 23 = .ok (.iload_n 1, 1) := by decide +kernel
theorem dX6_owner_24 : decode cX6_owner 24 = .ok (.iaload, 1) := by decide +kernel
theorem dX6_owner_25 : decode cX6_owner 25 = .ok (.goto 4, 3) := by decide +kernel
theorem dX6_owner_28 : decode cX6_owner 28 = .ok (.iconst (-1), 1) := by decide +kernel
theorem dX6_owner_29 : decode cX6_owner 29 = .ok (.ireturn, 1) := by decide +kernel
set_option maxRecDepth 20000 in
theorem ggX6_usedFor_X6_in : GoodIn wsX6_usedFor wsX6_in := goodIn_r _ [7] (by decide +kernel) (by decide +kernel)
set_option maxRecDepth 20000 in
theorem gX6_usedFor_X6_in : GoodIn wsX6_usedFor (va_wsS RX6 79 yX6_in wsX6_in) := goodIn_app (goodIn_of _ (by decide +kernel)) ggX6_usedFor_X6_in
theorem dX6_usedFor_0 : decode cX6_usedFor 0 = .ok (.aload_n 0, 1) := by decide +kernel
theorem dX6_usedFor_1 : decode cX6_usedFor 1 = .ok (.iconst 0, 1) := by decide +kernel
theorem dX6_usedFor_2 : decode cX6_usedFor 2 = .ok (.putfield 76, 3) := by decide +kernel
theorem dX6_usedFor_5 : decode cX6_usedFor 5 = .ok (.iload_n 1, 1) := by decide +kernel
theorem dX6_usedFor_6 : decode cX6_usedFor 6 = .ok (.i2l, 1) := by decide +kernel
theorem dX6_usedFor_7 : decode cX6_usedFor 7 = .ok (.lconst 1, 1) := by decide +kernel
theorem dX6_usedFor_8 : decode cX6_usedFor 8 = .ok (.aload_n 0, 1) := by decide +kernel
theorem dX6_usedFor_9 : decode cX6_usedFor 9 = .ok (.getfield 164, 3) := by decide +kernel
theorem dX6_usedFor_12 : decode cX6_usedFor 12 = .ok (.i2l, 1) := by decide +kernel
theorem dX6_usedFor_13 : decode cX6_usedFor 13 = .ok (.invokestatic 79, 3) := by decide +kernel
theorem dX6_usedFor_16 : decode cX6_usedFor 16 = .ok (.ifCond .eq 12, 3) := by decide +kernel
theorem dX6_usedFor_19 : decode cX6_usedFor 19 = .ok (.aload_n 0, 1) := by decide +kernel
theorem dX6_usedFor_20 : decode cX6_usedFor 20 = .ok (.getfield 59, 3) := by decide +kernel
theorem dX6_usedFor_23 : decode cX6_usedFor 23 = .ok (.iload_n 1, 1) := by decide +kernel
theorem dX6_usedFor_24 : decode cX6_usedFor 24 = .ok (.iaload, 1) := by decide +kernel
theorem dX6_usedFor_25 : decode cX6_usedFor 25 = .ok (.goto 4, 3) := by decide +kernel
theorem dX6_usedFor_28 : decode cX6_usedFor 28 = .ok (.iconst (-1), 1) := by decide +kernel
theorem dX6_usedFor_29 : decode cX6_usedFor 29 = .ok (.ireturn, 1) := by decide +kernel
set_option maxRecDepth 20000 in
theorem ggX6_free_X6_noUnit : GoodIn wsX6_free wsX6_noUnit := goodIn_r _ [9, 10, 11, 12, 8, 13, 14, 15, 16, 17, 18, 19, 20, 21, 22, 23, 24, 25, 26, 27, 28, 29, 30, 31, 32, 33, 34, 35, 36, 37, 38, 39] (by decide +kernel) (by decide +kernel)
set_option maxRecDepth 20000 in
theorem gX6_free_X6_noUnit : GoodIn wsX6_free (wsV RX6 106 RX6 yX6_noUnit wsX6_noUnit) := goodIn_app (goodIn_of _ (by decide +kernel)) ggX6_free_X6_noUnit
theorem dX6_free_0 : decode cX6_free 0 = .ok (.aload_n 0, 1) := by decide +kernel
theorem dX6_free_1 : decode cX6_free 1 = .ok (.iconst 0, 1) := by decide +kernel
theorem dX6_free_2 : decode cX6_free 2 = .ok (.putfield 76, 3) := by decide +kernel
theorem dX6_free_5 : decode cX6_free 5 = .ok (.aload_n 0, 1) := by decide +kernel
theorem dX6_free_6 : decode cX6_free 6 = .ok (.iload_n 1, 1) := by decide +kernel
theorem dX6_free_7 : decode cX6_free 7 = .ok (.invokevirtual 106, 3) := by decide +kernel
theorem dX6_free_10 : decode cX6_free 10 = .ok (.ifCond .eq 5, 3) := by decide +kernel
theorem dX6_free_13 : decode cX6_free 13 = .ok (.iconst (-1), 1) := by decide +kernel
theorem dX6_free_14 : decode cX6_free 14 = .ok (.ireturn, 1) := by decide +kernel
theorem dX6_free_15 : decode cX6_free 15 = .ok (.iconst 0, 1) := by decide +kernel
theorem dX6_free_16 : decode cX6_free 16 = .ok (.istore_n 2, 1) := by decide +kernel
theorem dX6_free_17 : decode cX6_free 17 = .ok (.iconst 1, 1) := by decide +kernel
theorem dX6_free_18 : decode cX6_free 18 = .ok (.istore_n 3, 1) := by decide +kernel
theorem dX6_free_19 : decode cX6_free 19 = .ok (.iload_n 3, 1) := by decide +kernel
theorem dX6_free_20 : decode cX6_free 20 = .ok (.aload_n 0, 1) := by decide +kernel
theorem dX6_free_21 : decode cX6_free 21 = .ok (.getfield 164, 3) := by decide +kernel
theorem dX6_free_24 : decode cX6_free 24 = .ok (.if_icmp .gt 38, 3) := by decide +kernel
theorem dX6_free_27 : decode cX6_free 27 = .ok (.iload_n 2, 1) := by decide +kernel
theorem dX6_free_28 : decode cX6_free 28 = .ok (.aload_n 0, 1) := by decide +kernel
theorem dX6_free_29 : decode cX6_free 29 = .ok (.getfield 56, 3) := by decide +kernel
theorem dX6_free_32 : decode cX6_free 32 = .ok (.iload_n 3, 1) := by decide +kernel
theorem dX6_free_33 : decode cX6_free 33 = .ok (.iaload, 1) := by decide +kernel
theorem dX6_free_34 : decode cX6_free 34 = .ok (.iload_n 1, 1) := by decide +kernel
theorem dX6_free_35 : decode cX6_free 35 = .ok (.if_icmp .ne 18, 3) := by decide +kernel
theorem dX6_free_38 : decode cX6_free 38 = .ok (.aload_n 0, 1) := by decide +kernel
theorem dX6_free_39 : decode cX6_free 39 = .ok (.getfield 59, 3) := by decide +kernel
theorem dX6_free_42 : decode cX6_free 42 = .ok (.iload_n 3, 1) := by decide +kernel
theorem dX6_free_43 : decode cX6_free 43 = .ok (.iaload, 1) := by decide +kernel
theorem dX6_free_44 : decode cX6_free 44 = .ok (.bipush (-9), 2) := by decide +kernel
theorem dX6_free_46 : decode cX6_free 46 = .ok (.if_icmp .ne 7, 3) := by decide +kernel
theorem dX6_free_49 : decode cX6_free 49 = .ok (.iconst 1, 1) := by decide +kernel
theorem dX6_free_50 : decode cX6_free 50 = .ok (.goto 4, 3) := by decide +kernel
theorem dX6_free_53 : decode cX6_free 53 = .ok (.iconst 0, 1) := by decide +kernel
theorem dX6_free_54 : decode cX6_free 54 = .ok (.iadd, 1) := by decide +kernel
theorem dX6_free_55 : decode cX6_free 55 = .ok (.istore_n 2, 1) := by decide +kernel
theorem dX6_free_56 : decode cX6_free 56 = .ok (.iinc 3 1, 3) := by decide +kernel
theorem dX6_free_59 : decode cX6_free 59 = .ok (.goto (-40), 3) := by decide +kernel
theorem dX6_free_62 : decode cX6_free 62 = .ok (.iload_n 2, 1) := by decide +kernel
theorem dX6_free_63 : decode cX6_free 63 = .ok (.ireturn, 1) := by decide +kernel
theorem dX6_begins_0 : decode cX6_begins 0 = .ok (.iload_n 1, 1) := by decide +kernel
theorem dX6_begins_1 : decode cX6_begins 1 = .ok (.iconst 1, 1) := by decide +kernel
theorem dX6_begins_2 : decode cX6_begins 2 = .ok (.if_icmp .eq 37, 3) := by decide +kernel
theorem dX6_begins_5 : decode cX6_begins 5 = .ok (.aload_n 0, 1) := by decide +kernel
theorem dX6_begins_6 : decode cX6_begins 6 = .ok (.getfield 56, 3) := by decide +kernel
theorem dX6_begins_9 : decode cX6_begins 9 = .ok (.iload_n 1, 1) := by decide +kernel
theorem dX6_begins_10 : decode cX6_begins 10 = .ok (.iaload, 1) := by decide +kernel
theorem dX6_begins_11 : decode cX6_begins 11 = .ok (.aload_n 0, 1) := by decide +kernel
theorem dX6_begins_12 : decode cX6_begins 12 = .ok (.getfield 56, 3) := by decide +kernel
theorem dX6_begins_15 : decode cX6_begins 15 = .ok (.iload_n 1, 1) := by decide +kernel
theorem dX6_begins_16 : decode cX6_begins 16 = .ok (.iconst 1, 1) := by decide +kernel
theorem dX6_begins_17 : decode cX6_begins 17 = .ok (.isub, 1) := by decide +kernel
theorem dX6_begins_18 : decode cX6_begins 18 = .ok (.iaload, 1) := by decide +kernel
theorem dX6_begins_19 : decode cX6_begins 19 = .ok (.if_icmp .ne 20, 3) := by decide +kernel
theorem dX6_begins_22 : decode cX6_begins 22 = .ok (.aload_n 0, 1) := by decide +kernel
theorem dX6_begins_23 : decode cX6_begins 23 = .ok (.getfield 59, 3) := by decide +kernel
theorem dX6_begins_26 : decode cX6_begins 26 = .ok (.iload_n 1, 1) := by decide +kernel
theorem dX6_begins_27 : decode cX6_begins 27 = .ok (.iaload, 1) := by decide +kernel
theorem dX6_begins_28 : decode cX6_begins 28 = .ok (.aload_n 0, 1) := by decide +kernel
theorem dX6_begins_29 : decode cX6_begins 29 = .ok (.getfield 59, 3) := by decide +kernel
theorem dX6_begins_32 : decode cX6_begins 32 = .ok (.iload_n 1, 1) := by decide +kernel
theorem dX6_begins_33 : decode cX6_begins 33 = .ok (.iconst 1, 1) := by decide +kernel
theorem dX6_begins_34 : decode cX6_begins 34 = .ok (.isub, 1) := by decide +kernel
theorem dX6_begins_35 : decode cX6_begins 35 = .ok (.iaload, 1) := by decide +kernel
theorem dX6_begins_36 : decode cX6_begins 36 = .ok (.if_icmp .eq 7, 3) := by decide +kernel
theorem dX6_begins_39 : decode cX6_begins 39 = .ok (.iconst 1, 1) := by decide +kernel
theorem dX6_begins_40 : decode cX6_begins 40 = .ok (.goto 4, 3) := by decide +kernel
theorem dX6_begins_43 : decode cX6_begins 43 = .ok (.iconst 0, 1) := by decide +kernel
theorem dX6_begins_44 : decode cX6_begins 44 = .ok (.ireturn, 1) := by decide +kernel
set_option maxRecDepth 20000 in
theorem ggX6_runs_X6_begins : GoodIn wsX6_runs wsX6_begins := goodIn_r _ [7, 8, 9, 10, 11, 12, 13, 14, 15, 16, 17, 18, 19, 20, 21, 22, 23, 24, 25, 26, 27, 28, 29, 30, 31, 32, 33, 34, 35] (by decide +kernel) (by decide +kernel)
set_option maxRecDepth 20000 in
theorem gX6_runs_X6_begins : GoodIn wsX6_runs (wsV RX6 173 RX6 yX6_begins wsX6_begins) := goodIn_app (goodIn_of _ (by decide +kernel)) ggX6_runs_X6_begins
theorem dX6_runs_0 : decode cX6_runs 0 = .ok (.aload_n 0, 1) := by decide +kernel
theorem dX6_runs_1 : decode cX6_runs 1 = .ok (.iconst 0, 1) := by decide +kernel
theorem dX6_runs_2 : decode cX6_runs 2 = .ok (.putfield 76, 3) := by decide +kernel
theorem dX6_runs_5 : decode cX6_runs 5 = .ok (.iconst 0, 1) := by decide +kernel
theorem dX6_runs_6 : decode cX6_runs 6 = .ok (.istore_n 1, 1) := by decide +kernel
theorem dX6_runs_7 : decode cX6_runs 7 = .ok (.iconst 1, 1) := by decide +kernel
theorem dX6_runs_8 : decode cX6_runs 8 = .ok (.istore_n 2, 1) := by decide +kernel
theorem dX6_runs_9 : decode cX6_runs 9 = .ok (.iload_n 2, 1) := by decide +kernel
theorem dX6_runs_10 : decode cX6_runs 10 = .ok (.aload_n 0, 1) := by decide +kernel
theorem dX6_runs_11 : decode cX6_runs 11 = .ok (.getfield 164, 3) := by decide +kernel
theorem dX6_runs_14 : decode cX6_runs 14 = .ok (.if_icmp .gt 25, 3) := by decide +kernel
theorem dX6_runs_17 : decode cX6_runs 17 = .ok (.iload_n 1, 1) := by decide +kernel
theorem dX6_runs_18 : decode cX6_runs 18 = .ok (.aload_n 0, 1) := by decide +kernel
theorem dX6_runs_19 : decode cX6_runs 19 = .ok (.iload_n 2, 1) := by decide +kernel
theorem dX6_runs_20 : decode cX6_runs 20 = .ok (.invokevirtual 173, 3) := by decide +kernel
theorem dX6_runs_23 : decode cX6_runs 23 = .ok (.ifCond .eq 7, 3) := by decide +kernel
theorem dX6_runs_26 : decode cX6_runs 26 = .ok (.iconst 1, 1) := by decide +kernel
theorem dX6_runs_27 : decode cX6_runs 27 = .ok (.goto 4, 3) := by decide +kernel
theorem dX6_runs_30 : decode cX6_runs 30 = .ok (.iconst 0, 1) := by decide +kernel
theorem dX6_runs_31 : decode cX6_runs 31 = .ok (.iadd, 1) := by decide +kernel
theorem dX6_runs_32 : decode cX6_runs 32 = .ok (.istore_n 1, 1) := by decide +kernel
theorem dX6_runs_33 : decode cX6_runs 33 = .ok (.iinc 2 1, 3) := by decide +kernel
theorem dX6_runs_36 : decode cX6_runs 36 = .ok (.goto (-27), 3) := by decide +kernel
theorem dX6_runs_39 : decode cX6_runs 39 = .ok (.iload_n 1, 1) := by decide +kernel
theorem dX6_runs_40 : decode cX6_runs 40 = .ok (.ireturn, 1) := by decide +kernel
set_option maxRecDepth 20000 in
theorem ggX6_run_X6_begins : GoodIn wsX6_run wsX6_begins := goodIn_r _ [9, 3, 4, 10, 11, 12, 13, 14, 15, 16, 17, 18, 19, 20, 21, 22, 23, 24, 25, 26, 27, 28, 29, 30, 31, 32, 33, 34, 35] (by decide +kernel) (by decide +kernel)
set_option maxRecDepth 20000 in
theorem gX6_run_X6_begins : GoodIn wsX6_run (wsV RX6 173 RX6 yX6_begins wsX6_begins) := goodIn_app (goodIn_of _ (by decide +kernel)) ggX6_run_X6_begins
theorem dX6_run_0 : decode cX6_run 0 = .ok (.aload_n 0, 1) := by decide +kernel
theorem dX6_run_1 : decode cX6_run 1 = .ok (.iconst 0, 1) := by decide +kernel
theorem dX6_run_2 : decode cX6_run 2 = .ok (.putfield 76, 3) := by decide +kernel
theorem dX6_run_5 : decode cX6_run 5 = .ok (.iconst (-1), 1) := by decide +kernel
theorem dX6_run_6 : decode cX6_run 6 = .ok (.istore_n 3, 1) := by decide +kernel
theorem dX6_run_7 : decode cX6_run 7 = .ok (.iconst 0, 1) := by decide +kernel
theorem dX6_run_8 : decode cX6_run 8 = .ok (.istore 4, 2) := by decide +kernel
theorem dX6_run_10 : decode cX6_run 10 = .ok (.iconst 0, 1) := by decide +kernel
theorem dX6_run_11 : decode cX6_run 11 = .ok (.istore 5, 2) := by decide +kernel
theorem dX6_run_13 : decode cX6_run 13 = .ok (.iconst 1, 1) := by decide +kernel
theorem dX6_run_14 : decode cX6_run 14 = .ok (.istore 6, 2) := by decide +kernel
theorem dX6_run_16 : decode cX6_run 16 = .ok (.iload 6, 2) := by decide +kernel
theorem dX6_run_18 : decode cX6_run 18 = .ok (.aload_n 0, 1) := by decide +kernel
theorem dX6_run_19 : decode cX6_run 19 = .ok (.getfield 164, 3) := by decide +kernel
theorem dX6_run_22 : decode cX6_run 22 = .ok (.if_icmp .gt 60, 3) := by decide +kernel
theorem dX6_run_25 : decode cX6_run 25 = .ok (.iload_n 3, 1) := by decide +kernel
theorem dX6_run_26 : decode cX6_run 26 = .ok (.aload_n 0, 1) := by decide +kernel
theorem dX6_run_27 : decode cX6_run 27 = .ok (.iload 6, 2) := by decide +kernel
theorem dX6_run_29 : decode cX6_run 29 = .ok (.invokevirtual 173, 3) := by decide +kernel
theorem dX6_run_32 : decode cX6_run 32 = .ok (.ifCond .eq 7, 3) := by decide +kernel
theorem dX6_run_35 : decode cX6_run 35 = .ok (.iconst 1, 1) := by decide +kernel
theorem dX6_run_36 : decode cX6_run 36 = .ok (.goto 4, 3) := by decide +kernel
theorem dX6_run_39 : decode cX6_run 39 = .ok (.iconst 0, 1) := by decide +kernel
theorem dX6_run_40 : decode cX6_run 40 = .ok (.iadd, 1) := by decide +kernel
theorem dX6_run_41 : decode cX6_run 41 = .ok (.istore_n 3, 1) := by decide +kernel
theorem dX6_run_42 : decode cX6_run 42 = .ok (.iload_n 3, 1) := by decide +kernel
theorem dX6_run_43 : decode cX6_run 43 = .ok (.iload_n 1, 1) := by decide +kernel
theorem dX6_run_44 : decode cX6_run 44 = .ok (.if_icmp .ne 13, 3) := by decide +kernel
theorem dX6_run_47 : decode cX6_run 47 = .ok (.iload 4, 2) := by decide +kernel
theorem dX6_run_49 : decode cX6_run 49 = .ok (.ifCond .ne 8, 3) := by decide +kernel
theorem dX6_run_52 : decode cX6_run 52 = .ok (.iload 6, 2) := by decide +kernel
theorem dX6_run_54 : decode cX6_run 54 = .ok (.goto 5, 3) := by decide +kernel
theorem dX6_run_57 : decode cX6_run 57 = .ok (.iload 4, 2) := by decide +kernel
theorem dX6_run_59 : decode cX6_run 59 = .ok (.istore 4, 2) := by decide +kernel
theorem dX6_run_61 : decode cX6_run 61 = .ok (.iload 5, 2) := by decide +kernel
theorem dX6_run_63 : decode cX6_run 63 = .ok (.iload_n 3, 1) := by decide +kernel
theorem dX6_run_64 : decode cX6_run 64 = .ok (.iload_n 1, 1) := by decide +kernel
theorem dX6_run_65 : decode cX6_run 65 = .ok (.if_icmp .ne 7, 3) := by decide +kernel
theorem dX6_run_68 : decode cX6_run 68 = .ok (.iconst 1, 1) := by decide +kernel
theorem dX6_run_69 : decode cX6_run 69 = .ok (.goto 4, 3) := by decide +kernel
theorem dX6_run_72 : decode cX6_run 72 = .ok (.iconst 0, 1) := by decide +kernel
theorem dX6_run_73 : decode cX6_run 73 = .ok (.iadd, 1) := by decide +kernel
theorem dX6_run_74 : decode cX6_run 74 = .ok (.istore 5, 2) := by decide +kernel
theorem dX6_run_76 : decode cX6_run 76 = .ok (.iinc 6 1, 3) := by decide +kernel
theorem dX6_run_79 : decode cX6_run 79 = .ok (.goto (-63), 3) := by decide +kernel
theorem dX6_run_82 : decode cX6_run 82 = .ok (.iload_n 1, 1) := by decide +kernel
theorem dX6_run_83 : decode cX6_run 83 = .ok (.ifCond .lt 8, 3) := by decide +kernel
theorem dX6_run_86 : decode cX6_run 86 = .ok (.iload 5, 2) := by decide +kernel
theorem dX6_run_88 : decode cX6_run 88 = .ok (.ifCond .ne 5, 3) := by decide +kernel
theorem dX6_run_91 : decode cX6_run 91 = .ok (.iconst (-1), 1) := by decide +kernel
theorem dX6_run_92 : decode cX6_run 92 = .ok (.ireturn, 1) := by decide +kernel
theorem dX6_run_93 : decode cX6_run 93 = .ok (.iload_n 2, 1) := by decide +kernel
theorem dX6_run_94 : decode cX6_run 94 = .ok (.ifCond .ne 8, 3) := by decide +kernel
theorem dX6_run_97 : decode cX6_run 97 = .ok (.iload 4, 2) := by decide +kernel
theorem dX6_run_99 : decode cX6_run 99 = .ok (.goto 45, 3) := by decide +kernel
theorem dX6_run_102 : decode cX6_run 102 = .ok (.iload_n 2, 1) := by decide +kernel
theorem dX6_run_103 : decode cX6_run 103 = .ok (.iconst 1, 1) := by decide +kernel
theorem dX6_run_104 : decode cX6_run 104 = .ok (.if_icmp .ne 8, 3) := by decide +kernel
theorem dX6_run_107 : decode cX6_run 107 = .ok (.iload 5, 2) := by decide +kernel
theorem dX6_run_109 : decode cX6_run 109 = .ok (.goto 35, 3) := by decide +kernel
theorem dX6_run_112 : decode cX6_run 112 = .ok (.iload_n 2, 1) := by decide +kernel
theorem dX6_run_113 : decode cX6_run 113 = .ok (.iconst 2, 1) := by decide +kernel
theorem dX6_run_114 : decode cX6_run 114 = .ok (.if_icmp .ne 13, 3) := by decide +kernel
theorem dX6_run_117 : decode cX6_run 117 = .ok (.aload_n 0, 1) := by decide +kernel
theorem dX6_run_118 : decode cX6_run 118 = .ok (.getfield 56, 3) := by decide +kernel
theorem dX6_run_121 : decode cX6_run 121 = .ok (.iload 4, 2) := by decide +kernel
theorem dX6_run_123 : decode cX6_run 123 = .ok (.iaload, 1) := by decide +kernel
theorem dX6_run_124 : decode cX6_run 124 = .ok (.goto 20, 3) := by decide +kernel
theorem dX6_run_127 : decode cX6_run 127 = .ok (.iload_n 2, 1) := by decide +kernel
theorem dX6_run_128 : decode cX6_run 128 = .ok (.iconst 3, 1) := by decide +kernel
theorem dX6_run_129 : decode cX6_run 129 = .ok (.if_icmp .ne 13, 3) := by decide +kernel
theorem dX6_run_132 : decode cX6_run 132 = .ok (.aload_n 0, 1) := by decide +kernel
theorem dX6_run_133 : decode cX6_run 133 = .ok (.getfield 59, 3) := by decide +kernel
theorem dX6_run_136 : decode cX6_run 136 = .ok (.iload 4, 2) := by decide +kernel
theorem dX6_run_138 : decode cX6_run 138 = .ok (.iaload, 1) := by decide +kernel
theorem dX6_run_139 : decode cX6_run 139 = .ok (.goto 5, 3) := by decide +kernel
theorem dX6_run_142 : decode cX6_run 142 = .ok (.bipush (-2), 2) := by decide +kernel
theorem dX6_run_144 : decode cX6_run 144 = .ok (.ireturn, 1) := by decide +kernel
theorem dX6_count_0 : decode cX6_count 0 = .ok (.aload_n 0, 1) := by decide +kernel
theorem dX6_count_1 : decode cX6_count 1 = .ok (.iconst 0, 1) := by decide +kernel
theorem dX6_count_2 : decode cX6_count 2 = .ok (.putfield 76, 3) := by decide +kernel
theorem dX6_count_5 : decode cX6_count 5 = .ok (.iload_n 1, 1) := by decide +kernel
theorem dX6_count_6 : decode cX6_count 6 = .ok (.tableswitch 59 0 4 #[34, 39, 44, 49, 54], 34) := by decide +kernel
theorem dX6_count_40 : decode cX6_count 40 = .ok (.aload_n 0, 1) := by decide +kernel
theorem dX6_count_41 : decode cX6_count 41 = .ok (.getfield 7, 3) := by decide +kernel
theorem dX6_count_44 : decode cX6_count 44 = .ok (.ireturn, 1) := by decide +kernel
theorem dX6_count_45 : decode cX6_count 45 = .ok (.aload_n 0, 1) := by decide +kernel
theorem dX6_count_46 : decode cX6_count 46 = .ok (.getfield 90, 3) := by decide +kernel
theorem dX6_count_49 : decode cX6_count 49 = .ok (.ireturn, 1) := by decide +kernel
theorem dX6_count_50 : decode cX6_count 50 = .ok (.aload_n 0, 1) := by decide +kernel
theorem dX6_count_51 : decode cX6_count 51 = .ok (.getfield 87, 3) := by decide +kernel
theorem dX6_count_54 : decode cX6_count 54 = .ok (.ireturn, 1) := by decide +kernel
theorem dX6_count_55 : decode cX6_count 55 = .ok (.aload_n 0, 1) := by decide +kernel
theorem dX6_count_56 : decode cX6_count 56 = .ok (.getfield 164, 3) := by decide +kernel
theorem dX6_count_59 : decode cX6_count 59 = .ok (.ireturn, 1) := by decide +kernel
theorem dX6_count_60 : decode cX6_count 60 = .ok (.aload_n 0, 1) := by decide +kernel
theorem dX6_count_61 : decode cX6_count 61 = .ok (.getfield 93, 3) := by decide +kernel
theorem dX6_count_64 : decode cX6_count 64 = .ok (.ireturn, 1) := by decide +kernel
theorem dX6_count_65 : decode cX6_count 65 = .ok (.bipush (-2), 2) := by decide +kernel
theorem dX6_count_67 : decode cX6_count 67 = .ok (.ireturn, 1) := by decide +kernel
theorem dJ9_max_7cf53_0 : decode cJ9_max_7cf53 0 = .ok (.iload_n 0, 1) := by decide +kernel
theorem dJ9_max_7cf53_1 : decode cJ9_max_7cf53 1 = .ok (.iload_n 1, 1) := by decide +kernel
theorem dJ9_max_7cf53_2 : decode cJ9_max_7cf53 2 = .ok (.if_icmp .lt 7, 3) := by decide +kernel
theorem dJ9_max_7cf53_5 : decode cJ9_max_7cf53 5 = .ok (.iload_n 0, 1) := by decide +kernel
theorem dJ9_max_7cf53_6 : decode cJ9_max_7cf53 6 = .ok (.goto 4, 3) := by decide +kernel
theorem dJ9_max_7cf53_9 : decode cJ9_max_7cf53 9 = .ok (.iload_n 1, 1) := by decide +kernel
theorem dJ9_max_7cf53_10 : decode cJ9_max_7cf53 10 = .ok (.ireturn, 1) := by decide +kernel
theorem dJ9_min_7cf53_0 : decode cJ9_min_7cf53 0 = .ok (.iload_n 0, 1) := by decide +kernel
theorem dJ9_min_7cf53_1 : decode cJ9_min_7cf53 1 = .ok (.iload_n 1, 1) := by decide +kernel
theorem dJ9_min_7cf53_2 : decode cJ9_min_7cf53 2 = .ok (.if_icmp .gt 7, 3) := by decide +kernel
theorem dJ9_min_7cf53_5 : decode cJ9_min_7cf53 5 = .ok (.iload_n 0, 1) := by decide +kernel
theorem dJ9_min_7cf53_6 : decode cJ9_min_7cf53 6 = .ok (.goto 4, 3) := by decide +kernel
theorem dJ9_min_7cf53_9 : decode cJ9_min_7cf53 9 = .ok (.iload_n 1, 1) := by decide +kernel
theorem dJ9_min_7cf53_10 : decode cJ9_min_7cf53 10 = .ok (.ireturn, 1) := by decide +kernel
theorem dJ7_fill_d0a16_0 : decode cJ7_fill_d0a16 0 = .ok (.iconst 0, 1) := by decide +kernel
theorem dJ7_fill_d0a16_1 : decode cJ7_fill_d0a16 1 = .ok (.istore_n 3, 1) := by decide +kernel
theorem dJ7_fill_d0a16_2 : decode cJ7_fill_d0a16 2 = .ok (.aload_n 0, 1) := by decide +kernel
theorem dJ7_fill_d0a16_3 : decode cJ7_fill_d0a16 3 = .ok (.arraylength, 1) := by decide +kernel
theorem dJ7_fill_d0a16_4 : decode cJ7_fill_d0a16 4 = .ok (.istore 4, 2) := by decide +kernel
theorem dJ7_fill_d0a16_6 : decode cJ7_fill_d0a16 6 = .ok (.iload_n 3, 1) := by decide +kernel
theorem dJ7_fill_d0a16_7 : decode cJ7_fill_d0a16 7 = .ok (.iload 4, 2) := by decide +kernel
theorem dJ7_fill_d0a16_9 : decode cJ7_fill_d0a16 9 = .ok (.if_icmp .ge 13, 3) := by decide +kernel
theorem dJ7_fill_d0a16_12 : decode cJ7_fill_d0a16 12 = .ok (.aload_n 0, 1) := by decide +kernel
theorem dJ7_fill_d0a16_13 : decode cJ7_fill_d0a16 13 = .ok (.iload_n 3, 1) := by decide +kernel
theorem dJ7_fill_d0a16_14 : decode cJ7_fill_d0a16 14 = .ok (.lload_n 1, 1) := by decide +kernel
theorem dJ7_fill_d0a16_15 : decode cJ7_fill_d0a16 15 = .ok (.lastore, 1) := by decide +kernel
theorem dJ7_fill_d0a16_16 : decode cJ7_fill_d0a16 16 = .ok (.iinc 3 1, 3) := by decide +kernel
theorem dJ7_fill_d0a16_19 : decode cJ7_fill_d0a16 19 = .ok (.goto (-13), 3) := by decide +kernel
theorem dJ7_fill_d0a16_22 : decode cJ7_fill_d0a16 22 = .ok (.return_, 1) := by decide +kernel
theorem dJ7_fill_53178_0 : decode cJ7_fill_53178 0 = .ok (.iconst 0, 1) := by decide +kernel
theorem dJ7_fill_53178_1 : decode cJ7_fill_53178 1 = .ok (.istore_n 2, 1) := by decide +kernel
theorem dJ7_fill_53178_2 : decode cJ7_fill_53178 2 = .ok (.aload_n 0, 1) := by decide +kernel
theorem dJ7_fill_53178_3 : decode cJ7_fill_53178 3 = .ok (.arraylength, 1) := by decide +kernel
theorem dJ7_fill_53178_4 : decode cJ7_fill_53178 4 = .ok (.istore_n 3, 1) := by decide +kernel
theorem dJ7_fill_53178_5 : decode cJ7_fill_53178 5 = .ok (.iload_n 2, 1) := by decide +kernel
theorem dJ7_fill_53178_6 : decode cJ7_fill_53178 6 = .ok (.iload_n 3, 1) := by decide +kernel
theorem dJ7_fill_53178_7 : decode cJ7_fill_53178 7 = .ok (.if_icmp .ge 13, 3) := by decide +kernel
theorem dJ7_fill_53178_10 : decode cJ7_fill_53178 10 = .ok (.aload_n 0, 1) := by decide +kernel
theorem dJ7_fill_53178_11 : decode cJ7_fill_53178 11 = .ok (.iload_n 2, 1) := by decide +kernel
theorem dJ7_fill_53178_12 : decode cJ7_fill_53178 12 = .ok (.iload_n 1, 1) := by decide +kernel
theorem dJ7_fill_53178_13 : decode cJ7_fill_53178 13 = .ok (.iastore, 1) := by decide +kernel
theorem dJ7_fill_53178_14 : decode cJ7_fill_53178 14 = .ok (.iinc 2 1, 3) := by decide +kernel
theorem dJ7_fill_53178_17 : decode cJ7_fill_53178 17 = .ok (.goto (-12), 3) := by decide +kernel
theorem dJ7_fill_53178_20 : decode cJ7_fill_53178 20 = .ok (.return_, 1) := by decide +kernel
theorem dJ7_copyOf_59c91_0 : decode cJ7_copyOf_59c91 0 = .ok (.iload_n 1, 1) := by decide +kernel
theorem dJ7_copyOf_59c91_1 : decode cJ7_copyOf_59c91 1 = .ok (.aload_n 0, 1) := by decide +kernel
theorem dJ7_copyOf_59c91_2 : decode cJ7_copyOf_59c91 2 = .ok (.arraylength, 1) := by decide +kernel
theorem dJ7_copyOf_59c91_3 : decode cJ7_copyOf_59c91 3 = .ok (.if_icmp .ne 11, 3) := by decide +kernel
theorem dJ7_copyOf_59c91_6 : decode cJ7_copyOf_59c91 6 = .ok (.aload_n 0, 1) := by decide +kernel
theorem dJ7_copyOf_59c91_7 : decode cJ7_copyOf_59c91 7 = .ok (.invokevirtual 316, 3) := by decide +kernel
theorem dJ7_copyOf_59c91_10 : decode cJ7_copyOf_59c91 10 = .ok (.checkcast 317, 3) := by decide +kernel
theorem dJ7_copyOf_59c91_13 : decode cJ7_copyOf_59c91 13 = .ok (.areturn, 1) := by decide +kernel
theorem dJ7_copyOf_59c91_14 : decode cJ7_copyOf_59c91 14 = .ok (.iload_n 1, 1) := by decide +kernel
theorem dJ7_copyOf_59c91_15 : decode cJ7_copyOf_59c91 15 = .ok (.newarray .int, 2) := by decide +kernel
theorem dJ7_copyOf_59c91_17 : decode cJ7_copyOf_59c91 17 = .ok (.astore_n 2, 1) := by decide +kernel
theorem dJ7_copyOf_59c91_18 : decode cJ7_copyOf_59c91 18 = .ok (.aload_n 0, 1) := by decide +kernel
theorem dJ7_copyOf_59c91_19 : decode cJ7_copyOf_59c91 19 = .ok (.iconst 0, 1) := by decide +kernel
theorem dJ7_copyOf_59c91_20 : decode cJ7_copyOf_59c91 20 = .ok (.aload_n 2, 1) := by decide +kernel
theorem dJ7_copyOf_59c91_21 : decode cJ7_copyOf_59c91 21 = .ok (.iconst 0, 1) := by decide +kernel
theorem dJ7_copyOf_59c91_22 : decode cJ7_copyOf_59c91 22 = .ok (.aload_n 0, 1) := by decide +kernel
theorem dJ7_copyOf_59c91_23 : decode cJ7_copyOf_59c91 23 = .ok (.arraylength, 1) := by decide +kernel
theorem dJ7_copyOf_59c91_24 : decode cJ7_copyOf_59c91 24 = .ok (.iload_n 1, 1) := by decide +kernel
theorem dJ7_copyOf_59c91_25 : decode cJ7_copyOf_59c91 25 = .ok (.invokestatic 304, 3) := by decide +kernel
theorem dJ7_copyOf_59c91_28 : decode cJ7_copyOf_59c91 28 = .ok (.invokestatic 150, 3) := by decide +kernel
theorem dJ7_copyOf_59c91_31 : decode cJ7_copyOf_59c91 31 = .ok (.aload_n 2, 1) := by decide +kernel
theorem dJ7_copyOf_59c91_32 : decode cJ7_copyOf_59c91 32 = .ok (.areturn, 1) := by decide +kernel
set_option maxRecDepth 20000 in
theorem ggL_law_X5_init : GoodIn wsL_law wsX5_init := goodIn_r _ [8, 9, 10, 11, 12, 13, 14, 15, 16, 17, 18, 19, 20, 21, 22, 23, 24, 25, 26, 27, 28, 29, 30, 31, 32, 33, 34, 35, 36, 37, 38, 39, 40, 41, 42, 43, 44, 45, 46, 47, 48, 49, 50, 51, 52, 53, 54, 55, 56, 57, 58, 59, 60, 61, 62, 63, 64, 65, 66, 67, 68, 69, 70, 71, 72, 73, 74, 75, 687, 688, 689, 690, 691, 692, 693, 694, 695, 696, 697, 656, 657, 658, 659, 660, 698, 699, 700, 701, 702, 703, 704, 705, 706, 707, 708, 709, 710, 711, 712, 713, 714] (by decide +kernel) (by decide +kernel)
set_option maxRecDepth 20000 in
theorem gL_law_X5_init : GoodIn wsL_law (wsX5_init) := ggL_law_X5_init
set_option maxRecDepth 20000 in
theorem ggL_law_X6_init : GoodIn wsL_law wsX6_init := goodIn_r _ [78, 79, 10, 11, 80, 33, 81, 82, 83, 84, 85, 86, 87, 88, 89, 90, 91, 92, 93, 94, 95, 96, 97, 41, 98, 39, 99, 100, 661, 662, 663, 664, 665, 666, 667, 668, 669, 670, 671, 672, 673, 674, 675, 676, 677, 678, 679, 680, 681, 682, 683, 684, 685, 686] (by decide +kernel) (by decide +kernel)
set_option maxRecDepth 20000 in
theorem gL_law_X6_init : GoodIn wsL_law (wsX6_init) := ggL_law_X6_init
set_option maxRecDepth 20000 in
theorem ggL_law_X5_unit : GoodIn wsL_law wsX5_unit := goodIn_r _ [104, 28, 656, 657, 658, 659, 660] (by decide +kernel) (by decide +kernel)
set_option maxRecDepth 20000 in
theorem gL_law_X5_unit : GoodIn wsL_law (wsV RL 13 RX5 yX5_unit wsX5_unit) := goodIn_app (goodIn_of _ (by decide +kernel)) ggL_law_X5_unit
set_option maxRecDepth 20000 in
theorem ggL_law_X6_unit : GoodIn wsL_law wsX6_unit := goodIn_r _ [108, 109, 80, 661, 662, 663, 664, 665, 666, 667, 668, 669, 670, 671, 672, 673, 674, 675, 676, 677, 678, 679, 680, 681, 682, 683, 684, 685, 686] (by decide +kernel) (by decide +kernel)
set_option maxRecDepth 20000 in
theorem gL_law_X6_unit : GoodIn wsL_law (wsV RL 17 RX6 yX6_unit wsX6_unit) := goodIn_app (goodIn_of _ (by decide +kernel)) ggL_law_X6_unit
set_option maxRecDepth 20000 in
theorem ggL_law_X5_hold : GoodIn wsL_law wsX5_hold := goodIn_r _ [113, 15, 114, 115, 116, 2, 117, 28, 118, 119, 120, 121, 122, 123, 124, 125, 126, 14, 127, 38, 128, 129, 130, 131, 46, 36, 34, 35, 132, 133, 134, 135, 136, 137, 138, 139, 140, 141, 142, 143, 144, 145, 146, 147, 148, 149, 150, 151, 37, 152, 153, 154, 155, 156, 157, 158, 159, 160, 161, 162, 163, 164, 165, 166, 167, 168, 169, 170, 171, 172, 173, 174, 175, 40, 656, 657, 658, 659, 660, 687, 688, 689, 690, 691, 692, 693, 694, 695, 696, 697] (by decide +kernel) (by decide +kernel)
set_option maxRecDepth 20000 in
theorem gL_law_X5_hold : GoodIn wsL_law (wsV RL 18 RX5 yX5_hold wsX5_hold) := goodIn_app (goodIn_of _ (by decide +kernel)) ggL_law_X5_hold
set_option maxRecDepth 20000 in
theorem ggL_law_X6_hold : GoodIn wsL_law wsX6_hold := goodIn_r _ [179, 109, 180, 97, 181, 81, 82, 84, 83, 182, 183, 184, 5, 185, 80, 186, 187, 188, 189, 190, 191, 192, 193, 194, 195, 196, 99, 100, 197, 198, 199, 200, 661, 662, 663, 664, 665, 666, 667, 668, 669, 670, 671, 672, 673, 674, 675, 676, 677, 678, 679, 680, 681, 682, 683, 684, 685, 686] (by decide +kernel) (by decide +kernel)
set_option maxRecDepth 20000 in
theorem gL_law_X6_hold : GoodIn wsL_law (wsV RL 22 RX6 yX6_hold wsX6_hold) := goodIn_app (goodIn_of _ (by decide +kernel)) ggL_law_X6_hold
set_option maxRecDepth 20000 in
theorem ggL_law_X5_holds : GoodIn wsL_law wsX5_holds := goodIn_r _ [204, 15, 114, 115, 116, 2, 117, 28, 121, 122, 123, 205, 153, 154, 14, 155, 34, 35, 36, 156, 157, 158, 159, 46, 37, 656, 657, 658, 659, 660, 687, 688, 689, 690, 691, 692, 693, 694, 695, 696, 697] (by decide +kernel) (by decide +kernel)
set_option maxRecDepth 20000 in
theorem gL_law_X5_holds : GoodIn wsL_law (wsV RL 23 RX5 yX5_holds wsX5_holds) := goodIn_app (goodIn_of _ (by decide +kernel)) ggL_law_X5_holds
set_option maxRecDepth 20000 in
theorem ggL_law_X6_holds : GoodIn wsL_law wsX6_holds := goodIn_r _ [209, 109, 97, 182, 183, 184, 5, 185, 80, 186, 187, 188, 189, 190, 191, 192, 197, 198, 199, 200, 100, 99, 181, 81, 82, 84, 83, 661, 662, 663, 664, 665, 666, 667, 668, 669, 670, 671, 672, 673, 674, 675, 676, 677, 678, 679, 680, 681, 682, 683, 684, 685, 686] (by decide +kernel) (by decide +kernel)
set_option maxRecDepth 20000 in
theorem gL_law_X6_holds : GoodIn wsL_law (wsV RL 27 RX6 yX6_holds wsX6_holds) := goodIn_app (goodIn_of _ (by decide +kernel)) ggL_law_X6_holds
set_option maxRecDepth 20000 in
theorem ggL_law_X5_share : GoodIn wsL_law wsX5_share := goodIn_r _ [213, 214, 15, 215, 114, 115, 116, 2, 117, 28, 121, 122, 123, 216, 217, 218, 14, 219, 156, 157, 158, 159, 46, 37, 220, 221, 222, 223, 40, 42, 224, 225, 226, 227, 43, 34, 35, 36, 44, 228, 168, 169, 170, 171, 45, 132, 133, 134, 135, 229, 230, 231, 232, 233, 234, 235, 236, 656, 657, 658, 659, 660, 687, 688, 689, 690, 691, 692, 693, 694, 695, 696, 697] (by decide +kernel) (by decide +kernel)
set_option maxRecDepth 20000 in
theorem gL_law_X5_share : GoodIn wsL_law (wsV RL 28 RX5 yX5_share wsX5_share) := goodIn_app (goodIn_of _ (by decide +kernel)) ggL_law_X5_share
set_option maxRecDepth 20000 in
theorem ggL_law_X6_share : GoodIn wsL_law wsX6_share := goodIn_r _ [240, 109, 241, 242, 98, 182, 183, 184, 5, 185, 80, 186, 187, 188, 189, 190, 191, 192, 243, 244, 245, 246, 247, 248, 97, 180, 197, 198, 199, 200, 100, 99, 181, 81, 82, 84, 83, 661, 662, 663, 664, 665, 666, 667, 668, 669, 670, 671, 672, 673, 674, 675, 676, 677, 678, 679, 680, 681, 682, 683, 684, 685, 686] (by decide +kernel) (by decide +kernel)
set_option maxRecDepth 20000 in
theorem gL_law_X6_share : GoodIn wsL_law (wsV RL 32 RX6 yX6_share wsX6_share) := goodIn_app (goodIn_of _ (by decide +kernel)) ggL_law_X6_share
set_option maxRecDepth 20000 in
theorem ggL_law_X5_days : GoodIn wsL_law wsX5_days := goodIn_r _ [252, 214, 215, 15, 114, 115, 116, 2, 117, 28, 121, 122, 123, 253, 254, 255, 14, 256, 46, 37, 257, 258, 259, 260, 156, 157, 158, 159, 220, 221, 222, 223, 40, 42, 224, 225, 226, 227, 43, 34, 35, 36, 44, 228, 168, 169, 170, 171, 45, 132, 133, 134, 135, 229, 230, 231, 232, 233, 234, 235, 236, 656, 657, 658, 659, 660, 687, 688, 689, 690, 691, 692, 693, 694, 695, 696, 697] (by decide +kernel) (by decide +kernel)
set_option maxRecDepth 20000 in
theorem gL_law_X5_days : GoodIn wsL_law (wsV RL 33 RX5 yX5_days wsX5_days) := goodIn_app (goodIn_of _ (by decide +kernel)) ggL_law_X5_days
set_option maxRecDepth 20000 in
theorem ggL_law_X6_days : GoodIn wsL_law wsX6_days := goodIn_r _ [264, 109, 241, 242, 181, 84, 98, 182, 183, 184, 5, 185, 80, 186, 187, 188, 189, 190, 191, 192, 243, 244, 245, 246, 247, 248, 97, 180, 197, 198, 199, 200, 100, 99, 81, 82, 83, 661, 662, 663, 664, 665, 666, 667, 668, 669, 670, 671, 672, 673, 674, 675, 676, 677, 678, 679, 680, 681, 682, 683, 684, 685, 686] (by decide +kernel) (by decide +kernel)
set_option maxRecDepth 20000 in
theorem gL_law_X6_days : GoodIn wsL_law (wsV RL 37 RX6 yX6_days wsX6_days) := goodIn_app (goodIn_of _ (by decide +kernel)) ggL_law_X6_days
set_option maxRecDepth 20000 in
theorem ggL_law_X5_row : GoodIn wsL_law wsX5_row := goodIn_r _ [268, 269, 19, 114, 115, 116, 2, 117, 28, 270, 271, 272, 121, 122, 123, 273, 274, 275, 18, 276, 57, 51, 52, 53, 54, 55, 656, 657, 658, 659, 660, 698, 699, 700, 701, 702, 703, 704] (by decide +kernel) (by decide +kernel)
set_option maxRecDepth 20000 in
theorem gL_law_X5_row : GoodIn wsL_law (wsV RL 38 RX5 yX5_row wsX5_row) := goodIn_app (goodIn_of _ (by decide +kernel)) ggL_law_X5_row
set_option maxRecDepth 20000 in
theorem ggL_law_X6_row : GoodIn wsL_law wsX6_row := goodIn_r _ [280, 109, 281, 282, 283, 85, 86, 87, 88, 89, 182, 183, 184, 5, 185, 80, 186, 187, 188, 189, 190, 191, 192, 661, 662, 663, 664, 665, 666, 667, 668, 669, 670, 671, 672, 673, 674, 675, 676, 677, 678, 679, 680, 681, 682, 683, 684, 685, 686] (by decide +kernel) (by decide +kernel)
set_option maxRecDepth 20000 in
theorem gL_law_X6_row : GoodIn wsL_law (wsV RL 42 RX6 yX6_row wsX6_row) := goodIn_app (goodIn_of _ (by decide +kernel)) ggL_law_X6_row
set_option maxRecDepth 20000 in
theorem ggL_law_X5_told : GoodIn wsL_law wsX5_told := goodIn_r _ [287, 19, 288, 289, 290, 291, 292, 293, 294, 295, 296, 2, 297, 298, 299, 300, 301, 302, 15, 216, 217, 218, 14, 219, 156, 157, 158, 159, 46, 37, 220, 221, 222, 223, 40, 42, 224, 225, 226, 227, 43, 34, 35, 36, 44, 228, 168, 169, 170, 171, 45, 132, 133, 134, 135, 229, 230, 231, 232, 233, 234, 235, 236, 656, 657, 658, 659, 660, 698, 699, 700, 701, 702, 703, 704, 687, 688, 689, 690, 691, 692, 693, 694, 695, 696, 697] (by decide +kernel) (by decide +kernel)
set_option maxRecDepth 20000 in
theorem gL_law_X5_told : GoodIn wsL_law (wsV RL 43 RX5 yX5_told wsX5_told) := goodIn_app (goodIn_of _ (by decide +kernel)) ggL_law_X5_told
set_option maxRecDepth 20000 in
theorem ggL_law_X6_told : GoodIn wsL_law wsX6_told := goodIn_r _ [306, 109, 85, 86, 87, 88, 89, 90, 307, 308, 309, 5, 310, 283, 186, 187, 188, 311, 312, 313, 314, 98, 243, 244, 245, 246, 247, 248, 97, 180, 197, 198, 199, 200, 100, 99, 181, 81, 82, 84, 83, 661, 662, 663, 664, 665, 666, 667, 668, 669, 670, 671, 672, 673, 674, 675, 676, 677, 678, 679, 680, 681, 682, 683, 684, 685, 686] (by decide +kernel) (by decide +kernel)
set_option maxRecDepth 20000 in
theorem gL_law_X6_told : GoodIn wsL_law (wsV RL 47 RX6 yX6_told wsX6_told) := goodIn_app (goodIn_of _ (by decide +kernel)) ggL_law_X6_told
set_option maxRecDepth 20000 in
theorem ggL_law_X5_factor : GoodIn wsL_law wsX5_factor := goodIn_r _ [318, 23, 270, 271, 2, 272, 319, 320, 321, 322, 323, 324, 22, 325, 66, 62, 63, 64, 65, 656, 657, 658, 659, 660, 705, 706, 707, 708, 709] (by decide +kernel) (by decide +kernel)
set_option maxRecDepth 20000 in
theorem gL_law_X5_factor : GoodIn wsL_law (wsV RL 48 RX5 yX5_factor wsX5_factor) := goodIn_app (goodIn_of _ (by decide +kernel)) ggL_law_X5_factor
set_option maxRecDepth 20000 in
theorem ggL_law_X6_factor : GoodIn wsL_law wsX6_factor := goodIn_r _ [329, 109, 281, 330, 91, 92, 93, 94, 186, 187, 5, 188, 331, 332, 333, 334, 661, 662, 663, 664, 665, 666, 667, 668, 669, 670, 671, 672, 673, 674, 675, 676, 677, 678, 679, 680, 681, 682, 683, 684, 685, 686] (by decide +kernel) (by decide +kernel)
set_option maxRecDepth 20000 in
theorem gL_law_X6_factor : GoodIn wsL_law (wsV RL 51 RX6 yX6_factor wsX6_factor) := goodIn_app (goodIn_of _ (by decide +kernel)) ggL_law_X6_factor
set_option maxRecDepth 20000 in
theorem ggL_law_X5_factorAs : GoodIn wsL_law wsX5_factorAs := goodIn_r _ [338, 23, 339, 340, 341, 2, 342, 343, 270, 271, 272, 319, 320, 321, 344, 345, 346, 22, 347, 66, 62, 63, 348, 349, 350, 351, 65, 64, 656, 657, 658, 659, 660, 705, 706, 707, 708, 709] (by decide +kernel) (by decide +kernel)
set_option maxRecDepth 20000 in
theorem gL_law_X5_factorAs : GoodIn wsL_law (wsV RL 52 RX5 yX5_factorAs wsX5_factorAs) := goodIn_app (goodIn_of _ (by decide +kernel)) ggL_law_X5_factorAs
set_option maxRecDepth 20000 in
theorem ggL_law_X6_factorAs : GoodIn wsL_law wsX6_factorAs := goodIn_r _ [355, 109, 281, 356, 357, 358, 5, 359, 330, 186, 187, 188, 331, 332, 333, 334, 360, 361, 362, 363, 94, 93, 364, 365, 366, 367, 91, 92, 661, 662, 663, 664, 665, 666, 667, 668, 669, 670, 671, 672, 673, 674, 675, 676, 677, 678, 679, 680, 681, 682, 683, 684, 685, 686] (by decide +kernel) (by decide +kernel)
set_option maxRecDepth 20000 in
theorem gL_law_X6_factorAs : GoodIn wsL_law (wsV RL 56 RX6 yX6_factorAs wsX6_factorAs) := goodIn_app (goodIn_of _ (by decide +kernel)) ggL_law_X6_factorAs
set_option maxRecDepth 20000 in
theorem ggL_law_X5_tons : GoodIn wsL_law wsX5_tons := goodIn_r _ [371, 214, 372, 373, 374, 294, 295, 296, 2, 297, 19, 298, 339, 340, 341, 342, 23, 343, 375, 376, 377, 378, 10, 11, 379, 380, 381, 382, 383, 384, 385, 386, 387, 388, 389, 390, 289, 290, 391, 392, 393, 394, 395, 396, 397, 18, 398, 54, 344, 345, 346, 22, 347, 66, 62, 63, 348, 349, 350, 351, 65, 64, 399, 400, 401, 402, 53, 56, 715, 716, 717, 718, 656, 657, 658, 659, 660, 698, 699, 700, 701, 702, 703, 704, 705, 706, 707, 708, 709] (by decide +kernel) (by decide +kernel)
set_option maxRecDepth 20000 in
theorem gL_law_X5_tons : GoodIn wsL_law (wsV RL 57 RX5 yX5_tons wsX5_tons) := goodIn_app (goodIn_of _ (by decide +kernel)) ggL_law_X5_tons
set_option maxRecDepth 20000 in
theorem ggL_law_X6_tons : GoodIn wsL_law wsX6_tons := goodIn_r _ [406, 109, 241, 307, 308, 309, 5, 310, 283, 186, 187, 188, 356, 357, 358, 359, 330, 407, 408, 409, 410, 86, 88, 87, 90, 411, 360, 361, 362, 363, 94, 93, 364, 365, 366, 367, 91, 92, 661, 662, 663, 664, 665, 666, 667, 668, 669, 670, 671, 672, 673, 674, 675, 676, 677, 678, 679, 680, 681, 682, 683, 684, 685, 686] (by decide +kernel) (by decide +kernel)
set_option maxRecDepth 20000 in
theorem gL_law_X6_tons : GoodIn wsL_law (wsV RL 61 RX6 yX6_tons wsX6_tons) := goodIn_app (goodIn_of _ (by decide +kernel)) ggL_law_X6_tons
set_option maxRecDepth 20000 in
theorem ggL_law_X5_changed : GoodIn wsL_law wsX5_changed := goodIn_r _ [415, 19, 298, 339, 340, 341, 2, 342, 23, 343, 319, 320, 321, 416, 417, 418, 419, 420, 421, 422, 18, 423, 424, 396, 397, 398, 54, 391, 392, 393, 394, 289, 395, 344, 345, 346, 22, 347, 66, 62, 63, 348, 349, 350, 351, 65, 64, 656, 657, 658, 659, 660, 698, 699, 700, 701, 702, 703, 704, 705, 706, 707, 708, 709] (by decide +kernel) (by decide +kernel)
set_option maxRecDepth 20000 in
theorem gL_law_X5_changed : GoodIn wsL_law (wsV RL 62 RX5 yX5_changed wsX5_changed) := goodIn_app (goodIn_of _ (by decide +kernel)) ggL_law_X5_changed
set_option maxRecDepth 20000 in
theorem ggL_law_X6_changed : GoodIn wsL_law wsX6_changed := goodIn_r _ [428, 109, 283, 88, 356, 357, 358, 5, 359, 330, 186, 187, 188, 331, 332, 333, 334, 429, 430, 431, 432, 407, 408, 409, 410, 86, 87, 90, 411, 360, 361, 362, 363, 94, 93, 364, 365, 366, 367, 91, 92, 661, 662, 663, 664, 665, 666, 667, 668, 669, 670, 671, 672, 673, 674, 675, 676, 677, 678, 679, 680, 681, 682, 683, 684, 685, 686] (by decide +kernel) (by decide +kernel)
set_option maxRecDepth 20000 in
theorem gL_law_X6_changed : GoodIn wsL_law (wsV RL 65 RX6 yX6_changed wsX6_changed) := goodIn_app (goodIn_of _ (by decide +kernel)) ggL_law_X6_changed
set_option maxRecDepth 20000 in
theorem ggL_law_X5_change : GoodIn wsL_law wsX5_change := goodIn_r _ [436, 19, 298, 339, 340, 341, 2, 342, 23, 343, 319, 320, 321, 416, 417, 418, 419, 420, 421, 422, 18, 423, 424, 396, 397, 398, 54, 391, 392, 393, 394, 289, 395, 344, 345, 346, 22, 347, 66, 62, 63, 348, 349, 350, 351, 65, 64, 656, 657, 658, 659, 660, 698, 699, 700, 701, 702, 703, 704, 705, 706, 707, 708, 709] (by decide +kernel) (by decide +kernel)
set_option maxRecDepth 20000 in
theorem gL_law_X5_change : GoodIn wsL_law (wsV RL 66 RX5 yX5_change wsX5_change) := goodIn_app (goodIn_of _ (by decide +kernel)) ggL_law_X5_change
set_option maxRecDepth 20000 in
theorem ggL_law_X6_change : GoodIn wsL_law wsX6_change := goodIn_r _ [440, 109, 283, 88, 356, 357, 358, 5, 359, 330, 186, 187, 188, 331, 332, 333, 334, 429, 430, 431, 432, 407, 408, 409, 410, 86, 87, 90, 411, 360, 361, 362, 363, 94, 93, 364, 365, 366, 367, 91, 92, 661, 662, 663, 664, 665, 666, 667, 668, 669, 670, 671, 672, 673, 674, 675, 676, 677, 678, 679, 680, 681, 682, 683, 684, 685, 686] (by decide +kernel) (by decide +kernel)
set_option maxRecDepth 20000 in
theorem gL_law_X6_change : GoodIn wsL_law (wsV RL 69 RX6 yX6_change wsX6_change) := goodIn_app (goodIn_of _ (by decide +kernel)) ggL_law_X6_change
set_option maxRecDepth 20000 in
theorem ggL_law_X5_total : GoodIn wsL_law wsX5_total := goodIn_r _ [444, 215, 214, 372, 373, 374, 319, 320, 2, 321, 339, 340, 341, 342, 23, 343, 375, 376, 377, 378, 10, 11, 379, 380, 381, 382, 445, 446, 447, 448, 19, 298, 288, 291, 15, 449, 389, 420, 421, 422, 18, 423, 424, 396, 397, 398, 54, 216, 217, 218, 14, 219, 156, 157, 158, 159, 46, 37, 220, 221, 222, 223, 40, 42, 224, 225, 226, 227, 43, 34, 35, 36, 44, 228, 168, 169, 170, 171, 45, 132, 133, 134, 135, 229, 230, 231, 232, 233, 234, 235, 236, 299, 300, 301, 302, 292, 383, 384, 385, 386, 387, 388, 390, 289, 290, 391, 392, 393, 394, 395, 344, 345, 346, 22, 347, 66, 62, 63, 348, 349, 350, 351, 65, 64, 399, 400, 401, 402, 53, 56, 715, 716, 717, 718, 656, 657, 658, 659, 660, 705, 706, 707, 708, 709, 698, 699, 700, 701, 702, 703, 704, 687, 688, 689, 690, 691, 692, 693, 694, 695, 696, 697] (by decide +kernel) (by decide +kernel)
set_option maxRecDepth 20000 in
theorem gL_law_X5_total : GoodIn wsL_law (wsV RL 70 RX5 yX5_total wsX5_total) := goodIn_app (goodIn_of _ (by decide +kernel)) ggL_law_X5_total
set_option maxRecDepth 20000 in
theorem ggL_law_X6_total : GoodIn wsL_law wsX6_total := goodIn_r _ [453, 109, 242, 241, 331, 332, 5, 333, 334, 186, 187, 188, 356, 357, 358, 359, 330, 454, 455, 456, 457, 283, 88, 85, 98, 411, 311, 312, 313, 314, 89, 243, 244, 245, 246, 247, 248, 97, 180, 197, 198, 199, 200, 100, 99, 181, 81, 82, 84, 83, 407, 408, 409, 410, 86, 87, 90, 360, 361, 362, 363, 94, 93, 364, 365, 366, 367, 91, 92, 661, 662, 663, 664, 665, 666, 667, 668, 669, 670, 671, 672, 673, 674, 675, 676, 677, 678, 679, 680, 681, 682, 683, 684, 685, 686] (by decide +kernel) (by decide +kernel)
set_option maxRecDepth 20000 in
theorem gL_law_X6_total : GoodIn wsL_law (wsV RL 74 RX6 yX6_total wsX6_total) := goodIn_app (goodIn_of _ (by decide +kernel)) ggL_law_X6_total
set_option maxRecDepth 20000 in
theorem ggL_law_X5_anew : GoodIn wsL_law wsX5_anew := goodIn_r _ [461, 215, 214, 372, 373, 374, 319, 320, 2, 321, 121, 122, 123, 339, 340, 341, 342, 23, 343, 375, 376, 377, 378, 10, 11, 379, 380, 381, 382, 445, 446, 447, 448, 19, 298, 288, 291, 15, 449, 389, 420, 421, 422, 18, 423, 424, 396, 397, 398, 54, 216, 217, 218, 14, 219, 156, 157, 158, 159, 46, 37, 220, 221, 222, 223, 40, 42, 224, 225, 226, 227, 43, 34, 35, 36, 44, 228, 168, 169, 170, 171, 45, 132, 133, 134, 135, 229, 230, 231, 232, 233, 234, 235, 236, 299, 300, 301, 302, 292, 383, 384, 385, 386, 387, 388, 390, 289, 290, 391, 392, 393, 394, 395, 344, 345, 346, 22, 347, 66, 62, 63, 348, 349, 350, 351, 65, 64, 399, 400, 401, 402, 53, 56, 715, 716, 717, 718, 656, 657, 658, 659, 660, 705, 706, 707, 708, 709, 698, 699, 700, 701, 702, 703, 704, 687, 688, 689, 690, 691, 692, 693, 694, 695, 696, 697] (by decide +kernel) (by decide +kernel)
set_option maxRecDepth 20000 in
theorem gL_law_X5_anew : GoodIn wsL_law (wsV RL 75 RX5 yX5_anew wsX5_anew) := goodIn_app (goodIn_of _ (by decide +kernel)) ggL_law_X5_anew
set_option maxRecDepth 20000 in
theorem ggL_law_X6_anew : GoodIn wsL_law wsX6_anew := goodIn_r _ [465, 109, 242, 241, 331, 332, 5, 333, 334, 186, 187, 188, 189, 190, 191, 192, 356, 357, 358, 359, 330, 454, 455, 456, 457, 283, 88, 85, 98, 411, 311, 312, 313, 314, 89, 243, 244, 245, 246, 247, 248, 97, 180, 197, 198, 199, 200, 100, 99, 181, 81, 82, 84, 83, 407, 408, 409, 410, 86, 87, 90, 360, 361, 362, 363, 94, 93, 364, 365, 366, 367, 91, 92, 661, 662, 663, 664, 665, 666, 667, 668, 669, 670, 671, 672, 673, 674, 675, 676, 677, 678, 679, 680, 681, 682, 683, 684, 685, 686] (by decide +kernel) (by decide +kernel)
set_option maxRecDepth 20000 in
theorem gL_law_X6_anew : GoodIn wsL_law (wsV RL 79 RX6 yX6_anew wsX6_anew) := goodIn_app (goodIn_of _ (by decide +kernel)) ggL_law_X6_anew
set_option maxRecDepth 20000 in
theorem ggL_law_X5_part : GoodIn wsL_law wsX5_part := goodIn_r _ [469, 214, 215, 372, 373, 374, 114, 115, 116, 2, 117, 28, 319, 320, 321, 339, 340, 341, 342, 23, 343, 375, 376, 377, 378, 10, 11, 379, 380, 381, 382, 445, 446, 447, 448, 19, 298, 288, 291, 15, 449, 389, 420, 421, 422, 18, 423, 424, 396, 397, 398, 54, 216, 217, 218, 14, 219, 156, 157, 158, 159, 46, 37, 220, 221, 222, 223, 40, 42, 224, 225, 226, 227, 43, 34, 35, 36, 44, 228, 168, 169, 170, 171, 45, 132, 133, 134, 135, 229, 230, 231, 232, 233, 234, 235, 236, 299, 300, 301, 302, 292, 383, 384, 385, 386, 387, 388, 390, 289, 290, 391, 392, 393, 394, 395, 344, 345, 346, 22, 347, 66, 62, 63, 348, 349, 350, 351, 65, 64, 399, 400, 401, 402, 53, 56, 715, 716, 717, 718, 656, 657, 658, 659, 660, 705, 706, 707, 708, 709, 698, 699, 700, 701, 702, 703, 704, 687, 688, 689, 690, 691, 692, 693, 694, 695, 696, 697] (by decide +kernel) (by decide +kernel)
set_option maxRecDepth 20000 in
theorem gL_law_X5_part : GoodIn wsL_law (wsV RL 80 RX5 yX5_part wsX5_part) := goodIn_app (goodIn_of _ (by decide +kernel)) ggL_law_X5_part
set_option maxRecDepth 20000 in
theorem ggL_law_X6_part : GoodIn wsL_law wsX6_part := goodIn_r _ [473, 109, 241, 242, 182, 183, 184, 5, 185, 80, 186, 187, 188, 331, 332, 333, 334, 356, 357, 358, 359, 330, 454, 455, 456, 457, 283, 88, 85, 98, 411, 311, 312, 313, 314, 89, 243, 244, 245, 246, 247, 248, 97, 180, 197, 198, 199, 200, 100, 99, 181, 81, 82, 84, 83, 407, 408, 409, 410, 86, 87, 90, 360, 361, 362, 363, 94, 93, 364, 365, 366, 367, 91, 92, 661, 662, 663, 664, 665, 666, 667, 668, 669, 670, 671, 672, 673, 674, 675, 676, 677, 678, 679, 680, 681, 682, 683, 684, 685, 686] (by decide +kernel) (by decide +kernel)
set_option maxRecDepth 20000 in
theorem gL_law_X6_part : GoodIn wsL_law (wsV RL 83 RX6 yX6_part wsX6_part) := goodIn_app (goodIn_of _ (by decide +kernel)) ggL_law_X6_part
set_option maxRecDepth 20000 in
theorem ggL_law_X5_doubles : GoodIn wsL_law wsX5_doubles := goodIn_r _ [477, 19, 298, 291, 319, 320, 2, 321, 420, 421, 422, 18, 423, 424, 396, 397, 398, 54, 299, 300, 301, 302, 292, 15, 288, 216, 217, 218, 14, 219, 156, 157, 158, 159, 46, 37, 220, 221, 222, 223, 40, 42, 224, 225, 226, 227, 43, 34, 35, 36, 44, 228, 168, 169, 170, 171, 45, 132, 133, 134, 135, 229, 230, 231, 232, 233, 234, 235, 236, 656, 657, 658, 659, 660, 698, 699, 700, 701, 702, 703, 704, 687, 688, 689, 690, 691, 692, 693, 694, 695, 696, 697] (by decide +kernel) (by decide +kernel)
set_option maxRecDepth 20000 in
theorem gL_law_X5_doubles : GoodIn wsL_law (wsV RL 84 RX5 yX5_doubles wsX5_doubles) := goodIn_app (goodIn_of _ (by decide +kernel)) ggL_law_X5_doubles
set_option maxRecDepth 20000 in
theorem ggL_law_X6_doubles : GoodIn wsL_law wsX6_doubles := goodIn_r _ [481, 109, 283, 88, 331, 332, 5, 333, 334, 186, 187, 188, 311, 312, 313, 314, 89, 98, 85, 243, 244, 245, 246, 247, 248, 97, 180, 197, 198, 199, 200, 100, 99, 181, 81, 82, 84, 83, 661, 662, 663, 664, 665, 666, 667, 668, 669, 670, 671, 672, 673, 674, 675, 676, 677, 678, 679, 680, 681, 682, 683, 684, 685, 686] (by decide +kernel) (by decide +kernel)
set_option maxRecDepth 20000 in
theorem gL_law_X6_doubles : GoodIn wsL_law (wsV RL 88 RX6 yX6_doubles wsX6_doubles) := goodIn_app (goodIn_of _ (by decide +kernel)) ggL_law_X6_doubles
set_option maxRecDepth 20000 in
theorem ggL_law_X5_onPath : GoodIn wsL_law wsX5_onPath := goodIn_r _ [485, 372, 373, 374, 389, 486, 319, 320, 2, 321, 118, 119, 120, 375, 376, 377, 378, 10, 11, 379, 380, 381, 382, 445, 446, 447, 448, 19, 298, 288, 291, 15, 449, 420, 421, 422, 18, 423, 424, 396, 397, 398, 54, 216, 217, 218, 14, 219, 156, 157, 158, 159, 46, 37, 220, 221, 222, 223, 40, 42, 224, 225, 226, 227, 43, 34, 35, 36, 44, 228, 168, 169, 170, 171, 45, 132, 133, 134, 135, 229, 230, 231, 232, 233, 234, 235, 236, 299, 300, 301, 302, 292, 383, 384, 385, 386, 23, 387, 388, 390, 289, 290, 391, 392, 393, 394, 395, 344, 345, 346, 22, 347, 66, 62, 63, 348, 349, 350, 351, 65, 64, 399, 400, 401, 402, 53, 56, 487, 488, 489, 715, 716, 717, 718, 656, 657, 658, 659, 660, 698, 699, 700, 701, 702, 703, 704, 687, 688, 689, 690, 691, 692, 693, 694, 695, 696, 697, 705, 706, 707, 708, 709] (by decide +kernel) (by decide +kernel)
set_option maxRecDepth 20000 in
theorem gL_law_X5_onPath : GoodIn wsL_law (wsV RL 89 RX5 yX5_onPath wsX5_onPath) := goodIn_app (goodIn_of _ (by decide +kernel)) ggL_law_X5_onPath
set_option maxRecDepth 20000 in
theorem ggL_law_X6_onPath : GoodIn wsL_law wsX6_onPath := goodIn_r _ [493, 109, 180, 411, 331, 332, 5, 333, 334, 186, 187, 188, 454, 455, 456, 457, 283, 88, 85, 98, 311, 312, 313, 314, 89, 243, 244, 245, 246, 247, 248, 97, 197, 198, 199, 200, 100, 99, 181, 81, 82, 84, 83, 407, 408, 409, 410, 86, 87, 90, 360, 361, 362, 363, 94, 93, 364, 365, 366, 367, 330, 91, 92, 661, 662, 663, 664, 665, 666, 667, 668, 669, 670, 671, 672, 673, 674, 675, 676, 677, 678, 679, 680, 681, 682, 683, 684, 685, 686] (by decide +kernel) (by decide +kernel)
set_option maxRecDepth 20000 in
theorem gL_law_X6_onPath : GoodIn wsL_law (wsV RL 92 RX6 yX6_onPath wsX6_onPath) := goodIn_app (goodIn_of _ (by decide +kernel)) ggL_law_X6_onPath
set_option maxRecDepth 20000 in
theorem ggL_law_X5_issue : GoodIn wsL_law wsX5_issue := goodIn_r _ [497, 27, 114, 115, 116, 2, 117, 28, 498, 499, 500, 26, 501, 75, 74, 72, 73, 502, 503, 504, 505, 71, 506, 169, 170, 171, 507, 508, 134, 509, 510, 511, 512, 513, 514, 515, 33, 516, 258, 259, 260, 517, 656, 657, 658, 659, 660, 710, 711, 712, 713, 714] (by decide +kernel) (by decide +kernel)
set_option maxRecDepth 20000 in
theorem gL_law_X5_issue : GoodIn wsL_law (wsV RL 93 RX5 yX5_issue wsX5_issue) := goodIn_app (goodIn_of _ (by decide +kernel)) ggL_law_X5_issue
set_option maxRecDepth 20000 in
theorem ggL_law_X6_issue : GoodIn wsL_law wsX6_issue := goodIn_r _ [521, 109, 522, 523, 95, 96, 182, 183, 184, 5, 185, 80, 186, 187, 188, 661, 662, 663, 664, 665, 666, 667, 668, 669, 670, 671, 672, 673, 674, 675, 676, 677, 678, 679, 680, 681, 682, 683, 684, 685, 686] (by decide +kernel) (by decide +kernel)
set_option maxRecDepth 20000 in
theorem gL_law_X6_issue : GoodIn wsL_law (wsV RL 96 RX6 yX6_issue wsX6_issue) := goodIn_app (goodIn_of _ (by decide +kernel)) ggL_law_X6_issue
set_option maxRecDepth 20000 in
theorem ggL_law_X5_move : GoodIn wsL_law wsX5_move := goodIn_r _ [527, 27, 114, 115, 116, 2, 117, 28, 528, 529, 530, 26, 531, 75, 532, 533, 534, 535, 74, 73, 536, 537, 538, 539, 540, 258, 259, 260, 71, 541, 542, 543, 544, 545, 546, 547, 548, 549, 550, 551, 72, 552, 553, 554, 555, 556, 557, 558, 559, 560, 561, 562, 563, 502, 503, 504, 505, 506, 169, 170, 171, 507, 508, 134, 509, 510, 511, 512, 513, 514, 515, 33, 516, 517, 564, 565, 566, 567, 656, 657, 658, 659, 660, 710, 711, 712, 713, 714] (by decide +kernel) (by decide +kernel)
set_option maxRecDepth 20000 in
theorem gL_law_X5_move : GoodIn wsL_law (wsV RL 97 RX5 yX5_move wsX5_move) := goodIn_app (goodIn_of _ (by decide +kernel)) ggL_law_X5_move
set_option maxRecDepth 20000 in
theorem ggL_law_X6_move : GoodIn wsL_law wsX6_move := goodIn_r _ [571, 109, 95, 182, 183, 184, 5, 185, 80, 186, 187, 188, 572, 573, 574, 575, 523, 576, 577, 578, 579, 96, 661, 662, 663, 664, 665, 666, 667, 668, 669, 670, 671, 672, 673, 674, 675, 676, 677, 678, 679, 680, 681, 682, 683, 684, 685, 686] (by decide +kernel) (by decide +kernel)
set_option maxRecDepth 20000 in
theorem gL_law_X6_move : GoodIn wsL_law (wsV RL 100 RX6 yX6_move wsX6_move) := goodIn_app (goodIn_of _ (by decide +kernel)) ggL_law_X6_move
set_option maxRecDepth 20000 in
theorem ggL_law_X5_use : GoodIn wsL_law wsX5_use := goodIn_r _ [583, 27, 19, 288, 289, 293, 294, 295, 296, 2, 297, 298, 528, 529, 530, 26, 531, 75, 532, 533, 534, 535, 74, 73, 536, 537, 538, 539, 540, 258, 259, 260, 71, 541, 542, 543, 544, 545, 546, 547, 548, 549, 550, 551, 72, 399, 400, 401, 18, 402, 53, 56, 552, 553, 554, 555, 556, 557, 558, 559, 560, 561, 562, 563, 502, 503, 504, 505, 506, 169, 170, 171, 507, 508, 134, 509, 510, 511, 512, 513, 514, 515, 33, 516, 517, 564, 565, 566, 567, 656, 657, 658, 659, 660, 698, 699, 700, 701, 702, 703, 704, 710, 711, 712, 713, 714] (by decide +kernel) (by decide +kernel)
set_option maxRecDepth 20000 in
theorem gL_law_X5_use : GoodIn wsL_law (wsV RL 101 RX5 yX5_use wsX5_use) := goodIn_app (goodIn_of _ (by decide +kernel)) ggL_law_X5_use
set_option maxRecDepth 20000 in
theorem ggL_law_X6_use : GoodIn wsL_law wsX6_use := goodIn_r _ [587, 109, 86, 95, 85, 90, 87, 96, 307, 308, 309, 5, 310, 283, 186, 187, 188, 572, 573, 574, 575, 523, 576, 577, 578, 579, 661, 662, 663, 664, 665, 666, 667, 668, 669, 670, 671, 672, 673, 674, 675, 676, 677, 678, 679, 680, 681, 682, 683, 684, 685, 686] (by decide +kernel) (by decide +kernel)
set_option maxRecDepth 20000 in
theorem gL_law_X6_use : GoodIn wsL_law (wsV RL 104 RX6 yX6_use wsX6_use) := goodIn_app (goodIn_of _ (by decide +kernel)) ggL_law_X6_use
set_option maxRecDepth 20000 in
theorem ggL_law_X5_owner : GoodIn wsL_law wsX5_owner := goodIn_r _ [591, 27, 592, 528, 529, 530, 26, 531, 75, 593, 561, 562, 563, 74, 71, 656, 657, 658, 659, 660, 710, 711, 712, 713, 714] (by decide +kernel) (by decide +kernel)
set_option maxRecDepth 20000 in
theorem gL_law_X5_owner : GoodIn wsL_law (wsV RL 105 RX5 yX5_owner wsX5_owner) := goodIn_app (goodIn_of _ (by decide +kernel)) ggL_law_X5_owner
set_option maxRecDepth 20000 in
theorem ggL_law_X6_owner : GoodIn wsL_law wsX6_owner := goodIn_r _ [597, 109, 523, 95, 186, 187, 5, 188, 661, 662, 663, 664, 665, 666, 667, 668, 669, 670, 671, 672, 673, 674, 675, 676, 677, 678, 679, 680, 681, 682, 683, 684, 685, 686] (by decide +kernel) (by decide +kernel)
set_option maxRecDepth 20000 in
theorem gL_law_X6_owner : GoodIn wsL_law (wsV RL 108 RX6 yX6_owner wsX6_owner) := goodIn_app (goodIn_of _ (by decide +kernel)) ggL_law_X6_owner
set_option maxRecDepth 20000 in
theorem ggL_law_X5_usedFor : GoodIn wsL_law wsX5_usedFor := goodIn_r _ [601, 27, 602, 528, 529, 530, 26, 531, 75, 593, 561, 562, 563, 74, 71, 656, 657, 658, 659, 660, 710, 711, 712, 713, 714] (by decide +kernel) (by decide +kernel)
set_option maxRecDepth 20000 in
theorem gL_law_X5_usedFor : GoodIn wsL_law (wsV RL 109 RX5 yX5_usedFor wsX5_usedFor) := goodIn_app (goodIn_of _ (by decide +kernel)) ggL_law_X5_usedFor
set_option maxRecDepth 20000 in
theorem ggL_law_X6_usedFor : GoodIn wsL_law wsX6_usedFor := goodIn_r _ [606, 109, 523, 96, 186, 187, 5, 188, 661, 662, 663, 664, 665, 666, 667, 668, 669, 670, 671, 672, 673, 674, 675, 676, 677, 678, 679, 680, 681, 682, 683, 684, 685, 686] (by decide +kernel) (by decide +kernel)
set_option maxRecDepth 20000 in
theorem gL_law_X6_usedFor : GoodIn wsL_law (wsV RL 112 RX6 yX6_usedFor wsX6_usedFor) := goodIn_app (goodIn_of _ (by decide +kernel)) ggL_law_X6_usedFor
set_option maxRecDepth 20000 in
theorem ggL_law_X5_free : GoodIn wsL_law wsX5_free := goodIn_r _ [610, 27, 114, 115, 116, 2, 117, 28, 611, 612, 613, 26, 614, 74, 72, 73, 615, 616, 617, 618, 71, 544, 545, 546, 547, 75, 656, 657, 658, 659, 660, 710, 711, 712, 713, 714] (by decide +kernel) (by decide +kernel)
set_option maxRecDepth 20000 in
theorem gL_law_X5_free : GoodIn wsL_law (wsV RL 113 RX5 yX5_free wsX5_free) := goodIn_app (goodIn_of _ (by decide +kernel)) ggL_law_X5_free
set_option maxRecDepth 20000 in
theorem ggL_law_X6_free : GoodIn wsL_law wsX6_free := goodIn_r _ [622, 109, 523, 95, 96, 182, 183, 184, 5, 185, 80, 186, 187, 188, 661, 662, 663, 664, 665, 666, 667, 668, 669, 670, 671, 672, 673, 674, 675, 676, 677, 678, 679, 680, 681, 682, 683, 684, 685, 686] (by decide +kernel) (by decide +kernel)
set_option maxRecDepth 20000 in
theorem gL_law_X6_free : GoodIn wsL_law (wsV RL 116 RX6 yX6_free wsX6_free) := goodIn_app (goodIn_of _ (by decide +kernel)) ggL_law_X6_free
set_option maxRecDepth 20000 in
theorem ggL_law_X5_runs : GoodIn wsL_law wsX5_runs := goodIn_r _ [626, 27, 627, 656, 657, 658, 659, 660, 710, 711, 712, 713, 714] (by decide +kernel) (by decide +kernel)
set_option maxRecDepth 20000 in
theorem gL_law_X5_runs : GoodIn wsL_law (wsV RL 117 RX5 yX5_runs wsX5_runs) := goodIn_app (goodIn_of _ (by decide +kernel)) ggL_law_X5_runs
set_option maxRecDepth 20000 in
theorem ggL_law_X6_runs : GoodIn wsL_law wsX6_runs := goodIn_r _ [631, 109, 523, 632, 633, 634, 5, 635, 95, 96, 661, 662, 663, 664, 665, 666, 667, 668, 669, 670, 671, 672, 673, 674, 675, 676, 677, 678, 679, 680, 681, 682, 683, 684, 685, 686] (by decide +kernel) (by decide +kernel)
set_option maxRecDepth 20000 in
theorem gL_law_X6_runs : GoodIn wsL_law (wsV RL 120 RX6 yX6_runs wsX6_runs) := goodIn_app (goodIn_of _ (by decide +kernel)) ggL_law_X6_runs
set_option maxRecDepth 20000 in
theorem ggL_law_X5_run : GoodIn wsL_law wsX5_run := goodIn_r _ [639, 27, 627, 640, 592, 602, 641, 616, 617, 26, 618, 71, 544, 545, 546, 547, 74, 75, 656, 657, 658, 659, 660, 710, 711, 712, 713, 714] (by decide +kernel) (by decide +kernel)
set_option maxRecDepth 20000 in
theorem gL_law_X5_run : GoodIn wsL_law (wsV RL 121 RX5 yX5_run wsX5_run) := goodIn_app (goodIn_of _ (by decide +kernel)) ggL_law_X5_run
set_option maxRecDepth 20000 in
theorem ggL_law_X6_run : GoodIn wsL_law wsX6_run := goodIn_r _ [645, 109, 523, 95, 96, 632, 633, 634, 5, 635, 661, 662, 663, 664, 665, 666, 667, 668, 669, 670, 671, 672, 673, 674, 675, 676, 677, 678, 679, 680, 681, 682, 683, 684, 685, 686] (by decide +kernel) (by decide +kernel)
set_option maxRecDepth 20000 in
theorem gL_law_X6_run : GoodIn wsL_law (wsV RL 124 RX6 yX6_run wsX6_run) := goodIn_app (goodIn_of _ (by decide +kernel)) ggL_law_X6_run
set_option maxRecDepth 20000 in
theorem ggL_law_X5_count : GoodIn wsL_law wsX5_count := goodIn_r _ [649, 28, 19, 298, 23, 343, 27, 650, 15, 651, 656, 657, 658, 659, 660, 698, 699, 700, 701, 702, 703, 704, 705, 706, 707, 708, 709, 710, 711, 712, 713, 714, 687, 688, 689, 690, 691, 692, 693, 694, 695, 696, 697] (by decide +kernel) (by decide +kernel)
set_option maxRecDepth 20000 in
theorem gL_law_X5_count : GoodIn wsL_law (wsV RL 125 RX5 yX5_count wsX5_count) := goodIn_app (goodIn_of _ (by decide +kernel)) ggL_law_X5_count
set_option maxRecDepth 20000 in
theorem ggL_law_X6_count : GoodIn wsL_law wsX6_count := goodIn_r _ [655, 109, 80, 283, 330, 523, 181, 661, 662, 663, 664, 665, 666, 667, 668, 669, 670, 671, 672, 673, 674, 675, 676, 677, 678, 679, 680, 681, 682, 683, 684, 685, 686] (by decide +kernel) (by decide +kernel)
set_option maxRecDepth 20000 in
theorem gL_law_X6_count : GoodIn wsL_law (wsV RL 128 RX6 yX6_count wsX6_count) := goodIn_app (goodIn_of _ (by decide +kernel)) ggL_law_X6_count
theorem dL_law_0 : decode cL_law 0 = .ok (.new 7, 3) := by decide +kernel
theorem dL_law_3 : decode cL_law 3 = .ok (.dup, 1) := by decide +kernel
theorem dL_law_4 : decode cL_law 4 = .ok (.invokespecial 9, 3) := by decide +kernel
theorem dL_law_7 : decode cL_law 7 = .ok (.astore_n 1, 1) := by decide +kernel
theorem dL_law_8 : decode cL_law 8 = .ok (.new 10, 3) := by decide +kernel
theorem dL_law_11 : decode cL_law 11 = .ok (.dup, 1) := by decide +kernel
theorem dL_law_12 : decode cL_law 12 = .ok (.invokespecial 12, 3) := by decide +kernel
theorem dL_law_15 : decode cL_law 15 = .ok (.astore_n 2, 1) := by decide +kernel
theorem dL_law_16 : decode cL_law 16 = .ok (.iconst 0, 1) := by decide +kernel
theorem dL_law_17 : decode cL_law 17 = .ok (.istore_n 3, 1) := by decide +kernel
theorem dL_law_18 : decode cL_law 18 = .ok (.iload_n 3, 1) := by decide +kernel
theorem dL_law_19 : decode cL_law 19 = .ok (.aload_n 0, 1) := by decide +kernel
theorem dL_law_20 : decode cL_law 20 = .ok (.arraylength, 1) := by decide +kernel
theorem dL_law_21 : decode cL_law 21 = .ok (.bipush 7, 2) := by decide +kernel
theorem dL_law_23 : decode cL_law 23 = .ok (.isub, 1) := by decide +kernel
theorem dL_law_24 : decode cL_law 24 = .ok (.if_icmp .gt 1414, 3) := by decide +kernel
theorem dL_law_27 : decode cL_law 27 = .ok (.aload_n 0, 1) := by decide +kernel
theorem dL_law_28 : decode cL_law 28 = .ok (.iload_n 3, 1) := by decide +kernel
theorem dL_law_29 : decode cL_law 29 = .ok (.iaload, 1) := by decide +kernel
theorem dL_law_30 : decode cL_law 30 = .ok (.bipush 31, 2) := by decide +kernel
theorem dL_law_32 : decode cL_law 32 = .ok (.iand, 1) := by decide +kernel
theorem dL_law_33 : decode cL_law 33 = .ok (.tableswitch 1399 0 25 #[119, 132, 185, 228, 262, 306, 369, 402, 455, 524, 610, 653, 706, 818, 942, 1066, 1089, 1142, 1175, 1218, 1261, 1284, 1307, 1330, 1343, 1376], 119) := by decide +kernel
theorem dL_law_152 : decode cL_law 152 = .ok (.aload_n 1, 1) := by decide +kernel
theorem dL_law_153 : decode cL_law 153 = .ok (.invokevirtual 13, 3) := by decide +kernel
theorem dL_law_156 : decode cL_law 156 = .ok (.aload_n 2, 1) := by decide +kernel
theorem dL_law_157 : decode cL_law 157 = .ok (.invokevirtual 17, 3) := by decide +kernel
theorem dL_law_160 : decode cL_law 160 = .ok (.if_icmp .eq 1272, 3) := by decide +kernel
theorem dL_law_163 : decode cL_law 163 = .ok (.iconst 0, 1) := by decide +kernel
theorem dL_law_164 : decode cL_law 164 = .ok (.ireturn, 1) := by decide +kernel
theorem dL_law_165 : decode cL_law 165 = .ok (.aload_n 1, 1) := by decide +kernel
theorem dL_law_166 : decode cL_law 166 = .ok (.aload_n 0, 1) := by decide +kernel
theorem dL_law_167 : decode cL_law 167 = .ok (.iload_n 3, 1) := by decide +kernel
theorem dL_law_168 : decode cL_law 168 = .ok (.iconst 1, 1) := by decide +kernel
theorem dL_law_169 : decode cL_law 169 = .ok (.iadd, 1) := by decide +kernel
theorem dL_law_170 : decode cL_law 170 = .ok (.iaload, 1) := by decide +kernel
theorem dL_law_171 : decode cL_law 171 = .ok (.aload_n 0, 1) := by decide +kernel
theorem dL_law_172 : decode cL_law 172 = .ok (.iload_n 3, 1) := by decide +kernel
theorem dL_law_173 : decode cL_law 173 = .ok (.iconst 2, 1) := by decide +kernel
theorem dL_law_174 : decode cL_law 174 = .ok (.iadd, 1) := by decide +kernel
theorem dL_law_175 : decode cL_law 175 = .ok (.iaload, 1) := by decide +kernel
theorem dL_law_176 : decode cL_law 176 = .ok (.aload_n 0, 1) := by decide +kernel
theorem dL_law_177 : decode cL_law 177 = .ok (.iload_n 3, 1) := by decide +kernel
theorem dL_law_178 : decode cL_law 178 = .ok (.iconst 3, 1) := by decide +kernel
theorem dL_law_179 : decode cL_law 179 = .ok (.iadd, 1) := by decide +kernel
theorem dL_law_180 : decode cL_law 180 = .ok (.iaload, 1) := by decide +kernel
theorem dL_law_181 : decode cL_law 181 = .ok (.aload_n 0, 1) := by decide +kernel
theorem dL_law_182 : decode cL_law 182 = .ok (.iload_n 3, 1) := by decide +kernel
theorem dL_law_183 : decode cL_law 183 = .ok (.iconst 4, 1) := by decide +kernel
theorem dL_law_184 : decode cL_law 184 = .ok (.iadd, 1) := by decide +kernel
theorem dL_law_185 : decode cL_law 185 = .ok (.iaload, 1) := by decide +kernel
theorem dL_law_186 : decode cL_law 186 = .ok (.invokevirtual 18, 3) := by decide +kernel
theorem dL_law_189 : decode cL_law 189 = .ok (.aload_n 2, 1) := by decide +kernel
theorem dL_law_190 : decode cL_law 190 = .ok (.aload_n 0, 1) := by decide +kernel
theorem dL_law_191 : decode cL_law 191 = .ok (.iload_n 3, 1) := by decide +kernel
theorem dL_law_192 : decode cL_law 192 = .ok (.iconst 1, 1) := by decide +kernel
theorem dL_law_193 : decode cL_law 193 = .ok (.iadd, 1) := by decide +kernel
theorem dL_law_194 : decode cL_law 194 = .ok (.iaload, 1) := by decide +kernel
theorem dL_law_195 : decode cL_law 195 = .ok (.aload_n 0, 1) := by decide +kernel
theorem dL_law_196 : decode cL_law 196 = .ok (.iload_n 3, 1) := by decide +kernel
theorem dL_law_197 : decode cL_law 197 = .ok (.iconst 2, 1) := by decide +kernel
theorem dL_law_198 : decode cL_law 198 = .ok (.iadd, 1) := by decide +kernel
theorem dL_law_199 : decode cL_law 199 = .ok (.iaload, 1) := by decide +kernel
theorem dL_law_200 : decode cL_law 200 = .ok (.aload_n 0, 1) := by decide +kernel
theorem dL_law_201 : decode cL_law 201 = .ok (.iload_n 3, 1) := by decide +kernel
theorem dL_law_202 : decode cL_law 202 = .ok (.iconst 3, 1) := by decide +kernel
theorem dL_law_203 : decode cL_law 203 = .ok (.iadd, 1) := by decide +kernel
theorem dL_law_204 : decode cL_law 204 = .ok (.iaload, 1) := by decide +kernel
theorem dL_law_205 : decode cL_law 205 = .ok (.aload_n 0, 1) := by decide +kernel
theorem dL_law_206 : decode cL_law 206 = .ok (.iload_n 3, 1) := by decide +kernel
theorem dL_law_207 : decode cL_law 207 = .ok (.iconst 4, 1) := by decide +kernel
theorem dL_law_208 : decode cL_law 208 = .ok (.iadd, 1) := by decide +kernel
theorem dL_law_209 : decode cL_law 209 = .ok (.iaload, 1) := by decide +kernel
theorem dL_law_210 : decode cL_law 210 = .ok (.invokevirtual 22, 3) := by decide +kernel
theorem dL_law_213 : decode cL_law 213 = .ok (.if_icmp .eq 1219, 3) := by decide +kernel
theorem dL_law_216 : decode cL_law 216 = .ok (.iconst 0, 1) := by decide +kernel
theorem dL_law_217 : decode cL_law 217 = .ok (.ireturn, 1) := by decide +kernel
theorem dL_law_218 : decode cL_law 218 = .ok (.aload_n 1, 1) := by decide +kernel
theorem dL_law_219 : decode cL_law 219 = .ok (.aload_n 0, 1) := by decide +kernel
theorem dL_law_220 : decode cL_law 220 = .ok (.iload_n 3, 1) := by decide +kernel
theorem dL_law_221 : decode cL_law 221 = .ok (.iconst 1, 1) := by decide +kernel
theorem dL_law_222 : decode cL_law 222 = .ok (.iadd, 1) := by decide +kernel
theorem dL_law_223 : decode cL_law 223 = .ok (.iaload, 1) := by decide +kernel
theorem dL_law_224 : decode cL_law 224 = .ok (.aload_n 0, 1) := by decide +kernel
theorem dL_law_225 : decode cL_law 225 = .ok (.iload_n 3, 1) := by decide +kernel
theorem dL_law_226 : decode cL_law 226 = .ok (.iconst 2, 1) := by decide +kernel
theorem dL_law_227 : decode cL_law 227 = .ok (.iadd, 1) := by decide +kernel
theorem dL_law_228 : decode cL_law 228 = .ok (.iaload, 1) := by decide +kernel
theorem dL_law_229 : decode cL_law 229 = .ok (.aload_n 0, 1) := by decide +kernel
theorem dL_law_230 : decode cL_law 230 = .ok (.iload_n 3, 1) := by decide +kernel
theorem dL_law_231 : decode cL_law 231 = .ok (.iconst 3, 1) := by decide +kernel
theorem dL_law_232 : decode cL_law 232 = .ok (.iadd, 1) := by decide +kernel
theorem dL_law_233 : decode cL_law 233 = .ok (.iaload, 1) := by decide +kernel
theorem dL_law_234 : decode cL_law 234 = .ok (.invokevirtual 23, 3) := by decide +kernel
theorem dL_law_237 : decode cL_law 237 = .ok (.aload_n 2, 1) := by decide +kernel
theorem dL_law_238 : decode cL_law 238 = .ok (.aload_n 0, 1) := by decide +kernel
theorem dL_law_239 : decode cL_law 239 = .ok (.iload_n 3, 1) := by decide +kernel
theorem dL_law_240 : decode cL_law 240 = .ok (.iconst 1, 1) := by decide +kernel
theorem dL_law_241 : decode cL_law 241 = .ok (.iadd, 1) := by decide +kernel
theorem dL_law_242 : decode cL_law 242 = .ok (.iaload, 1) := by decide +kernel
theorem dL_law_243 : decode cL_law 243 = .ok (.aload_n 0, 1) := by decide +kernel
theorem dL_law_244 : decode cL_law 244 = .ok (.iload_n 3, 1) := by decide +kernel
theorem dL_law_245 : decode cL_law 245 = .ok (.iconst 2, 1) := by decide +kernel
theorem dL_law_246 : decode cL_law 246 = .ok (.iadd, 1) := by decide +kernel
theorem dL_law_247 : decode cL_law 247 = .ok (.iaload, 1) := by decide +kernel
theorem dL_law_248 : decode cL_law 248 = .ok (.aload_n 0, 1) := by decide +kernel
theorem dL_law_249 : decode cL_law 249 = .ok (.iload_n 3, 1) := by decide +kernel
theorem dL_law_250 : decode cL_law 250 = .ok (.iconst 3, 1) := by decide +kernel
theorem dL_law_251 : decode cL_law 251 = .ok (.iadd, 1) := by decide +kernel
theorem dL_law_252 : decode cL_law 252 = .ok (.iaload, 1) := by decide +kernel
theorem dL_law_253 : decode cL_law 253 = .ok (.invokevirtual 27, 3) := by decide +kernel
theorem dL_law_256 : decode cL_law 256 = .ok (.if_icmp .eq 1176, 3) := by decide +kernel
theorem dL_law_259 : decode cL_law 259 = .ok (.iconst 0, 1) := by decide +kernel
theorem dL_law_260 : decode cL_law 260 = .ok (.ireturn, 1) := by decide +kernel
theorem dL_law_261 : decode cL_law 261 = .ok (.aload_n 1, 1) := by decide +kernel
theorem dL_law_262 : decode cL_law 262 = .ok (.aload_n 0, 1) := by decide +kernel
theorem dL_law_263 : decode cL_law 263 = .ok (.iload_n 3, 1) := by decide +kernel
theorem dL_law_264 : decode cL_law 264 = .ok (.iconst 1, 1) := by decide +kernel
theorem dL_law_265 : decode cL_law 265 = .ok (.iadd, 1) := by decide +kernel
theorem dL_law_266 : decode cL_law 266 = .ok (.iaload, 1) := by decide +kernel
theorem dL_law_267 : decode cL_law 267 = .ok (.aload_n 0, 1) := by decide +kernel
theorem dL_law_268 : decode cL_law 268 = .ok (.iload_n 3, 1) := by decide +kernel
theorem dL_law_269 : decode cL_law 269 = .ok (.iconst 2, 1) := by decide +kernel
theorem dL_law_270 : decode cL_law 270 = .ok (.iadd, 1) := by decide +kernel
theorem dL_law_271 : decode cL_law 271 = .ok (.iaload, 1) := by decide +kernel
theorem dL_law_272 : decode cL_law 272 = .ok (.invokevirtual 28, 3) := by decide +kernel
theorem dL_law_275 : decode cL_law 275 = .ok (.aload_n 2, 1) := by decide +kernel
theorem dL_law_276 : decode cL_law 276 = .ok (.aload_n 0, 1) := by decide +kernel
theorem dL_law_277 : decode cL_law 277 = .ok (.iload_n 3, 1) := by decide +kernel
theorem dL_law_278 : decode cL_law 278 = .ok (.iconst 1, 1) := by decide +kernel
theorem dL_law_279 : decode cL_law 279 = .ok (.iadd, 1) := by decide +kernel
theorem dL_law_280 : decode cL_law 280 = .ok (.iaload, 1) := by decide +kernel
theorem dL_law_281 : decode cL_law 281 = .ok (.aload_n 0, 1) := by decide +kernel
theorem dL_law_282 : decode cL_law 282 = .ok (.iload_n 3, 1) := by decide +kernel
theorem dL_law_283 : decode cL_law 283 = .ok (.iconst 2, 1) := by decide +kernel
theorem dL_law_284 : decode cL_law 284 = .ok (.iadd, 1) := by decide +kernel
theorem dL_law_285 : decode cL_law 285 = .ok (.iaload, 1) := by decide +kernel
theorem dL_law_286 : decode cL_law 286 = .ok (.invokevirtual 32, 3) := by decide +kernel
theorem dL_law_289 : decode cL_law 289 = .ok (.lcmp, 1) := by decide +kernel
theorem dL_law_290 : decode cL_law 290 = .ok (.ifCond .eq 1142, 3) := by decide +kernel
theorem dL_law_293 : decode cL_law 293 = .ok (.iconst 0, 1) := by decide +kernel
theorem dL_law_294 : decode cL_law 294 = .ok (.ireturn, 1) := by decide +kernel
theorem dL_law_295 : decode cL_law 295 = .ok (.aload_n 1, 1) := by decide +kernel
theorem dL_law_296 : decode cL_law 296 = .ok (.aload_n 0, 1) := by decide +kernel
theorem dL_law_297 : decode cL_law 297 = .ok (.iload_n 3, 1) := by decide +kernel
theorem dL_law_298 : decode cL_law 298 = .ok (.iconst 1, 1) := by decide +kernel
theorem dL_law_299 : decode cL_law 299 = .ok (.iadd, 1) := by decide +kernel
theorem dL_law_300 : decode cL_law 300 = .ok (.iaload, 1) := by decide +kernel
theorem dL_law_301 : decode cL_law 301 = .ok (.aload_n 0, 1) := by decide +kernel
theorem dL_law_302 : decode cL_law 302 = .ok (.iload_n 3, 1) := by decide +kernel
theorem dL_law_303 : decode cL_law 303 = .ok (.iconst 2, 1) := by decide +kernel
theorem dL_law_304 : decode cL_law 304 = .ok (.iadd, 1) := by decide +kernel
theorem dL_law_305 : decode cL_law 305 = .ok (.iaload, 1) := by decide +kernel
theorem dL_law_306 : decode cL_law 306 = .ok (.aload_n 0, 1) := by decide +kernel
theorem dL_law_307 : decode cL_law 307 = .ok (.iload_n 3, 1) := by decide +kernel
theorem dL_law_308 : decode cL_law 308 = .ok (.iconst 3, 1) := by decide +kernel
theorem dL_law_309 : decode cL_law 309 = .ok (.iadd, 1) := by decide +kernel
theorem dL_law_310 : decode cL_law 310 = .ok (.iaload, 1) := by decide +kernel
theorem dL_law_311 : decode cL_law 311 = .ok (.invokevirtual 33, 3) := by decide +kernel
theorem dL_law_314 : decode cL_law 314 = .ok (.aload_n 2, 1) := by decide +kernel
theorem dL_law_315 : decode cL_law 315 = .ok (.aload_n 0, 1) := by decide +kernel
theorem dL_law_316 : decode cL_law 316 = .ok (.iload_n 3, 1) := by decide +kernel
theorem dL_law_317 : decode cL_law 317 = .ok (.iconst 1, 1) := by decide +kernel
theorem dL_law_318 : decode cL_law 318 = .ok (.iadd, 1) := by decide +kernel
theorem dL_law_319 : decode cL_law 319 = .ok (.iaload, 1) := by decide +kernel
theorem dL_law_320 : decode cL_law 320 = .ok (.aload_n 0, 1) := by decide +kernel
theorem dL_law_321 : decode cL_law 321 = .ok (.iload_n 3, 1) := by decide +kernel
theorem dL_law_322 : decode cL_law 322 = .ok (.iconst 2, 1) := by decide +kernel
theorem dL_law_323 : decode cL_law 323 = .ok (.iadd, 1) := by decide +kernel
theorem dL_law_324 : decode cL_law 324 = .ok (.iaload, 1) := by decide +kernel
theorem dL_law_325 : decode cL_law 325 = .ok (.aload_n 0, 1) := by decide +kernel
theorem dL_law_326 : decode cL_law 326 = .ok (.iload_n 3, 1) := by decide +kernel
theorem dL_law_327 : decode cL_law 327 = .ok (.iconst 3, 1) := by decide +kernel
theorem dL_law_328 : decode cL_law 328 = .ok (.iadd, 1) := by decide +kernel
theorem dL_law_329 : decode cL_law 329 = .ok (.iaload, 1) := by decide +kernel
theorem dL_law_330 : decode cL_law 330 = .ok (.invokevirtual 37, 3) := by decide +kernel
theorem dL_law_333 : decode cL_law 333 = .ok (.lcmp, 1) := by decide +kernel
theorem dL_law_334 : decode cL_law 334 = .ok (.ifCond .eq 1098, 3) := by decide +kernel
theorem dL_law_337 : decode cL_law 337 = .ok (.iconst 0, 1) := by decide +kernel
theorem dL_law_338 : decode cL_law 338 = .ok (.ireturn, 1) := by decide +kernel
theorem dL_law_339 : decode cL_law 339 = .ok (.aload_n 1, 1) := by decide +kernel
theorem dL_law_340 : decode cL_law 340 = .ok (.aload_n 0, 1) := by decide +kernel
theorem dL_law_341 : decode cL_law 341 = .ok (.iload_n 3, 1) := by decide +kernel
theorem dL_law_342 : decode cL_law 342 = .ok (.iconst 1, 1) := by decide +kernel
theorem dL_law_343 : decode cL_law 343 = .ok (.iadd, 1) := by decide +kernel
theorem dL_law_344 : decode cL_law 344 = .ok (.iaload, 1) := by decide +kernel
theorem dL_law_345 : decode cL_law 345 = .ok (.aload_n 0, 1) := by decide +kernel
theorem dL_law_346 : decode cL_law 346 = .ok (.iload_n 3, 1) := by decide +kernel
theorem dL_law_347 : decode cL_law 347 = .ok (.iconst 2, 1) := by decide +kernel
theorem dL_law_348 : decode cL_law 348 = .ok (.iadd, 1) := by decide +kernel
theorem dL_law_349 : decode cL_law 349 = .ok (.iaload, 1) := by decide +kernel
theorem dL_law_350 : decode cL_law 350 = .ok (.aload_n 0, 1) := by decide +kernel
theorem dL_law_351 : decode cL_law 351 = .ok (.iload_n 3, 1) := by decide +kernel
theorem dL_law_352 : decode cL_law 352 = .ok (.iconst 3, 1) := by decide +kernel
theorem dL_law_353 : decode cL_law 353 = .ok (.iadd, 1) := by decide +kernel
theorem dL_law_354 : decode cL_law 354 = .ok (.iaload, 1) := by decide +kernel
theorem dL_law_355 : decode cL_law 355 = .ok (.aload_n 0, 1) := by decide +kernel
theorem dL_law_356 : decode cL_law 356 = .ok (.iload_n 3, 1) := by decide +kernel
theorem dL_law_357 : decode cL_law 357 = .ok (.iconst 4, 1) := by decide +kernel
theorem dL_law_358 : decode cL_law 358 = .ok (.iadd, 1) := by decide +kernel
theorem dL_law_359 : decode cL_law 359 = .ok (.iaload, 1) := by decide +kernel
theorem dL_law_360 : decode cL_law 360 = .ok (.aload_n 0, 1) := by decide +kernel
theorem dL_law_361 : decode cL_law 361 = .ok (.iload_n 3, 1) := by decide +kernel
theorem dL_law_362 : decode cL_law 362 = .ok (.iconst 5, 1) := by decide +kernel
theorem dL_law_363 : decode cL_law 363 = .ok (.iadd, 1) := by decide +kernel
theorem dL_law_364 : decode cL_law 364 = .ok (.iaload, 1) := by decide +kernel
theorem dL_law_365 : decode cL_law 365 = .ok (.invokevirtual 38, 3) := by decide +kernel
theorem dL_law_368 : decode cL_law 368 = .ok (.aload_n 2, 1) := by decide +kernel
theorem dL_law_369 : decode cL_law 369 = .ok (.aload_n 0, 1) := by decide +kernel
theorem dL_law_370 : decode cL_law 370 = .ok (.iload_n 3, 1) := by decide +kernel
theorem dL_law_371 : decode cL_law 371 = .ok (.iconst 1, 1) := by decide +kernel
theorem dL_law_372 : decode cL_law 372 = .ok (.iadd, 1) := by decide +kernel
theorem dL_law_373 : decode cL_law 373 = .ok (.iaload, 1) := by decide +kernel
theorem dL_law_374 : decode cL_law 374 = .ok (.aload_n 0, 1) := by decide +kernel
theorem dL_law_375 : decode cL_law 375 = .ok (.iload_n 3, 1) := by decide +kernel
theorem dL_law_376 : decode cL_law 376 = .ok (.iconst 2, 1) := by decide +kernel
theorem dL_law_377 : decode cL_law 377 = .ok (.iadd, 1) := by decide +kernel
theorem dL_law_378 : decode cL_law 378 = .ok (.iaload, 1) := by decide +kernel
theorem dL_law_379 : decode cL_law 379 = .ok (.aload_n 0, 1) := by decide +kernel
theorem dL_law_380 : decode cL_law 380 = .ok (.iload_n 3, 1) := by decide +kernel
theorem dL_law_381 : decode cL_law 381 = .ok (.iconst 3, 1) := by decide +kernel
theorem dL_law_382 : decode cL_law 382 = .ok (.iadd, 1) := by decide +kernel
theorem dL_law_383 : decode cL_law 383 = .ok (.iaload, 1) := by decide +kernel
theorem dL_law_384 : decode cL_law 384 = .ok (.aload_n 0, 1) := by decide +kernel
theorem dL_law_385 : decode cL_law 385 = .ok (.iload_n 3, 1) := by decide +kernel
theorem dL_law_386 : decode cL_law 386 = .ok (.iconst 4, 1) := by decide +kernel
theorem dL_law_387 : decode cL_law 387 = .ok (.iadd, 1) := by decide +kernel
theorem dL_law_388 : decode cL_law 388 = .ok (.iaload, 1) := by decide +kernel
theorem dL_law_389 : decode cL_law 389 = .ok (.aload_n 0, 1) := by decide +kernel
theorem dL_law_390 : decode cL_law 390 = .ok (.iload_n 3, 1) := by decide +kernel
theorem dL_law_391 : decode cL_law 391 = .ok (.iconst 5, 1) := by decide +kernel
theorem dL_law_392 : decode cL_law 392 = .ok (.iadd, 1) := by decide +kernel
theorem dL_law_393 : decode cL_law 393 = .ok (.iaload, 1) := by decide +kernel
theorem dL_law_394 : decode cL_law 394 = .ok (.invokevirtual 42, 3) := by decide +kernel
theorem dL_law_397 : decode cL_law 397 = .ok (.if_icmp .eq 1035, 3) := by decide +kernel
theorem dL_law_400 : decode cL_law 400 = .ok (.iconst 0, 1) := by decide +kernel
theorem dL_law_401 : decode cL_law 401 = .ok (.ireturn, 1) := by decide +kernel
theorem dL_law_402 : decode cL_law 402 = .ok (.aload_n 1, 1) := by decide +kernel
theorem dL_law_403 : decode cL_law 403 = .ok (.aload_n 0, 1) := by decide +kernel
theorem dL_law_404 : decode cL_law 404 = .ok (.iload_n 3, 1) := by decide +kernel
theorem dL_law_405 : decode cL_law 405 = .ok (.iconst 1, 1) := by decide +kernel
theorem dL_law_406 : decode cL_law 406 = .ok (.iadd, 1) := by decide +kernel
theorem dL_law_407 : decode cL_law 407 = .ok (.iaload, 1) := by decide +kernel
theorem dL_law_408 : decode cL_law 408 = .ok (.aload_n 0, 1) := by decide +kernel
theorem dL_law_409 : decode cL_law 409 = .ok (.iload_n 3, 1) := by decide +kernel
theorem dL_law_410 : decode cL_law 410 = .ok (.iconst 2, 1) := by decide +kernel
theorem dL_law_411 : decode cL_law 411 = .ok (.iadd, 1) := by decide +kernel
theorem dL_law_412 : decode cL_law 412 = .ok (.iaload, 1) := by decide +kernel
theorem dL_law_413 : decode cL_law 413 = .ok (.invokevirtual 43, 3) := by decide +kernel
theorem dL_law_416 : decode cL_law 416 = .ok (.aload_n 2, 1) := by decide +kernel
theorem dL_law_417 : decode cL_law 417 = .ok (.aload_n 0, 1) := by decide +kernel
theorem dL_law_418 : decode cL_law 418 = .ok (.iload_n 3, 1) := by decide +kernel
theorem dL_law_419 : decode cL_law 419 = .ok (.iconst 1, 1) := by decide +kernel
theorem dL_law_420 : decode cL_law 420 = .ok (.iadd, 1) := by decide +kernel
theorem dL_law_421 : decode cL_law 421 = .ok (.iaload, 1) := by decide +kernel
theorem dL_law_422 : decode cL_law 422 = .ok (.aload_n 0, 1) := by decide +kernel
theorem dL_law_423 : decode cL_law 423 = .ok (.iload_n 3, 1) := by decide +kernel
theorem dL_law_424 : decode cL_law 424 = .ok (.iconst 2, 1) := by decide +kernel
theorem dL_law_425 : decode cL_law 425 = .ok (.iadd, 1) := by decide +kernel
theorem dL_law_426 : decode cL_law 426 = .ok (.iaload, 1) := by decide +kernel
theorem dL_law_427 : decode cL_law 427 = .ok (.invokevirtual 47, 3) := by decide +kernel
theorem dL_law_430 : decode cL_law 430 = .ok (.if_icmp .eq 1002, 3) := by decide +kernel
theorem dL_law_433 : decode cL_law 433 = .ok (.iconst 0, 1) := by decide +kernel
theorem dL_law_434 : decode cL_law 434 = .ok (.ireturn, 1) := by decide +kernel
theorem dL_law_435 : decode cL_law 435 = .ok (.aload_n 1, 1) := by decide +kernel
theorem dL_law_436 : decode cL_law 436 = .ok (.aload_n 0, 1) := by decide +kernel
theorem dL_law_437 : decode cL_law 437 = .ok (.iload_n 3, 1) := by decide +kernel
theorem dL_law_438 : decode cL_law 438 = .ok (.iconst 1, 1) := by decide +kernel
theorem dL_law_439 : decode cL_law 439 = .ok (.iadd, 1) := by decide +kernel
theorem dL_law_440 : decode cL_law 440 = .ok (.iaload, 1) := by decide +kernel
theorem dL_law_441 : decode cL_law 441 = .ok (.aload_n 0, 1) := by decide +kernel
theorem dL_law_442 : decode cL_law 442 = .ok (.iload_n 3, 1) := by decide +kernel
theorem dL_law_443 : decode cL_law 443 = .ok (.iconst 2, 1) := by decide +kernel
theorem dL_law_444 : decode cL_law 444 = .ok (.iadd, 1) := by decide +kernel
theorem dL_law_445 : decode cL_law 445 = .ok (.iaload, 1) := by decide +kernel
theorem dL_law_446 : decode cL_law 446 = .ok (.aload_n 0, 1) := by decide +kernel
theorem dL_law_447 : decode cL_law 447 = .ok (.iload_n 3, 1) := by decide +kernel
theorem dL_law_448 : decode cL_law 448 = .ok (.iconst 3, 1) := by decide +kernel
theorem dL_law_449 : decode cL_law 449 = .ok (.iadd, 1) := by decide +kernel
theorem dL_law_450 : decode cL_law 450 = .ok (.iaload, 1) := by decide +kernel
theorem dL_law_451 : decode cL_law 451 = .ok (.aload_n 0, 1) := by decide +kernel
theorem dL_law_452 : decode cL_law 452 = .ok (.iload_n 3, 1) := by decide +kernel
theorem dL_law_453 : decode cL_law 453 = .ok (.iconst 4, 1) := by decide +kernel
theorem dL_law_454 : decode cL_law 454 = .ok (.iadd, 1) := by decide +kernel
theorem dL_law_455 : decode cL_law 455 = .ok (.iaload, 1) := by decide +kernel
theorem dL_law_456 : decode cL_law 456 = .ok (.invokevirtual 48, 3) := by decide +kernel
theorem dL_law_459 : decode cL_law 459 = .ok (.aload_n 2, 1) := by decide +kernel
theorem dL_law_460 : decode cL_law 460 = .ok (.aload_n 0, 1) := by decide +kernel
theorem dL_law_461 : decode cL_law 461 = .ok (.iload_n 3, 1) := by decide +kernel
theorem dL_law_462 : decode cL_law 462 = .ok (.iconst 1, 1) := by decide +kernel
theorem dL_law_463 : decode cL_law 463 = .ok (.iadd, 1) := by decide +kernel
theorem dL_law_464 : decode cL_law 464 = .ok (.iaload, 1) := by decide +kernel
theorem dL_law_465 : decode cL_law 465 = .ok (.aload_n 0, 1) := by decide +kernel
theorem dL_law_466 : decode cL_law 466 = .ok (.iload_n 3, 1) := by decide +kernel
theorem dL_law_467 : decode cL_law 467 = .ok (.iconst 2, 1) := by decide +kernel
theorem dL_law_468 : decode cL_law 468 = .ok (.iadd, 1) := by decide +kernel
theorem dL_law_469 : decode cL_law 469 = .ok (.iaload, 1) := by decide +kernel
theorem dL_law_470 : decode cL_law 470 = .ok (.aload_n 0, 1) := by decide +kernel
theorem dL_law_471 : decode cL_law 471 = .ok (.iload_n 3, 1) := by decide +kernel
theorem dL_law_472 : decode cL_law 472 = .ok (.iconst 3, 1) := by decide +kernel
theorem dL_law_473 : decode cL_law 473 = .ok (.iadd, 1) := by decide +kernel
theorem dL_law_474 : decode cL_law 474 = .ok (.iaload, 1) := by decide +kernel
theorem dL_law_475 : decode cL_law 475 = .ok (.aload_n 0, 1) := by decide +kernel
theorem dL_law_476 : decode cL_law 476 = .ok (.iload_n 3, 1) := by decide +kernel
theorem dL_law_477 : decode cL_law 477 = .ok (.iconst 4, 1) := by decide +kernel
theorem dL_law_478 : decode cL_law 478 = .ok (.iadd, 1) := by decide +kernel
theorem dL_law_479 : decode cL_law 479 = .ok (.iaload, 1) := by decide +kernel
theorem dL_law_480 : decode cL_law 480 = .ok (.invokevirtual 51, 3) := by decide +kernel
theorem dL_law_483 : decode cL_law 483 = .ok (.if_icmp .eq 949, 3) := by decide +kernel
theorem dL_law_486 : decode cL_law 486 = .ok (.iconst 0, 1) := by decide +kernel
theorem dL_law_487 : decode cL_law 487 = .ok (.ireturn, 1) := by decide +kernel
theorem dL_law_488 : decode cL_law 488 = .ok (.aload_n 1, 1) := by decide +kernel
theorem dL_law_489 : decode cL_law 489 = .ok (.aload_n 0, 1) := by decide +kernel
theorem dL_law_490 : decode cL_law 490 = .ok (.iload_n 3, 1) := by decide +kernel
theorem dL_law_491 : decode cL_law 491 = .ok (.iconst 1, 1) := by decide +kernel
theorem dL_law_492 : decode cL_law 492 = .ok (.iadd, 1) := by decide +kernel
theorem dL_law_493 : decode cL_law 493 = .ok (.iaload, 1) := by decide +kernel
theorem dL_law_494 : decode cL_law 494 = .ok (.aload_n 0, 1) := by decide +kernel
theorem dL_law_495 : decode cL_law 495 = .ok (.iload_n 3, 1) := by decide +kernel
theorem dL_law_496 : decode cL_law 496 = .ok (.iconst 2, 1) := by decide +kernel
theorem dL_law_497 : decode cL_law 497 = .ok (.iadd, 1) := by decide +kernel
theorem dL_law_498 : decode cL_law 498 = .ok (.iaload, 1) := by decide +kernel
theorem dL_law_499 : decode cL_law 499 = .ok (.aload_n 0, 1) := by decide +kernel
theorem dL_law_500 : decode cL_law 500 = .ok (.iload_n 3, 1) := by decide +kernel
theorem dL_law_501 : decode cL_law 501 = .ok (.iconst 3, 1) := by decide +kernel
theorem dL_law_502 : decode cL_law 502 = .ok (.iadd, 1) := by decide +kernel
theorem dL_law_503 : decode cL_law 503 = .ok (.iaload, 1) := by decide +kernel
theorem dL_law_504 : decode cL_law 504 = .ok (.aload_n 0, 1) := by decide +kernel
theorem dL_law_505 : decode cL_law 505 = .ok (.iload_n 3, 1) := by decide +kernel
theorem dL_law_506 : decode cL_law 506 = .ok (.iconst 4, 1) := by decide +kernel
theorem dL_law_507 : decode cL_law 507 = .ok (.iadd, 1) := by decide +kernel
theorem dL_law_508 : decode cL_law 508 = .ok (.iaload, 1) := by decide +kernel
theorem dL_law_509 : decode cL_law 509 = .ok (.ifCond .eq 7, 3) := by decide +kernel
theorem dL_law_512 : decode cL_law 512 = .ok (.iconst 1, 1) := by decide +kernel
theorem dL_law_513 : decode cL_law 513 = .ok (.goto 4, 3) := by decide +kernel
theorem dL_law_516 : decode cL_law 516 = .ok (.iconst 0, 1) := by decide +kernel
theorem dL_law_517 : decode cL_law 517 = .ok (.invokevirtual 52, 3) := by decide +kernel
theorem dL_law_520 : decode cL_law 520 = .ok (.aload_n 2, 1) := by decide +kernel
theorem dL_law_521 : decode cL_law 521 = .ok (.aload_n 0, 1) := by decide +kernel
theorem dL_law_522 : decode cL_law 522 = .ok (.iload_n 3, 1) := by decide +kernel
theorem dL_law_523 : decode cL_law 523 = .ok (.iconst 1, 1) := by decide +kernel
theorem dL_law_524 : decode cL_law 524 = .ok (.iadd, 1) := by decide +kernel
theorem dL_law_525 : decode cL_law 525 = .ok (.iaload, 1) := by decide +kernel
theorem dL_law_526 : decode cL_law 526 = .ok (.aload_n 0, 1) := by decide +kernel
theorem dL_law_527 : decode cL_law 527 = .ok (.iload_n 3, 1) := by decide +kernel
theorem dL_law_528 : decode cL_law 528 = .ok (.iconst 2, 1) := by decide +kernel
theorem dL_law_529 : decode cL_law 529 = .ok (.iadd, 1) := by decide +kernel
theorem dL_law_530 : decode cL_law 530 = .ok (.iaload, 1) := by decide +kernel
theorem dL_law_531 : decode cL_law 531 = .ok (.aload_n 0, 1) := by decide +kernel
theorem dL_law_532 : decode cL_law 532 = .ok (.iload_n 3, 1) := by decide +kernel
theorem dL_law_533 : decode cL_law 533 = .ok (.iconst 3, 1) := by decide +kernel
theorem dL_law_534 : decode cL_law 534 = .ok (.iadd, 1) := by decide +kernel
theorem dL_law_535 : decode cL_law 535 = .ok (.iaload, 1) := by decide +kernel
theorem dL_law_536 : decode cL_law 536 = .ok (.aload_n 0, 1) := by decide +kernel
theorem dL_law_537 : decode cL_law 537 = .ok (.iload_n 3, 1) := by decide +kernel
theorem dL_law_538 : decode cL_law 538 = .ok (.iconst 4, 1) := by decide +kernel
theorem dL_law_539 : decode cL_law 539 = .ok (.iadd, 1) := by decide +kernel
theorem dL_law_540 : decode cL_law 540 = .ok (.iaload, 1) := by decide +kernel
theorem dL_law_541 : decode cL_law 541 = .ok (.ifCond .eq 7, 3) := by decide +kernel
theorem dL_law_544 : decode cL_law 544 = .ok (.iconst 1, 1) := by decide +kernel
theorem dL_law_545 : decode cL_law 545 = .ok (.goto 4, 3) := by decide +kernel
theorem dL_law_548 : decode cL_law 548 = .ok (.iconst 0, 1) := by decide +kernel
theorem dL_law_549 : decode cL_law 549 = .ok (.invokevirtual 56, 3) := by decide +kernel
theorem dL_law_552 : decode cL_law 552 = .ok (.if_icmp .eq 880, 3) := by decide +kernel
theorem dL_law_555 : decode cL_law 555 = .ok (.iconst 0, 1) := by decide +kernel
theorem dL_law_556 : decode cL_law 556 = .ok (.ireturn, 1) := by decide +kernel
theorem dL_law_557 : decode cL_law 557 = .ok (.aload_n 1, 1) := by decide +kernel
theorem dL_law_558 : decode cL_law 558 = .ok (.aload_n 0, 1) := by decide +kernel
theorem dL_law_559 : decode cL_law 559 = .ok (.iload_n 3, 1) := by decide +kernel
theorem dL_law_560 : decode cL_law 560 = .ok (.iconst 1, 1) := by decide +kernel
theorem dL_law_561 : decode cL_law 561 = .ok (.iadd, 1) := by decide +kernel
theorem dL_law_562 : decode cL_law 562 = .ok (.iaload, 1) := by decide +kernel
theorem dL_law_563 : decode cL_law 563 = .ok (.aload_n 0, 1) := by decide +kernel
theorem dL_law_564 : decode cL_law 564 = .ok (.iload_n 3, 1) := by decide +kernel
theorem dL_law_565 : decode cL_law 565 = .ok (.iconst 2, 1) := by decide +kernel
theorem dL_law_566 : decode cL_law 566 = .ok (.iadd, 1) := by decide +kernel
theorem dL_law_567 : decode cL_law 567 = .ok (.iaload, 1) := by decide +kernel
theorem dL_law_568 : decode cL_law 568 = .ok (.aload_n 0, 1) := by decide +kernel
theorem dL_law_569 : decode cL_law 569 = .ok (.iload_n 3, 1) := by decide +kernel
theorem dL_law_570 : decode cL_law 570 = .ok (.iconst 3, 1) := by decide +kernel
theorem dL_law_571 : decode cL_law 571 = .ok (.iadd, 1) := by decide +kernel
theorem dL_law_572 : decode cL_law 572 = .ok (.iaload, 1) := by decide +kernel
theorem dL_law_573 : decode cL_law 573 = .ok (.ifCond .eq 7, 3) := by decide +kernel
theorem dL_law_576 : decode cL_law 576 = .ok (.iconst 1, 1) := by decide +kernel
theorem dL_law_577 : decode cL_law 577 = .ok (.goto 4, 3) := by decide +kernel
theorem dL_law_580 : decode cL_law 580 = .ok (.iconst 0, 1) := by decide +kernel
theorem dL_law_581 : decode cL_law 581 = .ok (.aload_n 0, 1) := by decide +kernel
theorem dL_law_582 : decode cL_law 582 = .ok (.iload_n 3, 1) := by decide +kernel
theorem dL_law_583 : decode cL_law 583 = .ok (.iconst 4, 1) := by decide +kernel
theorem dL_law_584 : decode cL_law 584 = .ok (.iadd, 1) := by decide +kernel
theorem dL_law_585 : decode cL_law 585 = .ok (.iaload, 1) := by decide +kernel
theorem dL_law_586 : decode cL_law 586 = .ok (.ifCond .eq 7, 3) := by decide +kernel
theorem dL_law_589 : decode cL_law 589 = .ok (.iconst 1, 1) := by decide +kernel
theorem dL_law_590 : decode cL_law 590 = .ok (.goto 4, 3) := by decide +kernel
theorem dL_law_593 : decode cL_law 593 = .ok (.iconst 0, 1) := by decide +kernel
theorem dL_law_594 : decode cL_law 594 = .ok (.invokevirtual 57, 3) := by decide +kernel
theorem dL_law_597 : decode cL_law 597 = .ok (.aload_n 2, 1) := by decide +kernel
theorem dL_law_598 : decode cL_law 598 = .ok (.aload_n 0, 1) := by decide +kernel
theorem dL_law_599 : decode cL_law 599 = .ok (.iload_n 3, 1) := by decide +kernel
theorem dL_law_600 : decode cL_law 600 = .ok (.iconst 1, 1) := by decide +kernel
theorem dL_law_601 : decode cL_law 601 = .ok (.iadd, 1) := by decide +kernel
theorem dL_law_602 : decode cL_law 602 = .ok (.iaload, 1) := by decide +kernel
theorem dL_law_603 : decode cL_law 603 = .ok (.aload_n 0, 1) := by decide +kernel
theorem dL_law_604 : decode cL_law 604 = .ok (.iload_n 3, 1) := by decide +kernel
theorem dL_law_605 : decode cL_law 605 = .ok (.iconst 2, 1) := by decide +kernel
theorem dL_law_606 : decode cL_law 606 = .ok (.iadd, 1) := by decide +kernel
theorem dL_law_607 : decode cL_law 607 = .ok (.iaload, 1) := by decide +kernel
theorem dL_law_608 : decode cL_law 608 = .ok (.aload_n 0, 1) := by decide +kernel
theorem dL_law_609 : decode cL_law 609 = .ok (.iload_n 3, 1) := by decide +kernel
theorem dL_law_610 : decode cL_law 610 = .ok (.iconst 3, 1) := by decide +kernel
theorem dL_law_611 : decode cL_law 611 = .ok (.iadd, 1) := by decide +kernel
theorem dL_law_612 : decode cL_law 612 = .ok (.iaload, 1) := by decide +kernel
theorem dL_law_613 : decode cL_law 613 = .ok (.ifCond .eq 7, 3) := by decide +kernel
theorem dL_law_616 : decode cL_law 616 = .ok (.iconst 1, 1) := by decide +kernel
theorem dL_law_617 : decode cL_law 617 = .ok (.goto 4, 3) := by decide +kernel
theorem dL_law_620 : decode cL_law 620 = .ok (.iconst 0, 1) := by decide +kernel
theorem dL_law_621 : decode cL_law 621 = .ok (.aload_n 0, 1) := by decide +kernel
theorem dL_law_622 : decode cL_law 622 = .ok (.iload_n 3, 1) := by decide +kernel
theorem dL_law_623 : decode cL_law 623 = .ok (.iconst 4, 1) := by decide +kernel
theorem dL_law_624 : decode cL_law 624 = .ok (.iadd, 1) := by decide +kernel
theorem dL_law_625 : decode cL_law 625 = .ok (.iaload, 1) := by decide +kernel
theorem dL_law_626 : decode cL_law 626 = .ok (.ifCond .eq 7, 3) := by decide +kernel
theorem dL_law_629 : decode cL_law 629 = .ok (.iconst 1, 1) := by decide +kernel
theorem dL_law_630 : decode cL_law 630 = .ok (.goto 4, 3) := by decide +kernel
theorem dL_law_633 : decode cL_law 633 = .ok (.iconst 0, 1) := by decide +kernel
theorem dL_law_634 : decode cL_law 634 = .ok (.invokevirtual 61, 3) := by decide +kernel
theorem dL_law_637 : decode cL_law 637 = .ok (.lcmp, 1) := by decide +kernel
theorem dL_law_638 : decode cL_law 638 = .ok (.ifCond .eq 794, 3) := by decide +kernel
theorem dL_law_641 : decode cL_law 641 = .ok (.iconst 0, 1) := by decide +kernel
theorem dL_law_642 : decode cL_law 642 = .ok (.ireturn, 1) := by decide +kernel
theorem dL_law_643 : decode cL_law 643 = .ok (.aload_n 1, 1) := by decide +kernel
theorem dL_law_644 : decode cL_law 644 = .ok (.aload_n 0, 1) := by decide +kernel
theorem dL_law_645 : decode cL_law 645 = .ok (.iload_n 3, 1) := by decide +kernel
theorem dL_law_646 : decode cL_law 646 = .ok (.iconst 1, 1) := by decide +kernel
theorem dL_law_647 : decode cL_law 647 = .ok (.iadd, 1) := by decide +kernel
theorem dL_law_648 : decode cL_law 648 = .ok (.iaload, 1) := by decide +kernel
theorem dL_law_649 : decode cL_law 649 = .ok (.aload_n 0, 1) := by decide +kernel
theorem dL_law_650 : decode cL_law 650 = .ok (.iload_n 3, 1) := by decide +kernel
theorem dL_law_651 : decode cL_law 651 = .ok (.iconst 2, 1) := by decide +kernel
theorem dL_law_652 : decode cL_law 652 = .ok (.iadd, 1) := by decide +kernel
theorem dL_law_653 : decode cL_law 653 = .ok (.iaload, 1) := by decide +kernel
theorem dL_law_654 : decode cL_law 654 = .ok (.aload_n 0, 1) := by decide +kernel
theorem dL_law_655 : decode cL_law 655 = .ok (.iload_n 3, 1) := by decide +kernel
theorem dL_law_656 : decode cL_law 656 = .ok (.iconst 3, 1) := by decide +kernel
theorem dL_law_657 : decode cL_law 657 = .ok (.iadd, 1) := by decide +kernel
theorem dL_law_658 : decode cL_law 658 = .ok (.iaload, 1) := by decide +kernel
theorem dL_law_659 : decode cL_law 659 = .ok (.invokevirtual 62, 3) := by decide +kernel
theorem dL_law_662 : decode cL_law 662 = .ok (.aload_n 2, 1) := by decide +kernel
theorem dL_law_663 : decode cL_law 663 = .ok (.aload_n 0, 1) := by decide +kernel
theorem dL_law_664 : decode cL_law 664 = .ok (.iload_n 3, 1) := by decide +kernel
theorem dL_law_665 : decode cL_law 665 = .ok (.iconst 1, 1) := by decide +kernel
theorem dL_law_666 : decode cL_law 666 = .ok (.iadd, 1) := by decide +kernel
theorem dL_law_667 : decode cL_law 667 = .ok (.iaload, 1) := by decide +kernel
theorem dL_law_668 : decode cL_law 668 = .ok (.aload_n 0, 1) := by decide +kernel
theorem dL_law_669 : decode cL_law 669 = .ok (.iload_n 3, 1) := by decide +kernel
theorem dL_law_670 : decode cL_law 670 = .ok (.iconst 2, 1) := by decide +kernel
theorem dL_law_671 : decode cL_law 671 = .ok (.iadd, 1) := by decide +kernel
theorem dL_law_672 : decode cL_law 672 = .ok (.iaload, 1) := by decide +kernel
theorem dL_law_673 : decode cL_law 673 = .ok (.aload_n 0, 1) := by decide +kernel
theorem dL_law_674 : decode cL_law 674 = .ok (.iload_n 3, 1) := by decide +kernel
theorem dL_law_675 : decode cL_law 675 = .ok (.iconst 3, 1) := by decide +kernel
theorem dL_law_676 : decode cL_law 676 = .ok (.iadd, 1) := by decide +kernel
theorem dL_law_677 : decode cL_law 677 = .ok (.iaload, 1) := by decide +kernel
theorem dL_law_678 : decode cL_law 678 = .ok (.invokevirtual 65, 3) := by decide +kernel
theorem dL_law_681 : decode cL_law 681 = .ok (.if_icmp .eq 751, 3) := by decide +kernel
theorem dL_law_684 : decode cL_law 684 = .ok (.iconst 0, 1) := by decide +kernel
theorem dL_law_685 : decode cL_law 685 = .ok (.ireturn, 1) := by decide +kernel
theorem dL_law_686 : decode cL_law 686 = .ok (.aload_n 1, 1) := by decide +kernel
theorem dL_law_687 : decode cL_law 687 = .ok (.aload_n 0, 1) := by decide +kernel
theorem dL_law_688 : decode cL_law 688 = .ok (.iload_n 3, 1) := by decide +kernel
theorem dL_law_689 : decode cL_law 689 = .ok (.iconst 1, 1) := by decide +kernel
theorem dL_law_690 : decode cL_law 690 = .ok (.iadd, 1) := by decide +kernel
theorem dL_law_691 : decode cL_law 691 = .ok (.iaload, 1) := by decide +kernel
theorem dL_law_692 : decode cL_law 692 = .ok (.aload_n 0, 1) := by decide +kernel
theorem dL_law_693 : decode cL_law 693 = .ok (.iload_n 3, 1) := by decide +kernel
theorem dL_law_694 : decode cL_law 694 = .ok (.iconst 2, 1) := by decide +kernel
theorem dL_law_695 : decode cL_law 695 = .ok (.iadd, 1) := by decide +kernel
theorem dL_law_696 : decode cL_law 696 = .ok (.iaload, 1) := by decide +kernel
theorem dL_law_697 : decode cL_law 697 = .ok (.aload_n 0, 1) := by decide +kernel
theorem dL_law_698 : decode cL_law 698 = .ok (.iload_n 3, 1) := by decide +kernel
theorem dL_law_699 : decode cL_law 699 = .ok (.iconst 3, 1) := by decide +kernel
theorem dL_law_700 : decode cL_law 700 = .ok (.iadd, 1) := by decide +kernel
theorem dL_law_701 : decode cL_law 701 = .ok (.iaload, 1) := by decide +kernel
theorem dL_law_702 : decode cL_law 702 = .ok (.aload_n 0, 1) := by decide +kernel
theorem dL_law_703 : decode cL_law 703 = .ok (.iload_n 3, 1) := by decide +kernel
theorem dL_law_704 : decode cL_law 704 = .ok (.iconst 4, 1) := by decide +kernel
theorem dL_law_705 : decode cL_law 705 = .ok (.iadd, 1) := by decide +kernel
theorem dL_law_706 : decode cL_law 706 = .ok (.iaload, 1) := by decide +kernel
theorem dL_law_707 : decode cL_law 707 = .ok (.invokevirtual 66, 3) := by decide +kernel
theorem dL_law_710 : decode cL_law 710 = .ok (.aload_n 2, 1) := by decide +kernel
theorem dL_law_711 : decode cL_law 711 = .ok (.aload_n 0, 1) := by decide +kernel
theorem dL_law_712 : decode cL_law 712 = .ok (.iload_n 3, 1) := by decide +kernel
theorem dL_law_713 : decode cL_law 713 = .ok (.iconst 1, 1) := by decide +kernel
theorem dL_law_714 : decode cL_law 714 = .ok (.iadd, 1) := by decide +kernel
theorem dL_law_715 : decode cL_law 715 = .ok (.iaload, 1) := by decide +kernel
theorem dL_law_716 : decode cL_law 716 = .ok (.aload_n 0, 1) := by decide +kernel
theorem dL_law_717 : decode cL_law 717 = .ok (.iload_n 3, 1) := by decide +kernel
theorem dL_law_718 : decode cL_law 718 = .ok (.iconst 2, 1) := by decide +kernel
theorem dL_law_719 : decode cL_law 719 = .ok (.iadd, 1) := by decide +kernel
theorem dL_law_720 : decode cL_law 720 = .ok (.iaload, 1) := by decide +kernel
theorem dL_law_721 : decode cL_law 721 = .ok (.aload_n 0, 1) := by decide +kernel
theorem dL_law_722 : decode cL_law 722 = .ok (.iload_n 3, 1) := by decide +kernel
theorem dL_law_723 : decode cL_law 723 = .ok (.iconst 3, 1) := by decide +kernel
theorem dL_law_724 : decode cL_law 724 = .ok (.iadd, 1) := by decide +kernel
theorem dL_law_725 : decode cL_law 725 = .ok (.iaload, 1) := by decide +kernel
theorem dL_law_726 : decode cL_law 726 = .ok (.aload_n 0, 1) := by decide +kernel
theorem dL_law_727 : decode cL_law 727 = .ok (.iload_n 3, 1) := by decide +kernel
theorem dL_law_728 : decode cL_law 728 = .ok (.iconst 4, 1) := by decide +kernel
theorem dL_law_729 : decode cL_law 729 = .ok (.iadd, 1) := by decide +kernel
theorem dL_law_730 : decode cL_law 730 = .ok (.iaload, 1) := by decide +kernel
theorem dL_law_731 : decode cL_law 731 = .ok (.invokevirtual 69, 3) := by decide +kernel
theorem dL_law_734 : decode cL_law 734 = .ok (.if_icmp .eq 698, 3) := by decide +kernel
theorem dL_law_737 : decode cL_law 737 = .ok (.iconst 0, 1) := by decide +kernel
theorem dL_law_738 : decode cL_law 738 = .ok (.ireturn, 1) := by decide +kernel
theorem dL_law_739 : decode cL_law 739 = .ok (.aload_n 1, 1) := by decide +kernel
theorem dL_law_740 : decode cL_law 740 = .ok (.aload_n 0, 1) := by decide +kernel
theorem dL_law_741 : decode cL_law 741 = .ok (.iload_n 3, 1) := by decide +kernel
theorem dL_law_742 : decode cL_law 742 = .ok (.iconst 1, 1) := by decide +kernel
theorem dL_law_743 : decode cL_law 743 = .ok (.iadd, 1) := by decide +kernel
theorem dL_law_744 : decode cL_law 744 = .ok (.iaload, 1) := by decide +kernel
theorem dL_law_745 : decode cL_law 745 = .ok (.aload_n 0, 1) := by decide +kernel
theorem dL_law_746 : decode cL_law 746 = .ok (.iload_n 3, 1) := by decide +kernel
theorem dL_law_747 : decode cL_law 747 = .ok (.iconst 2, 1) := by decide +kernel
theorem dL_law_748 : decode cL_law 748 = .ok (.iadd, 1) := by decide +kernel
theorem dL_law_749 : decode cL_law 749 = .ok (.iaload, 1) := by decide +kernel
theorem dL_law_750 : decode cL_law 750 = .ok (.aload_n 0, 1) := by decide +kernel
theorem dL_law_751 : decode cL_law 751 = .ok (.iload_n 3, 1) := by decide +kernel
theorem dL_law_752 : decode cL_law 752 = .ok (.iconst 3, 1) := by decide +kernel
theorem dL_law_753 : decode cL_law 753 = .ok (.iadd, 1) := by decide +kernel
theorem dL_law_754 : decode cL_law 754 = .ok (.iaload, 1) := by decide +kernel
theorem dL_law_755 : decode cL_law 755 = .ok (.ifCond .eq 7, 3) := by decide +kernel
theorem dL_law_758 : decode cL_law 758 = .ok (.iconst 1, 1) := by decide +kernel
theorem dL_law_759 : decode cL_law 759 = .ok (.goto 4, 3) := by decide +kernel
theorem dL_law_762 : decode cL_law 762 = .ok (.iconst 0, 1) := by decide +kernel
theorem dL_law_763 : decode cL_law 763 = .ok (.aload_n 0, 1) := by decide +kernel
theorem dL_law_764 : decode cL_law 764 = .ok (.iload_n 3, 1) := by decide +kernel
theorem dL_law_765 : decode cL_law 765 = .ok (.iconst 4, 1) := by decide +kernel
theorem dL_law_766 : decode cL_law 766 = .ok (.iadd, 1) := by decide +kernel
theorem dL_law_767 : decode cL_law 767 = .ok (.iaload, 1) := by decide +kernel
theorem dL_law_768 : decode cL_law 768 = .ok (.ifCond .eq 7, 3) := by decide +kernel
theorem dL_law_771 : decode cL_law 771 = .ok (.iconst 1, 1) := by decide +kernel
theorem dL_law_772 : decode cL_law 772 = .ok (.goto 4, 3) := by decide +kernel
theorem dL_law_775 : decode cL_law 775 = .ok (.iconst 0, 1) := by decide +kernel
theorem dL_law_776 : decode cL_law 776 = .ok (.aload_n 0, 1) := by decide +kernel
theorem dL_law_777 : decode cL_law 777 = .ok (.iload_n 3, 1) := by decide +kernel
theorem dL_law_778 : decode cL_law 778 = .ok (.iconst 5, 1) := by decide +kernel
theorem dL_law_779 : decode cL_law 779 = .ok (.iadd, 1) := by decide +kernel
theorem dL_law_780 : decode cL_law 780 = .ok (.iaload, 1) := by decide +kernel
theorem dL_law_781 : decode cL_law 781 = .ok (.ifCond .eq 7, 3) := by decide +kernel
theorem dL_law_784 : decode cL_law 784 = .ok (.iconst 1, 1) := by decide +kernel
theorem dL_law_785 : decode cL_law 785 = .ok (.goto 4, 3) := by decide +kernel
theorem dL_law_788 : decode cL_law 788 = .ok (.iconst 0, 1) := by decide +kernel
theorem dL_law_789 : decode cL_law 789 = .ok (.invokevirtual 70, 3) := by decide +kernel
theorem dL_law_792 : decode cL_law 792 = .ok (.aload_n 2, 1) := by decide +kernel
theorem dL_law_793 : decode cL_law 793 = .ok (.aload_n 0, 1) := by decide +kernel
theorem dL_law_794 : decode cL_law 794 = .ok (.iload_n 3, 1) := by decide +kernel
theorem dL_law_795 : decode cL_law 795 = .ok (.iconst 1, 1) := by decide +kernel
theorem dL_law_796 : decode cL_law 796 = .ok (.iadd, 1) := by decide +kernel
theorem dL_law_797 : decode cL_law 797 = .ok (.iaload, 1) := by decide +kernel
theorem dL_law_798 : decode cL_law 798 = .ok (.aload_n 0, 1) := by decide +kernel
theorem dL_law_799 : decode cL_law 799 = .ok (.iload_n 3, 1) := by decide +kernel
theorem dL_law_800 : decode cL_law 800 = .ok (.iconst 2, 1) := by decide +kernel
theorem dL_law_801 : decode cL_law 801 = .ok (.iadd, 1) := by decide +kernel
theorem dL_law_802 : decode cL_law 802 = .ok (.iaload, 1) := by decide +kernel
theorem dL_law_803 : decode cL_law 803 = .ok (.aload_n 0, 1) := by decide +kernel
theorem dL_law_804 : decode cL_law 804 = .ok (.iload_n 3, 1) := by decide +kernel
theorem dL_law_805 : decode cL_law 805 = .ok (.iconst 3, 1) := by decide +kernel
theorem dL_law_806 : decode cL_law 806 = .ok (.iadd, 1) := by decide +kernel
theorem dL_law_807 : decode cL_law 807 = .ok (.iaload, 1) := by decide +kernel
theorem dL_law_808 : decode cL_law 808 = .ok (.ifCond .eq 7, 3) := by decide +kernel
theorem dL_law_811 : decode cL_law 811 = .ok (.iconst 1, 1) := by decide +kernel
theorem dL_law_812 : decode cL_law 812 = .ok (.goto 4, 3) := by decide +kernel
theorem dL_law_815 : decode cL_law 815 = .ok (.iconst 0, 1) := by decide +kernel
theorem dL_law_816 : decode cL_law 816 = .ok (.aload_n 0, 1) := by decide +kernel
theorem dL_law_817 : decode cL_law 817 = .ok (.iload_n 3, 1) := by decide +kernel
theorem dL_law_818 : decode cL_law 818 = .ok (.iconst 4, 1) := by decide +kernel
theorem dL_law_819 : decode cL_law 819 = .ok (.iadd, 1) := by decide +kernel
theorem dL_law_820 : decode cL_law 820 = .ok (.iaload, 1) := by decide +kernel
theorem dL_law_821 : decode cL_law 821 = .ok (.ifCond .eq 7, 3) := by decide +kernel
theorem dL_law_824 : decode cL_law 824 = .ok (.iconst 1, 1) := by decide +kernel
theorem dL_law_825 : decode cL_law 825 = .ok (.goto 4, 3) := by decide +kernel
theorem dL_law_828 : decode cL_law 828 = .ok (.iconst 0, 1) := by decide +kernel
theorem dL_law_829 : decode cL_law 829 = .ok (.aload_n 0, 1) := by decide +kernel
theorem dL_law_830 : decode cL_law 830 = .ok (.iload_n 3, 1) := by decide +kernel
theorem dL_law_831 : decode cL_law 831 = .ok (.iconst 5, 1) := by decide +kernel
theorem dL_law_832 : decode cL_law 832 = .ok (.iadd, 1) := by decide +kernel
theorem dL_law_833 : decode cL_law 833 = .ok (.iaload, 1) := by decide +kernel
theorem dL_law_834 : decode cL_law 834 = .ok (.ifCond .eq 7, 3) := by decide +kernel
theorem dL_law_837 : decode cL_law 837 = .ok (.iconst 1, 1) := by decide +kernel
theorem dL_law_838 : decode cL_law 838 = .ok (.goto 4, 3) := by decide +kernel
theorem dL_law_841 : decode cL_law 841 = .ok (.iconst 0, 1) := by decide +kernel
theorem dL_law_842 : decode cL_law 842 = .ok (.invokevirtual 74, 3) := by decide +kernel
theorem dL_law_845 : decode cL_law 845 = .ok (.lcmp, 1) := by decide +kernel
theorem dL_law_846 : decode cL_law 846 = .ok (.ifCond .eq 586, 3) := by decide +kernel
theorem dL_law_849 : decode cL_law 849 = .ok (.iconst 0, 1) := by decide +kernel
theorem dL_law_850 : decode cL_law 850 = .ok (.ireturn, 1) := by decide +kernel
theorem dL_law_851 : decode cL_law 851 = .ok (.aload_n 1, 1) := by decide +kernel
theorem dL_law_852 : decode cL_law 852 = .ok (.aload_n 0, 1) := by decide +kernel
theorem dL_law_853 : decode cL_law 853 = .ok (.iload_n 3, 1) := by decide +kernel
theorem dL_law_854 : decode cL_law 854 = .ok (.iconst 1, 1) := by decide +kernel
theorem dL_law_855 : decode cL_law 855 = .ok (.iadd, 1) := by decide +kernel
theorem dL_law_856 : decode cL_law 856 = .ok (.iaload, 1) := by decide +kernel
theorem dL_law_857 : decode cL_law 857 = .ok (.aload_n 0, 1) := by decide +kernel
theorem dL_law_858 : decode cL_law 858 = .ok (.iload_n 3, 1) := by decide +kernel
theorem dL_law_859 : decode cL_law 859 = .ok (.iconst 2, 1) := by decide +kernel
theorem dL_law_860 : decode cL_law 860 = .ok (.iadd, 1) := by decide +kernel
theorem dL_law_861 : decode cL_law 861 = .ok (.iaload, 1) := by decide +kernel
theorem dL_law_862 : decode cL_law 862 = .ok (.aload_n 0, 1) := by decide +kernel
theorem dL_law_863 : decode cL_law 863 = .ok (.iload_n 3, 1) := by decide +kernel
theorem dL_law_864 : decode cL_law 864 = .ok (.iconst 3, 1) := by decide +kernel
theorem dL_law_865 : decode cL_law 865 = .ok (.iadd, 1) := by decide +kernel
theorem dL_law_866 : decode cL_law 866 = .ok (.iaload, 1) := by decide +kernel
theorem dL_law_867 : decode cL_law 867 = .ok (.aload_n 0, 1) := by decide +kernel
theorem dL_law_868 : decode cL_law 868 = .ok (.iload_n 3, 1) := by decide +kernel
theorem dL_law_869 : decode cL_law 869 = .ok (.iconst 4, 1) := by decide +kernel
theorem dL_law_870 : decode cL_law 870 = .ok (.iadd, 1) := by decide +kernel
theorem dL_law_871 : decode cL_law 871 = .ok (.iaload, 1) := by decide +kernel
theorem dL_law_872 : decode cL_law 872 = .ok (.ifCond .eq 7, 3) := by decide +kernel
theorem dL_law_875 : decode cL_law 875 = .ok (.iconst 1, 1) := by decide +kernel
theorem dL_law_876 : decode cL_law 876 = .ok (.goto 4, 3) := by decide +kernel
theorem dL_law_879 : decode cL_law 879 = .ok (.iconst 0, 1) := by decide +kernel
theorem dL_law_880 : decode cL_law 880 = .ok (.aload_n 0, 1) := by decide +kernel
theorem dL_law_881 : decode cL_law 881 = .ok (.iload_n 3, 1) := by decide +kernel
theorem dL_law_882 : decode cL_law 882 = .ok (.iconst 5, 1) := by decide +kernel
theorem dL_law_883 : decode cL_law 883 = .ok (.iadd, 1) := by decide +kernel
theorem dL_law_884 : decode cL_law 884 = .ok (.iaload, 1) := by decide +kernel
theorem dL_law_885 : decode cL_law 885 = .ok (.ifCond .eq 7, 3) := by decide +kernel
theorem dL_law_888 : decode cL_law 888 = .ok (.iconst 1, 1) := by decide +kernel
theorem dL_law_889 : decode cL_law 889 = .ok (.goto 4, 3) := by decide +kernel
theorem dL_law_892 : decode cL_law 892 = .ok (.iconst 0, 1) := by decide +kernel
theorem dL_law_893 : decode cL_law 893 = .ok (.aload_n 0, 1) := by decide +kernel
theorem dL_law_894 : decode cL_law 894 = .ok (.iload_n 3, 1) := by decide +kernel
theorem dL_law_895 : decode cL_law 895 = .ok (.bipush 6, 2) := by decide +kernel
theorem dL_law_897 : decode cL_law 897 = .ok (.iadd, 1) := by decide +kernel
theorem dL_law_898 : decode cL_law 898 = .ok (.iaload, 1) := by decide +kernel
theorem dL_law_899 : decode cL_law 899 = .ok (.ifCond .eq 7, 3) := by decide +kernel
theorem dL_law_902 : decode cL_law 902 = .ok (.iconst 1, 1) := by decide +kernel
theorem dL_law_903 : decode cL_law 903 = .ok (.goto 4, 3) := by decide +kernel
theorem dL_law_906 : decode cL_law 906 = .ok (.iconst 0, 1) := by decide +kernel
theorem dL_law_907 : decode cL_law 907 = .ok (.invokevirtual 75, 3) := by decide +kernel
theorem dL_law_910 : decode cL_law 910 = .ok (.aload_n 2, 1) := by decide +kernel
theorem dL_law_911 : decode cL_law 911 = .ok (.aload_n 0, 1) := by decide +kernel
theorem dL_law_912 : decode cL_law 912 = .ok (.iload_n 3, 1) := by decide +kernel
theorem dL_law_913 : decode cL_law 913 = .ok (.iconst 1, 1) := by decide +kernel
theorem dL_law_914 : decode cL_law 914 = .ok (.iadd, 1) := by decide +kernel
theorem dL_law_915 : decode cL_law 915 = .ok (.iaload, 1) := by decide +kernel
theorem dL_law_916 : decode cL_law 916 = .ok (.aload_n 0, 1) := by decide +kernel
theorem dL_law_917 : decode cL_law 917 = .ok (.iload_n 3, 1) := by decide +kernel
theorem dL_law_918 : decode cL_law 918 = .ok (.iconst 2, 1) := by decide +kernel
theorem dL_law_919 : decode cL_law 919 = .ok (.iadd, 1) := by decide +kernel
theorem dL_law_920 : decode cL_law 920 = .ok (.iaload, 1) := by decide +kernel
theorem dL_law_921 : decode cL_law 921 = .ok (.aload_n 0, 1) := by decide +kernel
theorem dL_law_922 : decode cL_law 922 = .ok (.iload_n 3, 1) := by decide +kernel
theorem dL_law_923 : decode cL_law 923 = .ok (.iconst 3, 1) := by decide +kernel
theorem dL_law_924 : decode cL_law 924 = .ok (.iadd, 1) := by decide +kernel
theorem dL_law_925 : decode cL_law 925 = .ok (.iaload, 1) := by decide +kernel
theorem dL_law_926 : decode cL_law 926 = .ok (.aload_n 0, 1) := by decide +kernel
theorem dL_law_927 : decode cL_law 927 = .ok (.iload_n 3, 1) := by decide +kernel
theorem dL_law_928 : decode cL_law 928 = .ok (.iconst 4, 1) := by decide +kernel
theorem dL_law_929 : decode cL_law 929 = .ok (.iadd, 1) := by decide +kernel
theorem dL_law_930 : decode cL_law 930 = .ok (.iaload, 1) := by decide +kernel
theorem dL_law_931 : decode cL_law 931 = .ok (.ifCond .eq 7, 3) := by decide +kernel
theorem dL_law_934 : decode cL_law 934 = .ok (.iconst 1, 1) := by decide +kernel
theorem dL_law_935 : decode cL_law 935 = .ok (.goto 4, 3) := by decide +kernel
theorem dL_law_938 : decode cL_law 938 = .ok (.iconst 0, 1) := by decide +kernel
theorem dL_law_939 : decode cL_law 939 = .ok (.aload_n 0, 1) := by decide +kernel
theorem dL_law_940 : decode cL_law 940 = .ok (.iload_n 3, 1) := by decide +kernel
theorem dL_law_941 : decode cL_law 941 = .ok (.iconst 5, 1) := by decide +kernel
theorem dL_law_942 : decode cL_law 942 = .ok (.iadd, 1) := by decide +kernel
theorem dL_law_943 : decode cL_law 943 = .ok (.iaload, 1) := by decide +kernel
theorem dL_law_944 : decode cL_law 944 = .ok (.ifCond .eq 7, 3) := by decide +kernel
theorem dL_law_947 : decode cL_law 947 = .ok (.iconst 1, 1) := by decide +kernel
theorem dL_law_948 : decode cL_law 948 = .ok (.goto 4, 3) := by decide +kernel
theorem dL_law_951 : decode cL_law 951 = .ok (.iconst 0, 1) := by decide +kernel
theorem dL_law_952 : decode cL_law 952 = .ok (.aload_n 0, 1) := by decide +kernel
theorem dL_law_953 : decode cL_law 953 = .ok (.iload_n 3, 1) := by decide +kernel
theorem dL_law_954 : decode cL_law 954 = .ok (.bipush 6, 2) := by decide +kernel
theorem dL_law_956 : decode cL_law 956 = .ok (.iadd, 1) := by decide +kernel
theorem dL_law_957 : decode cL_law 957 = .ok (.iaload, 1) := by decide +kernel
theorem dL_law_958 : decode cL_law 958 = .ok (.ifCond .eq 7, 3) := by decide +kernel
theorem dL_law_961 : decode cL_law 961 = .ok (.iconst 1, 1) := by decide +kernel
theorem dL_law_962 : decode cL_law 962 = .ok (.goto 4, 3) := by decide +kernel
theorem dL_law_965 : decode cL_law 965 = .ok (.iconst 0, 1) := by decide +kernel
theorem dL_law_966 : decode cL_law 966 = .ok (.invokevirtual 79, 3) := by decide +kernel
theorem dL_law_969 : decode cL_law 969 = .ok (.lcmp, 1) := by decide +kernel
theorem dL_law_970 : decode cL_law 970 = .ok (.ifCond .eq 462, 3) := by decide +kernel
theorem dL_law_973 : decode cL_law 973 = .ok (.iconst 0, 1) := by decide +kernel
theorem dL_law_974 : decode cL_law 974 = .ok (.ireturn, 1) := by decide +kernel
theorem dL_law_975 : decode cL_law 975 = .ok (.aload_n 1, 1) := by decide +kernel
theorem dL_law_976 : decode cL_law 976 = .ok (.aload_n 0, 1) := by decide +kernel
theorem dL_law_977 : decode cL_law 977 = .ok (.iload_n 3, 1) := by decide +kernel
theorem dL_law_978 : decode cL_law 978 = .ok (.iconst 1, 1) := by decide +kernel
theorem dL_law_979 : decode cL_law 979 = .ok (.iadd, 1) := by decide +kernel
theorem dL_law_980 : decode cL_law 980 = .ok (.iaload, 1) := by decide +kernel
theorem dL_law_981 : decode cL_law 981 = .ok (.aload_n 0, 1) := by decide +kernel
theorem dL_law_982 : decode cL_law 982 = .ok (.iload_n 3, 1) := by decide +kernel
theorem dL_law_983 : decode cL_law 983 = .ok (.iconst 2, 1) := by decide +kernel
theorem dL_law_984 : decode cL_law 984 = .ok (.iadd, 1) := by decide +kernel
theorem dL_law_985 : decode cL_law 985 = .ok (.iaload, 1) := by decide +kernel
theorem dL_law_986 : decode cL_law 986 = .ok (.aload_n 0, 1) := by decide +kernel
theorem dL_law_987 : decode cL_law 987 = .ok (.iload_n 3, 1) := by decide +kernel
theorem dL_law_988 : decode cL_law 988 = .ok (.iconst 3, 1) := by decide +kernel
theorem dL_law_989 : decode cL_law 989 = .ok (.iadd, 1) := by decide +kernel
theorem dL_law_990 : decode cL_law 990 = .ok (.iaload, 1) := by decide +kernel
theorem dL_law_991 : decode cL_law 991 = .ok (.aload_n 0, 1) := by decide +kernel
theorem dL_law_992 : decode cL_law 992 = .ok (.iload_n 3, 1) := by decide +kernel
theorem dL_law_993 : decode cL_law 993 = .ok (.iconst 4, 1) := by decide +kernel
theorem dL_law_994 : decode cL_law 994 = .ok (.iadd, 1) := by decide +kernel
theorem dL_law_995 : decode cL_law 995 = .ok (.iaload, 1) := by decide +kernel
theorem dL_law_996 : decode cL_law 996 = .ok (.ifCond .eq 7, 3) := by decide +kernel
theorem dL_law_999 : decode cL_law 999 = .ok (.iconst 1, 1) := by decide +kernel
theorem dL_law_1000 : decode cL_law 1000 = .ok (.goto 4, 3) := by decide +kernel
theorem dL_law_1003 : decode cL_law 1003 = .ok (.iconst 0, 1) := by decide +kernel
theorem dL_law_1004 : decode cL_law 1004 = .ok (.aload_n 0, 1) := by decide +kernel
theorem dL_law_1005 : decode cL_law 1005 = .ok (.iload_n 3, 1) := by decide +kernel
theorem dL_law_1006 : decode cL_law 1006 = .ok (.iconst 5, 1) := by decide +kernel
theorem dL_law_1007 : decode cL_law 1007 = .ok (.iadd, 1) := by decide +kernel
theorem dL_law_1008 : decode cL_law 1008 = .ok (.iaload, 1) := by decide +kernel
theorem dL_law_1009 : decode cL_law 1009 = .ok (.ifCond .eq 7, 3) := by decide +kernel
theorem dL_law_1012 : decode cL_law 1012 = .ok (.iconst 1, 1) := by decide +kernel
theorem dL_law_1013 : decode cL_law 1013 = .ok (.goto 4, 3) := by decide +kernel
theorem dL_law_1016 : decode cL_law 1016 = .ok (.iconst 0, 1) := by decide +kernel
theorem dL_law_1017 : decode cL_law 1017 = .ok (.aload_n 0, 1) := by decide +kernel
theorem dL_law_1018 : decode cL_law 1018 = .ok (.iload_n 3, 1) := by decide +kernel
theorem dL_law_1019 : decode cL_law 1019 = .ok (.bipush 6, 2) := by decide +kernel
theorem dL_law_1021 : decode cL_law 1021 = .ok (.iadd, 1) := by decide +kernel
theorem dL_law_1022 : decode cL_law 1022 = .ok (.iaload, 1) := by decide +kernel
theorem dL_law_1023 : decode cL_law 1023 = .ok (.ifCond .eq 7, 3) := by decide +kernel
theorem dL_law_1026 : decode cL_law 1026 = .ok (.iconst 1, 1) := by decide +kernel
theorem dL_law_1027 : decode cL_law 1027 = .ok (.goto 4, 3) := by decide +kernel
theorem dL_law_1030 : decode cL_law 1030 = .ok (.iconst 0, 1) := by decide +kernel
theorem dL_law_1031 : decode cL_law 1031 = .ok (.invokevirtual 80, 3) := by decide +kernel
theorem dL_law_1034 : decode cL_law 1034 = .ok (.aload_n 2, 1) := by decide +kernel
theorem dL_law_1035 : decode cL_law 1035 = .ok (.aload_n 0, 1) := by decide +kernel
theorem dL_law_1036 : decode cL_law 1036 = .ok (.iload_n 3, 1) := by decide +kernel
theorem dL_law_1037 : decode cL_law 1037 = .ok (.iconst 1, 1) := by decide +kernel
theorem dL_law_1038 : decode cL_law 1038 = .ok (.iadd, 1) := by decide +kernel
theorem dL_law_1039 : decode cL_law 1039 = .ok (.iaload, 1) := by decide +kernel
theorem dL_law_1040 : decode cL_law 1040 = .ok (.aload_n 0, 1) := by decide +kernel
theorem dL_law_1041 : decode cL_law 1041 = .ok (.iload_n 3, 1) := by decide +kernel
theorem dL_law_1042 : decode cL_law 1042 = .ok (.iconst 2, 1) := by decide +kernel
theorem dL_law_1043 : decode cL_law 1043 = .ok (.iadd, 1) := by decide +kernel
theorem dL_law_1044 : decode cL_law 1044 = .ok (.iaload, 1) := by decide +kernel
theorem dL_law_1045 : decode cL_law 1045 = .ok (.aload_n 0, 1) := by decide +kernel
theorem dL_law_1046 : decode cL_law 1046 = .ok (.iload_n 3, 1) := by decide +kernel
theorem dL_law_1047 : decode cL_law 1047 = .ok (.iconst 3, 1) := by decide +kernel
theorem dL_law_1048 : decode cL_law 1048 = .ok (.iadd, 1) := by decide +kernel
theorem dL_law_1049 : decode cL_law 1049 = .ok (.iaload, 1) := by decide +kernel
theorem dL_law_1050 : decode cL_law 1050 = .ok (.aload_n 0, 1) := by decide +kernel
theorem dL_law_1051 : decode cL_law 1051 = .ok (.iload_n 3, 1) := by decide +kernel
theorem dL_law_1052 : decode cL_law 1052 = .ok (.iconst 4, 1) := by decide +kernel
theorem dL_law_1053 : decode cL_law 1053 = .ok (.iadd, 1) := by decide +kernel
theorem dL_law_1054 : decode cL_law 1054 = .ok (.iaload, 1) := by decide +kernel
theorem dL_law_1055 : decode cL_law 1055 = .ok (.ifCond .eq 7, 3) := by decide +kernel
theorem dL_law_1058 : decode cL_law 1058 = .ok (.iconst 1, 1) := by decide +kernel
theorem dL_law_1059 : decode cL_law 1059 = .ok (.goto 4, 3) := by decide +kernel
theorem dL_law_1062 : decode cL_law 1062 = .ok (.iconst 0, 1) := by decide +kernel
theorem dL_law_1063 : decode cL_law 1063 = .ok (.aload_n 0, 1) := by decide +kernel
theorem dL_law_1064 : decode cL_law 1064 = .ok (.iload_n 3, 1) := by decide +kernel
theorem dL_law_1065 : decode cL_law 1065 = .ok (.iconst 5, 1) := by decide +kernel
theorem dL_law_1066 : decode cL_law 1066 = .ok (.iadd, 1) := by decide +kernel
theorem dL_law_1067 : decode cL_law 1067 = .ok (.iaload, 1) := by decide +kernel
theorem dL_law_1068 : decode cL_law 1068 = .ok (.ifCond .eq 7, 3) := by decide +kernel
theorem dL_law_1071 : decode cL_law 1071 = .ok (.iconst 1, 1) := by decide +kernel
theorem dL_law_1072 : decode cL_law 1072 = .ok (.goto 4, 3) := by decide +kernel
theorem dL_law_1075 : decode cL_law 1075 = .ok (.iconst 0, 1) := by decide +kernel
theorem dL_law_1076 : decode cL_law 1076 = .ok (.aload_n 0, 1) := by decide +kernel
theorem dL_law_1077 : decode cL_law 1077 = .ok (.iload_n 3, 1) := by decide +kernel
theorem dL_law_1078 : decode cL_law 1078 = .ok (.bipush 6, 2) := by decide +kernel
theorem dL_law_1080 : decode cL_law 1080 = .ok (.iadd, 1) := by decide +kernel
theorem dL_law_1081 : decode cL_law 1081 = .ok (.iaload, 1) := by decide +kernel
theorem dL_law_1082 : decode cL_law 1082 = .ok (.ifCond .eq 7, 3) := by decide +kernel
theorem dL_law_1085 : decode cL_law 1085 = .ok (.iconst 1, 1) := by decide +kernel
theorem dL_law_1086 : decode cL_law 1086 = .ok (.goto 4, 3) := by decide +kernel
theorem dL_law_1089 : decode cL_law 1089 = .ok (.iconst 0, 1) := by decide +kernel
theorem dL_law_1090 : decode cL_law 1090 = .ok (.invokevirtual 83, 3) := by decide +kernel
theorem dL_law_1093 : decode cL_law 1093 = .ok (.lcmp, 1) := by decide +kernel
theorem dL_law_1094 : decode cL_law 1094 = .ok (.ifCond .eq 338, 3) := by decide +kernel
theorem dL_law_1097 : decode cL_law 1097 = .ok (.iconst 0, 1) := by decide +kernel
theorem dL_law_1098 : decode cL_law 1098 = .ok (.ireturn, 1) := by decide +kernel
theorem dL_law_1099 : decode cL_law 1099 = .ok (.aload_n 1, 1) := by decide +kernel
theorem dL_law_1100 : decode cL_law 1100 = .ok (.aload_n 0, 1) := by decide +kernel
theorem dL_law_1101 : decode cL_law 1101 = .ok (.iload_n 3, 1) := by decide +kernel
theorem dL_law_1102 : decode cL_law 1102 = .ok (.iconst 1, 1) := by decide +kernel
theorem dL_law_1103 : decode cL_law 1103 = .ok (.iadd, 1) := by decide +kernel
theorem dL_law_1104 : decode cL_law 1104 = .ok (.iaload, 1) := by decide +kernel
theorem dL_law_1105 : decode cL_law 1105 = .ok (.invokevirtual 84, 3) := by decide +kernel
theorem dL_law_1108 : decode cL_law 1108 = .ok (.aload_n 2, 1) := by decide +kernel
theorem dL_law_1109 : decode cL_law 1109 = .ok (.aload_n 0, 1) := by decide +kernel
theorem dL_law_1110 : decode cL_law 1110 = .ok (.iload_n 3, 1) := by decide +kernel
theorem dL_law_1111 : decode cL_law 1111 = .ok (.iconst 1, 1) := by decide +kernel
theorem dL_law_1112 : decode cL_law 1112 = .ok (.iadd, 1) := by decide +kernel
theorem dL_law_1113 : decode cL_law 1113 = .ok (.iaload, 1) := by decide +kernel
theorem dL_law_1114 : decode cL_law 1114 = .ok (.invokevirtual 88, 3) := by decide +kernel
theorem dL_law_1117 : decode cL_law 1117 = .ok (.if_icmp .eq 315, 3) := by decide +kernel
theorem dL_law_1120 : decode cL_law 1120 = .ok (.iconst 0, 1) := by decide +kernel
theorem dL_law_1121 : decode cL_law 1121 = .ok (.ireturn, 1) := by decide +kernel
theorem dL_law_1122 : decode cL_law 1122 = .ok (.aload_n 1, 1) := by decide +kernel
theorem dL_law_1123 : decode cL_law 1123 = .ok (.aload_n 0, 1) := by decide +kernel
theorem dL_law_1124 : decode cL_law 1124 = .ok (.iload_n 3, 1) := by decide +kernel
theorem dL_law_1125 : decode cL_law 1125 = .ok (.iconst 1, 1) := by decide +kernel
theorem dL_law_1126 : decode cL_law 1126 = .ok (.iadd, 1) := by decide +kernel
theorem dL_law_1127 : decode cL_law 1127 = .ok (.iaload, 1) := by decide +kernel
theorem dL_law_1128 : decode cL_law 1128 = .ok (.aload_n 0, 1) := by decide +kernel
theorem dL_law_1129 : decode cL_law 1129 = .ok (.iload_n 3, 1) := by decide +kernel
theorem dL_law_1130 : decode cL_law 1130 = .ok (.iconst 2, 1) := by decide +kernel
theorem dL_law_1131 : decode cL_law 1131 = .ok (.iadd, 1) := by decide +kernel
theorem dL_law_1132 : decode cL_law 1132 = .ok (.iaload, 1) := by decide +kernel
theorem dL_law_1133 : decode cL_law 1133 = .ok (.aload_n 0, 1) := by decide +kernel
theorem dL_law_1134 : decode cL_law 1134 = .ok (.iload_n 3, 1) := by decide +kernel
theorem dL_law_1135 : decode cL_law 1135 = .ok (.iconst 3, 1) := by decide +kernel
theorem dL_law_1136 : decode cL_law 1136 = .ok (.iadd, 1) := by decide +kernel
theorem dL_law_1137 : decode cL_law 1137 = .ok (.iaload, 1) := by decide +kernel
theorem dL_law_1138 : decode cL_law 1138 = .ok (.aload_n 0, 1) := by decide +kernel
theorem dL_law_1139 : decode cL_law 1139 = .ok (.iload_n 3, 1) := by decide +kernel
theorem dL_law_1140 : decode cL_law 1140 = .ok (.iconst 4, 1) := by decide +kernel
theorem dL_law_1141 : decode cL_law 1141 = .ok (.iadd, 1) := by decide +kernel
theorem dL_law_1142 : decode cL_law 1142 = .ok (.iaload, 1) := by decide +kernel
theorem dL_law_1143 : decode cL_law 1143 = .ok (.invokevirtual 89, 3) := by decide +kernel
theorem dL_law_1146 : decode cL_law 1146 = .ok (.aload_n 2, 1) := by decide +kernel
theorem dL_law_1147 : decode cL_law 1147 = .ok (.aload_n 0, 1) := by decide +kernel
