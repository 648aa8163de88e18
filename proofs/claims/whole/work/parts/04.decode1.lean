theorem dX0_init_0 : decode cX0_init 0 = .ok (.aload_n 0, 1) := by decide +kernel
theorem dX0_init_1 : decode cX0_init 1 = .ok (.invokespecial 3, 3) := by decide +kernel
theorem dX0_init_4 : decode cX0_init 4 = .ok (.aload_n 0, 1) := by decide +kernel
theorem dX0_init_5 : decode cX0_init 5 = .ok (.bipush 80, 2) := by decide +kernel
theorem dX0_init_7 : decode cX0_init 7 = .ok (.newarray .int, 2) := by decide +kernel
theorem dX0_init_9 : decode cX0_init 9 = .ok (.putfield 9, 3) := by decide +kernel
theorem dX0_init_12 : decode cX0_init 12 = .ok (.aload_n 0, 1) := by decide +kernel
theorem dX0_init_13 : decode cX0_init 13 = .ok (.bipush 80, 2) := by decide +kernel
theorem dX0_init_15 : decode cX0_init 15 = .ok (.newarray .int, 2) := by decide +kernel
theorem dX0_init_17 : decode cX0_init 17 = .ok (.putfield 15, 3) := by decide +kernel
theorem dX0_init_20 : decode cX0_init 20 = .ok (.aload_n 0, 1) := by decide +kernel
theorem dX0_init_21 : decode cX0_init 21 = .ok (.bipush 80, 2) := by decide +kernel
theorem dX0_init_23 : decode cX0_init 23 = .ok (.newarray .int, 2) := by decide +kernel
theorem dX0_init_25 : decode cX0_init 25 = .ok (.putfield 18, 3) := by decide +kernel
theorem dX0_init_28 : decode cX0_init 28 = .ok (.aload_n 0, 1) := by decide +kernel
theorem dX0_init_29 : decode cX0_init 29 = .ok (.bipush 80, 2) := by decide +kernel
theorem dX0_init_31 : decode cX0_init 31 = .ok (.newarray .int, 2) := by decide +kernel
theorem dX0_init_33 : decode cX0_init 33 = .ok (.putfield 21, 3) := by decide +kernel
theorem dX0_init_36 : decode cX0_init 36 = .ok (.aload_n 0, 1) := by decide +kernel
theorem dX0_init_37 : decode cX0_init 37 = .ok (.iconst 0, 1) := by decide +kernel
theorem dX0_init_38 : decode cX0_init 38 = .ok (.putfield 24, 3) := by decide +kernel
theorem dX0_init_41 : decode cX0_init 41 = .ok (.return_, 1) := by decide +kernel
theorem dX0_add_0 : decode cX0_add 0 = .ok (.aload_n 0, 1) := by decide +kernel
theorem dX0_add_1 : decode cX0_add 1 = .ok (.getfield 24, 3) := by decide +kernel
theorem dX0_add_4 : decode cX0_add 4 = .ok (.bipush 80, 2) := by decide +kernel
theorem dX0_add_6 : decode cX0_add 6 = .ok (.if_icmp .lt 6, 3) := by decide +kernel
theorem dX0_add_9 : decode cX0_add 9 = .ok (.bipush (-4), 2) := by decide +kernel
theorem dX0_add_11 : decode cX0_add 11 = .ok (.ireturn, 1) := by decide +kernel
theorem dX0_add_12 : decode cX0_add 12 = .ok (.aload_n 0, 1) := by decide +kernel
theorem dX0_add_13 : decode cX0_add 13 = .ok (.getfield 9, 3) := by decide +kernel
theorem dX0_add_16 : decode cX0_add 16 = .ok (.aload_n 0, 1) := by decide +kernel
theorem dX0_add_17 : decode cX0_add 17 = .ok (.getfield 24, 3) := by decide +kernel
theorem dX0_add_20 : decode cX0_add 20 = .ok (.iload_n 1, 1) := by decide +kernel
theorem dX0_add_21 : decode cX0_add 21 = .ok (.iastore, 1) := by decide +kernel
theorem dX0_add_22 : decode cX0_add 22 = .ok (.aload_n 0, 1) := by decide +kernel
theorem dX0_add_23 : decode cX0_add 23 = .ok (.getfield 15, 3) := by decide +kernel
theorem dX0_add_26 : decode cX0_add 26 = .ok (.aload_n 0, 1) := by decide +kernel
theorem dX0_add_27 : decode cX0_add 27 = .ok (.getfield 24, 3) := by decide +kernel
theorem dX0_add_30 : decode cX0_add 30 = .ok (.iload_n 2, 1) := by decide +kernel
theorem dX0_add_31 : decode cX0_add 31 = .ok (.iastore, 1) := by decide +kernel
theorem dX0_add_32 : decode cX0_add 32 = .ok (.aload_n 0, 1) := by decide +kernel
theorem dX0_add_33 : decode cX0_add 33 = .ok (.getfield 18, 3) := by decide +kernel
theorem dX0_add_36 : decode cX0_add 36 = .ok (.aload_n 0, 1) := by decide +kernel
theorem dX0_add_37 : decode cX0_add 37 = .ok (.getfield 24, 3) := by decide +kernel
theorem dX0_add_40 : decode cX0_add 40 = .ok (.iload_n 3, 1) := by decide +kernel
theorem dX0_add_41 : decode cX0_add 41 = .ok (.iastore, 1) := by decide +kernel
theorem dX0_add_42 : decode cX0_add 42 = .ok (.aload_n 0, 1) := by decide +kernel
theorem dX0_add_43 : decode cX0_add 43 = .ok (.getfield 21, 3) := by decide +kernel
theorem dX0_add_46 : decode cX0_add 46 = .ok (.aload_n 0, 1) := by decide +kernel
theorem dX0_add_47 : decode cX0_add 47 = .ok (.getfield 24, 3) := by decide +kernel
theorem dX0_add_50 : decode cX0_add 50 = .ok (.iload 4, 2) := by decide +kernel
theorem dX0_add_52 : decode cX0_add 52 = .ok (.iastore, 1) := by decide +kernel
theorem dX0_add_53 : decode cX0_add 53 = .ok (.aload_n 0, 1) := by decide +kernel
theorem dX0_add_54 : decode cX0_add 54 = .ok (.dup, 1) := by decide +kernel
theorem dX0_add_55 : decode cX0_add 55 = .ok (.getfield 24, 3) := by decide +kernel
theorem dX0_add_58 : decode cX0_add 58 = .ok (.iconst 1, 1) := by decide +kernel
theorem dX0_add_59 : decode cX0_add 59 = .ok (.iadd, 1) := by decide +kernel
theorem dX0_add_60 : decode cX0_add 60 = .ok (.putfield 24, 3) := by decide +kernel
theorem dX0_add_63 : decode cX0_add 63 = .ok (.aload_n 0, 1) := by decide +kernel
theorem dX0_add_64 : decode cX0_add 64 = .ok (.getfield 24, 3) := by decide +kernel
theorem dX0_add_67 : decode cX0_add 67 = .ok (.iconst 1, 1) := by decide +kernel
theorem dX0_add_68 : decode cX0_add 68 = .ok (.isub, 1) := by decide +kernel
theorem dX0_add_69 : decode cX0_add 69 = .ok (.ireturn, 1) := by decide +kernel
theorem dX0_versionFor_0 : decode cX0_versionFor 0 = .ok (.iload_n 3, 1) := by decide +kernel
theorem dX0_versionFor_1 : decode cX0_versionFor 1 = .ok (.bipush (-9), 2) := by decide +kernel
theorem dX0_versionFor_3 : decode cX0_versionFor 3 = .ok (.if_icmp .ne 10, 3) := by decide +kernel
theorem dX0_versionFor_6 : decode cX0_versionFor 6 = .ok (.aload_n 0, 1) := by decide +kernel
theorem dX0_versionFor_7 : decode cX0_versionFor 7 = .ok (.getfield 24, 3) := by decide +kernel
theorem dX0_versionFor_10 : decode cX0_versionFor 10 = .ok (.goto 6, 3) := by decide +kernel
theorem dX0_versionFor_13 : decode cX0_versionFor 13 = .ok (.iload_n 3, 1) := by decide +kernel
theorem dX0_versionFor_14 : decode cX0_versionFor 14 = .ok (.iconst 1, 1) := by decide +kernel
theorem dX0_versionFor_15 : decode cX0_versionFor 15 = .ok (.iadd, 1) := by decide +kernel
theorem dX0_versionFor_16 : decode cX0_versionFor 16 = .ok (.istore 4, 2) := by decide +kernel
theorem dX0_versionFor_18 : decode cX0_versionFor 18 = .ok (.bipush (-9), 2) := by decide +kernel
theorem dX0_versionFor_20 : decode cX0_versionFor 20 = .ok (.istore 5, 2) := by decide +kernel
theorem dX0_versionFor_22 : decode cX0_versionFor 22 = .ok (.iconst 0, 1) := by decide +kernel
theorem dX0_versionFor_23 : decode cX0_versionFor 23 = .ok (.istore 6, 2) := by decide +kernel
theorem dX0_versionFor_25 : decode cX0_versionFor 25 = .ok (.iload 6, 2) := by decide +kernel
theorem dX0_versionFor_27 : decode cX0_versionFor 27 = .ok (.iload 4, 2) := by decide +kernel
theorem dX0_versionFor_29 : decode cX0_versionFor 29 = .ok (.if_icmp .ge 59, 3) := by decide +kernel
theorem dX0_versionFor_32 : decode cX0_versionFor 32 = .ok (.aload_n 0, 1) := by decide +kernel
theorem dX0_versionFor_33 : decode cX0_versionFor 33 = .ok (.getfield 9, 3) := by decide +kernel
theorem dX0_versionFor_36 : decode cX0_versionFor 36 = .ok (.iload 6, 2) := by decide +kernel
theorem dX0_versionFor_38 : decode cX0_versionFor 38 = .ok (.iaload, 1) := by decide +kernel
theorem dX0_versionFor_39 : decode cX0_versionFor 39 = .ok (.iload_n 1, 1) := by decide +kernel
theorem dX0_versionFor_40 : decode cX0_versionFor 40 = .ok (.if_icmp .ne 42, 3) := by decide +kernel
theorem dX0_versionFor_43 : decode cX0_versionFor 43 = .ok (.aload_n 0, 1) := by decide +kernel
theorem dX0_versionFor_44 : decode cX0_versionFor 44 = .ok (.getfield 15, 3) := by decide +kernel
theorem dX0_versionFor_47 : decode cX0_versionFor 47 = .ok (.iload 6, 2) := by decide +kernel
theorem dX0_versionFor_49 : decode cX0_versionFor 49 = .ok (.iaload, 1) := by decide +kernel
theorem dX0_versionFor_50 : decode cX0_versionFor 50 = .ok (.iload_n 2, 1) := by decide +kernel
theorem dX0_versionFor_51 : decode cX0_versionFor 51 = .ok (.if_icmp .gt 31, 3) := by decide +kernel
theorem dX0_versionFor_54 : decode cX0_versionFor 54 = .ok (.iload 5, 2) := by decide +kernel
theorem dX0_versionFor_56 : decode cX0_versionFor 56 = .ok (.bipush (-9), 2) := by decide +kernel
theorem dX0_versionFor_58 : decode cX0_versionFor 58 = .ok (.if_icmp .eq 20, 3) := by decide +kernel
theorem dX0_versionFor_61 : decode cX0_versionFor 61 = .ok (.aload_n 0, 1) := by decide +kernel
theorem dX0_versionFor_62 : decode cX0_versionFor 62 = .ok (.getfield 15, 3) := by decide +kernel
theorem dX0_versionFor_65 : decode cX0_versionFor 65 = .ok (.iload 6, 2) := by decide +kernel
theorem dX0_versionFor_67 : decode cX0_versionFor 67 = .ok (.iaload, 1) := by decide +kernel
theorem dX0_versionFor_68 : decode cX0_versionFor 68 = .ok (.aload_n 0, 1) := by decide +kernel
theorem dX0_versionFor_69 : decode cX0_versionFor 69 = .ok (.getfield 15, 3) := by decide +kernel
theorem dX0_versionFor_72 : decode cX0_versionFor 72 = .ok (.iload 5, 2) := by decide +kernel
theorem dX0_versionFor_74 : decode cX0_versionFor 74 = .ok (.iaload, 1) := by decide +kernel
theorem dX0_versionFor_75 : decode cX0_versionFor 75 = .ok (.if_icmp .lt 7, 3) := by decide +kernel
theorem dX0_versionFor_78 : decode cX0_versionFor 78 = .ok (.iload 6, 2) := by decide +kernel
theorem dX0_versionFor_80 : decode cX0_versionFor 80 = .ok (.istore 5, 2) := by decide +kernel
theorem dX0_versionFor_82 : decode cX0_versionFor 82 = .ok (.iinc 6 1, 3) := by decide +kernel
theorem dX0_versionFor_85 : decode cX0_versionFor 85 = .ok (.goto (-60), 3) := by decide +kernel
theorem dX0_versionFor_88 : decode cX0_versionFor 88 = .ok (.iload 5, 2) := by decide +kernel
theorem dX0_versionFor_90 : decode cX0_versionFor 90 = .ok (.ireturn, 1) := by decide +kernel
theorem dX0_endOf_0 : decode cX0_endOf 0 = .ok (.iload_n 1, 1) := by decide +kernel
theorem dX0_endOf_1 : decode cX0_endOf 1 = .ok (.bipush (-9), 2) := by decide +kernel
theorem dX0_endOf_3 : decode cX0_endOf 3 = .ok (.if_icmp .ne 6, 3) := by decide +kernel
theorem dX0_endOf_6 : decode cX0_endOf 6 = .ok (.bipush (-9), 2) := by decide +kernel
theorem dX0_endOf_8 : decode cX0_endOf 8 = .ok (.ireturn, 1) := by decide +kernel
theorem dX0_endOf_9 : decode cX0_endOf 9 = .ok (.iload_n 2, 1) := by decide +kernel
theorem dX0_endOf_10 : decode cX0_endOf 10 = .ok (.ifCond .eq 12, 3) := by decide +kernel
theorem dX0_endOf_13 : decode cX0_endOf 13 = .ok (.aload_n 0, 1) := by decide +kernel
theorem dX0_endOf_14 : decode cX0_endOf 14 = .ok (.getfield 21, 3) := by decide +kernel
theorem dX0_endOf_17 : decode cX0_endOf 17 = .ok (.iload_n 1, 1) := by decide +kernel
theorem dX0_endOf_18 : decode cX0_endOf 18 = .ok (.iaload, 1) := by decide +kernel
theorem dX0_endOf_19 : decode cX0_endOf 19 = .ok (.goto 9, 3) := by decide +kernel
theorem dX0_endOf_22 : decode cX0_endOf 22 = .ok (.aload_n 0, 1) := by decide +kernel
theorem dX0_endOf_23 : decode cX0_endOf 23 = .ok (.getfield 18, 3) := by decide +kernel
theorem dX0_endOf_26 : decode cX0_endOf 26 = .ok (.iload_n 1, 1) := by decide +kernel
theorem dX0_endOf_27 : decode cX0_endOf 27 = .ok (.iaload, 1) := by decide +kernel
theorem dX0_endOf_28 : decode cX0_endOf 28 = .ok (.ireturn, 1) := by decide +kernel
theorem dX1_init_0 : decode cX1_init 0 = .ok (.aload_n 0, 1) := by decide +kernel
theorem dX1_init_1 : decode cX1_init 1 = .ok (.invokespecial 3, 3) := by decide +kernel
theorem dX1_init_4 : decode cX1_init 4 = .ok (.aload_n 0, 1) := by decide +kernel
theorem dX1_init_5 : decode cX1_init 5 = .ok (.bipush 100, 2) := by decide +kernel
theorem dX1_init_7 : decode cX1_init 7 = .ok (.newarray .int, 2) := by decide +kernel
theorem dX1_init_9 : decode cX1_init 9 = .ok (.putfield 9, 3) := by decide +kernel
theorem dX1_init_12 : decode cX1_init 12 = .ok (.aload_n 0, 1) := by decide +kernel
theorem dX1_init_13 : decode cX1_init 13 = .ok (.bipush 100, 2) := by decide +kernel
theorem dX1_init_15 : decode cX1_init 15 = .ok (.newarray .int, 2) := by decide +kernel
theorem dX1_init_17 : decode cX1_init 17 = .ok (.putfield 15, 3) := by decide +kernel
theorem dX1_init_20 : decode cX1_init 20 = .ok (.aload_n 0, 1) := by decide +kernel
theorem dX1_init_21 : decode cX1_init 21 = .ok (.bipush 100, 2) := by decide +kernel
theorem dX1_init_23 : decode cX1_init 23 = .ok (.newarray .int, 2) := by decide +kernel
theorem dX1_init_25 : decode cX1_init 25 = .ok (.putfield 18, 3) := by decide +kernel
theorem dX1_init_28 : decode cX1_init 28 = .ok (.aload_n 0, 1) := by decide +kernel
theorem dX1_init_29 : decode cX1_init 29 = .ok (.bipush 100, 2) := by decide +kernel
theorem dX1_init_31 : decode cX1_init 31 = .ok (.newarray .int, 2) := by decide +kernel
theorem dX1_init_33 : decode cX1_init 33 = .ok (.putfield 21, 3) := by decide +kernel
theorem dX1_init_36 : decode cX1_init 36 = .ok (.aload_n 0, 1) := by decide +kernel
theorem dX1_init_37 : decode cX1_init 37 = .ok (.bipush 10, 2) := by decide +kernel
theorem dX1_init_39 : decode cX1_init 39 = .ok (.newarray .int, 2) := by decide +kernel
theorem dX1_init_41 : decode cX1_init 41 = .ok (.putfield 24, 3) := by decide +kernel
theorem dX1_init_44 : decode cX1_init 44 = .ok (.aload_n 0, 1) := by decide +kernel
theorem dX1_init_45 : decode cX1_init 45 = .ok (.bipush 101, 2) := by decide +kernel
theorem dX1_init_47 : decode cX1_init 47 = .ok (.newarray .boolean, 2) := by decide +kernel
theorem dX1_init_49 : decode cX1_init 49 = .ok (.putfield 27, 3) := by decide +kernel
theorem dX1_init_52 : decode cX1_init 52 = .ok (.aload_n 0, 1) := by decide +kernel
theorem dX1_init_53 : decode cX1_init 53 = .ok (.sipush 1010, 3) := by decide +kernel
theorem dX1_init_56 : decode cX1_init 56 = .ok (.newarray .long, 2) := by decide +kernel
theorem dX1_init_58 : decode cX1_init 58 = .ok (.putfield 31, 3) := by decide +kernel
theorem dX1_init_61 : decode cX1_init 61 = .ok (.aload_n 0, 1) := by decide +kernel
theorem dX1_init_62 : decode cX1_init 62 = .ok (.bipush 100, 2) := by decide +kernel
theorem dX1_init_64 : decode cX1_init 64 = .ok (.newarray .int, 2) := by decide +kernel
theorem dX1_init_66 : decode cX1_init 66 = .ok (.putfield 35, 3) := by decide +kernel
theorem dX1_init_69 : decode cX1_init 69 = .ok (.aload_n 0, 1) := by decide +kernel
theorem dX1_init_70 : decode cX1_init 70 = .ok (.bipush 10, 2) := by decide +kernel
theorem dX1_init_72 : decode cX1_init 72 = .ok (.newarray .long, 2) := by decide +kernel
theorem dX1_init_74 : decode cX1_init 74 = .ok (.putfield 38, 3) := by decide +kernel
theorem dX1_init_77 : decode cX1_init 77 = .ok (.aload_n 0, 1) := by decide +kernel
theorem dX1_init_78 : decode cX1_init 78 = .ok (.bipush 10, 2) := by decide +kernel
theorem dX1_init_80 : decode cX1_init 80 = .ok (.newarray .long, 2) := by decide +kernel
theorem dX1_init_82 : decode cX1_init 82 = .ok (.putfield 41, 3) := by decide +kernel
theorem dX1_init_85 : decode cX1_init 85 = .ok (.aload_n 0, 1) := by decide +kernel
theorem dX1_init_86 : decode cX1_init 86 = .ok (.iconst 0, 1) := by decide +kernel
theorem dX1_init_87 : decode cX1_init 87 = .ok (.putfield 44, 3) := by decide +kernel
theorem dX1_init_90 : decode cX1_init 90 = .ok (.return_, 1) := by decide +kernel
set_option maxRecDepth 20000 in
theorem ggX1_tell_X1_heldOn : GoodIn wsX1_tell wsX1_heldOn := goodIn_r _ [10, 2, 3, 5, 11, 12, 13, 9, 14, 1, 4, 32, 33, 34, 35, 36, 37, 38, 39, 40, 41, 42] (by decide +kernel) (by decide +kernel)
set_option maxRecDepth 20000 in
theorem gX1_tell_X1_heldOn : GoodIn wsX1_tell (wsV RX1 48 RX1 yX1_heldOn wsX1_heldOn) := goodIn_app (goodIn_of _ (by decide +kernel)) ggX1_tell_X1_heldOn
set_option maxRecDepth 20000 in
theorem ggX1_tell_X1_placeOf : GoodIn wsX1_tell wsX1_placeOf := goodIn_r _ [18, 1, 2, 3, 4, 32, 33, 34, 35, 36, 37, 38, 39, 40, 41, 42] (by decide +kernel) (by decide +kernel)
set_option maxRecDepth 20000 in
theorem gX1_tell_X1_placeOf : GoodIn wsX1_tell (wsV RX1 52 RX1 yX1_placeOf wsX1_placeOf) := goodIn_app (goodIn_of _ (by decide +kernel)) ggX1_tell_X1_placeOf
set_option maxRecDepth 20000 in
theorem ggX1_tell_X1_spanOn : GoodIn wsX1_tell wsX1_spanOn := goodIn_r _ [14, 1, 4, 32, 33, 34, 35, 36, 37, 38, 39, 40, 41, 42] (by decide +kernel) (by decide +kernel)
set_option maxRecDepth 20000 in
theorem gX1_tell_X1_spanOn : GoodIn wsX1_tell (wsV RX1 55 RX1 yX1_spanOn wsX1_spanOn) := goodIn_app (goodIn_of _ (by decide +kernel)) ggX1_tell_X1_spanOn
set_option maxRecDepth 20000 in
theorem ggX1_tell_X1_makeRoomAt : GoodIn wsX1_tell wsX1_makeRoomAt := goodIn_r _ [22, 1, 2, 23, 24, 25, 26, 3, 5, 4, 32, 33, 34, 35, 36, 37, 38, 39, 40, 41, 42] (by decide +kernel) (by decide +kernel)
set_option maxRecDepth 20000 in
theorem gX1_tell_X1_makeRoomAt : GoodIn wsX1_tell (wsV RX1 59 RX1 yX1_makeRoomAt wsX1_makeRoomAt) := goodIn_app (goodIn_of _ (by decide +kernel)) ggX1_tell_X1_makeRoomAt
set_option maxRecDepth 20000 in
theorem ggX1_tell_X1_forgetSpans : GoodIn wsX1_tell wsX1_forgetSpans := goodIn_r _ [30, 31, 32, 33, 34, 35, 36, 37, 38, 39, 40, 41, 42] (by decide +kernel) (by decide +kernel)
set_option maxRecDepth 20000 in
theorem gX1_tell_X1_forgetSpans : GoodIn wsX1_tell (wsV RX1 63 RX1 yX1_forgetSpans wsX1_forgetSpans) := goodIn_app (goodIn_of _ (by decide +kernel)) ggX1_tell_X1_forgetSpans
theorem dX1_tell_0 : decode cX1_tell 0 = .ok (.aload_n 0, 1) := by decide +kernel
theorem dX1_tell_1 : decode cX1_tell 1 = .ok (.iload_n 1, 1) := by decide +kernel
theorem dX1_tell_2 : decode cX1_tell 2 = .ok (.iload_n 2, 1) := by decide +kernel
theorem dX1_tell_3 : decode cX1_tell 3 = .ok (.iload 4, 2) := by decide +kernel
theorem dX1_tell_5 : decode cX1_tell 5 = .ok (.invokevirtual 48, 3) := by decide +kernel
theorem dX1_tell_8 : decode cX1_tell 8 = .ok (.istore 5, 2) := by decide +kernel
theorem dX1_tell_10 : decode cX1_tell 10 = .ok (.aload_n 0, 1) := by decide +kernel
theorem dX1_tell_11 : decode cX1_tell 11 = .ok (.iload_n 1, 1) := by decide +kernel
theorem dX1_tell_12 : decode cX1_tell 12 = .ok (.iload_n 2, 1) := by decide +kernel
theorem dX1_tell_13 : decode cX1_tell 13 = .ok (.iload 4, 2) := by decide +kernel
theorem dX1_tell_15 : decode cX1_tell 15 = .ok (.invokevirtual 52, 3) := by decide +kernel
theorem dX1_tell_18 : decode cX1_tell 18 = .ok (.istore 6, 2) := by decide +kernel
theorem dX1_tell_20 : decode cX1_tell 20 = .ok (.iload 6, 2) := by decide +kernel
theorem dX1_tell_22 : decode cX1_tell 22 = .ok (.bipush (-9), 2) := by decide +kernel
theorem dX1_tell_24 : decode cX1_tell 24 = .ok (.if_icmp .ne 54, 3) := by decide +kernel
theorem dX1_tell_27 : decode cX1_tell 27 = .ok (.aload_n 0, 1) := by decide +kernel
theorem dX1_tell_28 : decode cX1_tell 28 = .ok (.getfield 44, 3) := by decide +kernel
theorem dX1_tell_31 : decode cX1_tell 31 = .ok (.bipush 100, 2) := by decide +kernel
theorem dX1_tell_33 : decode cX1_tell 33 = .ok (.if_icmp .lt 6, 3) := by decide +kernel
theorem dX1_tell_36 : decode cX1_tell 36 = .ok (.bipush (-4), 2) := by decide +kernel
theorem dX1_tell_38 : decode cX1_tell 38 = .ok (.ireturn, 1) := by decide +kernel
theorem dX1_tell_39 : decode cX1_tell 39 = .ok (.aload_n 0, 1) := by decide +kernel
theorem dX1_tell_40 : decode cX1_tell 40 = .ok (.iload 4, 2) := by decide +kernel
theorem dX1_tell_42 : decode cX1_tell 42 = .ok (.invokevirtual 55, 3) := by decide +kernel
theorem dX1_tell_45 : decode cX1_tell 45 = .ok (.istore 6, 2) := by decide +kernel
theorem dX1_tell_47 : decode cX1_tell 47 = .ok (.aload_n 0, 1) := by decide +kernel
theorem dX1_tell_48 : decode cX1_tell 48 = .ok (.iload 6, 2) := by decide +kernel
theorem dX1_tell_50 : decode cX1_tell 50 = .ok (.invokevirtual 59, 3) := by decide +kernel
theorem dX1_tell_53 : decode cX1_tell 53 = .ok (.aload_n 0, 1) := by decide +kernel
theorem dX1_tell_54 : decode cX1_tell 54 = .ok (.getfield 9, 3) := by decide +kernel
theorem dX1_tell_57 : decode cX1_tell 57 = .ok (.iload 6, 2) := by decide +kernel
theorem dX1_tell_59 : decode cX1_tell 59 = .ok (.iload_n 1, 1) := by decide +kernel
theorem dX1_tell_60 : decode cX1_tell 60 = .ok (.iastore, 1) := by decide +kernel
theorem dX1_tell_61 : decode cX1_tell 61 = .ok (.aload_n 0, 1) := by decide +kernel
theorem dX1_tell_62 : decode cX1_tell 62 = .ok (.getfield 15, 3) := by decide +kernel
theorem dX1_tell_65 : decode cX1_tell 65 = .ok (.iload 6, 2) := by decide +kernel
theorem dX1_tell_67 : decode cX1_tell 67 = .ok (.iload_n 2, 1) := by decide +kernel
theorem dX1_tell_68 : decode cX1_tell 68 = .ok (.iastore, 1) := by decide +kernel
theorem dX1_tell_69 : decode cX1_tell 69 = .ok (.aload_n 0, 1) := by decide +kernel
theorem dX1_tell_70 : decode cX1_tell 70 = .ok (.getfield 21, 3) := by decide +kernel
theorem dX1_tell_73 : decode cX1_tell 73 = .ok (.iload 6, 2) := by decide +kernel
theorem dX1_tell_75 : decode cX1_tell 75 = .ok (.iload 4, 2) := by decide +kernel
theorem dX1_tell_77 : decode cX1_tell 77 = .ok (.iastore, 1) := by decide +kernel
theorem dX1_tell_78 : decode cX1_tell 78 = .ok (.aload_n 0, 1) := by decide +kernel
theorem dX1_tell_79 : decode cX1_tell 79 = .ok (.getfield 18, 3) := by decide +kernel
theorem dX1_tell_82 : decode cX1_tell 82 = .ok (.iload 6, 2) := by decide +kernel
theorem dX1_tell_84 : decode cX1_tell 84 = .ok (.iload_n 3, 1) := by decide +kernel
theorem dX1_tell_85 : decode cX1_tell 85 = .ok (.iastore, 1) := by decide +kernel
theorem dX1_tell_86 : decode cX1_tell 86 = .ok (.aload_n 0, 1) := by decide +kernel
theorem dX1_tell_87 : decode cX1_tell 87 = .ok (.invokevirtual 63, 3) := by decide +kernel
theorem dX1_tell_90 : decode cX1_tell 90 = .ok (.iload 5, 2) := by decide +kernel
theorem dX1_tell_92 : decode cX1_tell 92 = .ok (.ireturn, 1) := by decide +kernel
set_option maxRecDepth 20000 in
theorem ggX1_heldOn_X1_spanOn : GoodIn wsX1_heldOn wsX1_spanOn := goodIn_r _ [8, 9, 10, 11, 12, 13, 14, 15, 16, 17, 18, 19, 20, 21] (by decide +kernel) (by decide +kernel)
set_option maxRecDepth 20000 in
theorem gX1_heldOn_X1_spanOn : GoodIn wsX1_heldOn (wsV RX1 55 RX1 yX1_spanOn wsX1_spanOn) := goodIn_app (goodIn_of _ (by decide +kernel)) ggX1_heldOn_X1_spanOn
theorem dX1_heldOn_0 : decode cX1_heldOn 0 = .ok (.aload_n 0, 1) := by decide +kernel
theorem dX1_heldOn_1 : decode cX1_heldOn 1 = .ok (.iload_n 3, 1) := by decide +kernel
theorem dX1_heldOn_2 : decode cX1_heldOn 2 = .ok (.invokevirtual 55, 3) := by decide +kernel
theorem dX1_heldOn_5 : decode cX1_heldOn 5 = .ok (.iconst 1, 1) := by decide +kernel
theorem dX1_heldOn_6 : decode cX1_heldOn 6 = .ok (.isub, 1) := by decide +kernel
theorem dX1_heldOn_7 : decode cX1_heldOn 7 = .ok (.istore 4, 2) := by decide +kernel
theorem dX1_heldOn_9 : decode cX1_heldOn 9 = .ok (.iload 4, 2) := by decide +kernel
theorem dX1_heldOn_11 : decode cX1_heldOn 11 = .ok (.ifCond .lt 39, 3) := by decide +kernel
theorem dX1_heldOn_14 : decode cX1_heldOn 14 = .ok (.aload_n 0, 1) := by decide +kernel
theorem dX1_heldOn_15 : decode cX1_heldOn 15 = .ok (.getfield 9, 3) := by decide +kernel
theorem dX1_heldOn_18 : decode cX1_heldOn 18 = .ok (.iload 4, 2) := by decide +kernel
theorem dX1_heldOn_20 : decode cX1_heldOn 20 = .ok (.iaload, 1) := by decide +kernel
theorem dX1_heldOn_21 : decode cX1_heldOn 21 = .ok (.iload_n 1, 1) := by decide +kernel
theorem dX1_heldOn_22 : decode cX1_heldOn 22 = .ok (.if_icmp .ne 22, 3) := by decide +kernel
theorem dX1_heldOn_25 : decode cX1_heldOn 25 = .ok (.aload_n 0, 1) := by decide +kernel
theorem dX1_heldOn_26 : decode cX1_heldOn 26 = .ok (.getfield 15, 3) := by decide +kernel
theorem dX1_heldOn_29 : decode cX1_heldOn 29 = .ok (.iload 4, 2) := by decide +kernel
theorem dX1_heldOn_31 : decode cX1_heldOn 31 = .ok (.iaload, 1) := by decide +kernel
theorem dX1_heldOn_32 : decode cX1_heldOn 32 = .ok (.iload_n 2, 1) := by decide +kernel
theorem dX1_heldOn_33 : decode cX1_heldOn 33 = .ok (.if_icmp .ne 11, 3) := by decide +kernel
theorem dX1_heldOn_36 : decode cX1_heldOn 36 = .ok (.aload_n 0, 1) := by decide +kernel
theorem dX1_heldOn_37 : decode cX1_heldOn 37 = .ok (.getfield 18, 3) := by decide +kernel
theorem dX1_heldOn_40 : decode cX1_heldOn 40 = .ok (.iload 4, 2) := by decide +kernel
theorem dX1_heldOn_42 : decode cX1_heldOn 42 = .ok (.iaload, 1) := by decide +kernel
theorem dX1_heldOn_43 : decode cX1_heldOn 43 = .ok (.ireturn, 1) := by decide +kernel
theorem dX1_heldOn_44 : decode cX1_heldOn 44 = .ok (.iinc 4 (-1), 3) := by decide +kernel
theorem dX1_heldOn_47 : decode cX1_heldOn 47 = .ok (.goto (-38), 3) := by decide +kernel
theorem dX1_heldOn_50 : decode cX1_heldOn 50 = .ok (.iconst 0, 1) := by decide +kernel
theorem dX1_heldOn_51 : decode cX1_heldOn 51 = .ok (.ireturn, 1) := by decide +kernel
set_option maxRecDepth 20000 in
theorem ggX1_mayTie_X1_gatherTies : GoodIn wsX1_mayTie wsX1_gatherTies := goodIn_r _ [6, 1, 7, 8, 9, 10, 11, 12, 13, 14, 27, 28, 29, 30, 31, 32, 33, 34, 35, 36, 37] (by decide +kernel) (by decide +kernel)
set_option maxRecDepth 20000 in
theorem gX1_mayTie_X1_gatherTies : GoodIn wsX1_mayTie (wsV RX1 66 RX1 yX1_gatherTies wsX1_gatherTies) := goodIn_app (goodIn_of _ (by decide +kernel)) ggX1_mayTie_X1_gatherTies
set_option maxRecDepth 20000 in
theorem ggX1_mayTie_X1_isTiedTo : GoodIn wsX1_mayTie wsX1_isTiedTo := goodIn_r _ [18, 19, 20, 21, 5, 22, 1, 27, 28, 29, 30, 31, 32, 33, 34, 35, 36, 37] (by decide +kernel) (by decide +kernel)
set_option maxRecDepth 20000 in
theorem gX1_mayTie_X1_isTiedTo : GoodIn wsX1_mayTie (wsV RX1 69 RX1 yX1_isTiedTo wsX1_isTiedTo) := goodIn_app (goodIn_of _ (by decide +kernel)) ggX1_mayTie_X1_isTiedTo
set_option maxRecDepth 20000 in
theorem ggX1_mayTie_X1_isTooDeep : GoodIn wsX1_mayTie wsX1_isTooDeep := goodIn_r _ [26, 19, 20, 21, 5, 22, 1, 27, 28, 29, 30, 31, 32, 33, 34, 35, 36, 37] (by decide +kernel) (by decide +kernel)
set_option maxRecDepth 20000 in
theorem gX1_mayTie_X1_isTooDeep : GoodIn wsX1_mayTie (wsV RX1 73 RX1 yX1_isTooDeep wsX1_isTooDeep) := goodIn_app (goodIn_of _ (by decide +kernel)) ggX1_mayTie_X1_isTooDeep
theorem dX1_mayTie_0 : decode cX1_mayTie 0 = .ok (.aload_n 0, 1) := by decide +kernel
theorem dX1_mayTie_1 : decode cX1_mayTie 1 = .ok (.invokevirtual 66, 3) := by decide +kernel
theorem dX1_mayTie_4 : decode cX1_mayTie 4 = .ok (.aload_n 0, 1) := by decide +kernel
theorem dX1_mayTie_5 : decode cX1_mayTie 5 = .ok (.getfield 24, 3) := by decide +kernel
theorem dX1_mayTie_8 : decode cX1_mayTie 8 = .ok (.iload_n 1, 1) := by decide +kernel
theorem dX1_mayTie_9 : decode cX1_mayTie 9 = .ok (.dup2, 1) := by decide +kernel
theorem dX1_mayTie_10 : decode cX1_mayTie 10 = .ok (.iaload, 1) := by decide +kernel
theorem dX1_mayTie_11 : decode cX1_mayTie 11 = .ok (.iconst 1, 1) := by decide +kernel
theorem dX1_mayTie_12 : decode cX1_mayTie 12 = .ok (.iload_n 2, 1) := by decide +kernel
theorem dX1_mayTie_13 : decode cX1_mayTie 13 = .ok (.ishl, 1) := by decide +kernel
theorem dX1_mayTie_14 : decode cX1_mayTie 14 = .ok (.ior, 1) := by decide +kernel
theorem dX1_mayTie_15 : decode cX1_mayTie 15 = .ok (.iastore, 1) := by decide +kernel
theorem dX1_mayTie_16 : decode cX1_mayTie 16 = .ok (.aload_n 0, 1) := by decide +kernel
theorem dX1_mayTie_17 : decode cX1_mayTie 17 = .ok (.iload_n 2, 1) := by decide +kernel
theorem dX1_mayTie_18 : decode cX1_mayTie 18 = .ok (.iload_n 1, 1) := by decide +kernel
theorem dX1_mayTie_19 : decode cX1_mayTie 19 = .ok (.invokevirtual 69, 3) := by decide +kernel
theorem dX1_mayTie_22 : decode cX1_mayTie 22 = .ok (.ifCond .ne 14, 3) := by decide +kernel
theorem dX1_mayTie_25 : decode cX1_mayTie 25 = .ok (.aload_n 0, 1) := by decide +kernel
theorem dX1_mayTie_26 : decode cX1_mayTie 26 = .ok (.invokevirtual 73, 3) := by decide +kernel
theorem dX1_mayTie_29 : decode cX1_mayTie 29 = .ok (.ifCond .ne 7, 3) := by decide +kernel
theorem dX1_mayTie_32 : decode cX1_mayTie 32 = .ok (.iconst 1, 1) := by decide +kernel
theorem dX1_mayTie_33 : decode cX1_mayTie 33 = .ok (.goto 4, 3) := by decide +kernel
theorem dX1_mayTie_36 : decode cX1_mayTie 36 = .ok (.iconst 0, 1) := by decide +kernel
theorem dX1_mayTie_37 : decode cX1_mayTie 37 = .ok (.ireturn, 1) := by decide +kernel
set_option maxRecDepth 20000 in
theorem ggX1_shareOn_X1_spanOn : GoodIn wsX1_shareOn wsX1_spanOn := goodIn_r _ [5, 6, 7, 41, 42, 43, 44, 45, 46, 47, 48, 49, 50, 51] (by decide +kernel) (by decide +kernel)
set_option maxRecDepth 20000 in
theorem gX1_shareOn_X1_spanOn : GoodIn wsX1_shareOn (wsV RX1 55 RX1 yX1_spanOn wsX1_spanOn) := goodIn_app (goodIn_of _ (by decide +kernel)) ggX1_shareOn_X1_spanOn
set_option maxRecDepth 20000 in
theorem ggX1_shareOn_X1_shareIn : GoodIn wsX1_shareOn wsX1_shareIn := goodIn_r _ [11, 12, 13, 14, 15, 16, 4, 17, 18, 19, 20, 21, 22, 23, 24, 25, 26, 27, 28, 29, 30, 31, 32, 33, 34, 35, 36, 37, 38, 39, 40, 41, 42, 43, 44, 45, 46, 47, 48, 49, 50, 51] (by decide +kernel) (by decide +kernel)
set_option maxRecDepth 20000 in
theorem gX1_shareOn_X1_shareIn : GoodIn wsX1_shareOn (wsV RX1 77 RX1 yX1_shareIn wsX1_shareIn) := goodIn_app (goodIn_of _ (by decide +kernel)) ggX1_shareOn_X1_shareIn
theorem dX1_shareOn_0 : decode cX1_shareOn 0 = .ok (.aload_n 0, 1) := by decide +kernel
theorem dX1_shareOn_1 : decode cX1_shareOn 1 = .ok (.aload_n 0, 1) := by decide +kernel
theorem dX1_shareOn_2 : decode cX1_shareOn 2 = .ok (.iload_n 2, 1) := by decide +kernel
theorem dX1_shareOn_3 : decode cX1_shareOn 3 = .ok (.invokevirtual 55, 3) := by decide +kernel
theorem dX1_shareOn_6 : decode cX1_shareOn 6 = .ok (.iload_n 1, 1) := by decide +kernel
theorem dX1_shareOn_7 : decode cX1_shareOn 7 = .ok (.invokevirtual 77, 3) := by decide +kernel
theorem dX1_shareOn_10 : decode cX1_shareOn 10 = .ok (.lreturn, 1) := by decide +kernel
set_option maxRecDepth 20000 in
theorem ggX1_sharesSummed_X1_spanOn : GoodIn wsX1_sharesSummed wsX1_spanOn := goodIn_r _ [11, 1, 2, 45, 46, 47, 48, 49, 50, 51, 52, 53, 54, 55] (by decide +kernel) (by decide +kernel)
set_option maxRecDepth 20000 in
theorem gX1_sharesSummed_X1_spanOn : GoodIn wsX1_sharesSummed (wsV RX1 55 RX1 yX1_spanOn wsX1_spanOn) := goodIn_app (goodIn_of _ (by decide +kernel)) ggX1_sharesSummed_X1_spanOn
set_option maxRecDepth 20000 in
theorem ggX1_sharesSummed_X1_shareIn : GoodIn wsX1_sharesSummed wsX1_shareIn := goodIn_r _ [15, 16, 17, 18, 19, 20, 10, 21, 22, 23, 24, 25, 26, 27, 28, 29, 30, 31, 32, 33, 34, 35, 36, 37, 38, 39, 40, 41, 42, 43, 44, 45, 46, 47, 48, 49, 50, 51, 52, 53, 54, 55] (by decide +kernel) (by decide +kernel)
set_option maxRecDepth 20000 in
theorem gX1_sharesSummed_X1_shareIn : GoodIn wsX1_sharesSummed (wsV RX1 77 RX1 yX1_shareIn wsX1_shareIn) := goodIn_app (goodIn_of _ (by decide +kernel)) ggX1_sharesSummed_X1_shareIn
theorem dX1_sharesSummed_0 : decode cX1_sharesSummed 0 = .ok (.lconst 0, 1) := by decide +kernel
theorem dX1_sharesSummed_1 : decode cX1_sharesSummed 1 = .ok (.lstore 4, 2) := by decide +kernel
theorem dX1_sharesSummed_3 : decode cX1_sharesSummed 3 = .ok (.iload_n 2, 1) := by decide +kernel
theorem dX1_sharesSummed_4 : decode cX1_sharesSummed 4 = .ok (.istore 6, 2) := by decide +kernel
theorem dX1_sharesSummed_6 : decode cX1_sharesSummed 6 = .ok (.aload_n 0, 1) := by decide +kernel
theorem dX1_sharesSummed_7 : decode cX1_sharesSummed 7 = .ok (.iload_n 2, 1) := by decide +kernel
theorem dX1_sharesSummed_8 : decode cX1_sharesSummed 8 = .ok (.invokevirtual 55, 3) := by decide +kernel
theorem dX1_sharesSummed_11 : decode cX1_sharesSummed 11 = .ok (.istore 7, 2) := by decide +kernel
theorem dX1_sharesSummed_13 : decode cX1_sharesSummed 13 = .ok (.iload 7, 2) := by decide +kernel
theorem dX1_sharesSummed_15 : decode cX1_sharesSummed 15 = .ok (.aload_n 0, 1) := by decide +kernel
theorem dX1_sharesSummed_16 : decode cX1_sharesSummed 16 = .ok (.getfield 44, 3) := by decide +kernel
theorem dX1_sharesSummed_19 : decode cX1_sharesSummed 19 = .ok (.if_icmp .gt 71, 3) := by decide +kernel
theorem dX1_sharesSummed_22 : decode cX1_sharesSummed 22 = .ok (.iload 7, 2) := by decide +kernel
theorem dX1_sharesSummed_24 : decode cX1_sharesSummed 24 = .ok (.aload_n 0, 1) := by decide +kernel
theorem dX1_sharesSummed_25 : decode cX1_sharesSummed 25 = .ok (.getfield 44, 3) := by decide +kernel
theorem dX1_sharesSummed_28 : decode cX1_sharesSummed 28 = .ok (.if_icmp .ge 19, 3) := by decide +kernel
theorem dX1_sharesSummed_31 : decode cX1_sharesSummed 31 = .ok (.iload_n 3, 1) := by decide +kernel
theorem dX1_sharesSummed_32 : decode cX1_sharesSummed 32 = .ok (.aload_n 0, 1) := by decide +kernel
theorem dX1_sharesSummed_33 : decode cX1_sharesSummed 33 = .ok (.getfield 21, 3) := by decide +kernel
theorem dX1_sharesSummed_36 : decode cX1_sharesSummed 36 = .ok (.iload 7, 2) := by decide +kernel
theorem dX1_sharesSummed_38 : decode cX1_sharesSummed 38 = .ok (.iaload, 1) := by decide +kernel
theorem dX1_sharesSummed_39 : decode cX1_sharesSummed 39 = .ok (.iconst 1, 1) := by decide +kernel
theorem dX1_sharesSummed_40 : decode cX1_sharesSummed 40 = .ok (.isub, 1) := by decide +kernel
theorem dX1_sharesSummed_41 : decode cX1_sharesSummed 41 = .ok (.invokestatic 81, 3) := by decide +kernel
theorem dX1_sharesSummed_44 : decode cX1_sharesSummed 44 = .ok (.goto 4, 3) := by decide +kernel
theorem dX1_sharesSummed_47 : decode cX1_sharesSummed 47 = .ok (.iload_n 3, 1) := by decide +kernel
theorem dX1_sharesSummed_48 : decode cX1_sharesSummed 48 = .ok (.istore 8, 2) := by decide +kernel
theorem dX1_sharesSummed_50 : decode cX1_sharesSummed 50 = .ok (.iload 8, 2) := by decide +kernel
theorem dX1_sharesSummed_52 : decode cX1_sharesSummed 52 = .ok (.iload 6, 2) := by decide +kernel
theorem dX1_sharesSummed_54 : decode cX1_sharesSummed 54 = .ok (.if_icmp .lt 30, 3) := by decide +kernel
theorem dX1_sharesSummed_57 : decode cX1_sharesSummed 57 = .ok (.lload 4, 2) := by decide +kernel
theorem dX1_sharesSummed_59 : decode cX1_sharesSummed 59 = .ok (.aload_n 0, 1) := by decide +kernel
theorem dX1_sharesSummed_60 : decode cX1_sharesSummed 60 = .ok (.iload 7, 2) := by decide +kernel
theorem dX1_sharesSummed_62 : decode cX1_sharesSummed 62 = .ok (.iload_n 1, 1) := by decide +kernel
theorem dX1_sharesSummed_63 : decode cX1_sharesSummed 63 = .ok (.invokevirtual 77, 3) := by decide +kernel
theorem dX1_sharesSummed_66 : decode cX1_sharesSummed 66 = .ok (.iload 8, 2) := by decide +kernel
theorem dX1_sharesSummed_68 : decode cX1_sharesSummed 68 = .ok (.iload 6, 2) := by decide +kernel
theorem dX1_sharesSummed_70 : decode cX1_sharesSummed 70 = .ok (.isub, 1) := by decide +kernel
theorem dX1_sharesSummed_71 : decode cX1_sharesSummed 71 = .ok (.iconst 1, 1) := by decide +kernel
theorem dX1_sharesSummed_72 : decode cX1_sharesSummed 72 = .ok (.iadd, 1) := by decide +kernel
theorem dX1_sharesSummed_73 : decode cX1_sharesSummed 73 = .ok (.i2l, 1) := by decide +kernel
theorem dX1_sharesSummed_74 : decode cX1_sharesSummed 74 = .ok (.lmul, 1) := by decide +kernel
theorem dX1_sharesSummed_75 : decode cX1_sharesSummed 75 = .ok (.ladd, 1) := by decide +kernel
theorem dX1_sharesSummed_76 : decode cX1_sharesSummed 76 = .ok (.lstore 4, 2) := by decide +kernel
theorem dX1_sharesSummed_78 : decode cX1_sharesSummed 78 = .ok (.iload 8, 2) := by decide +kernel
theorem dX1_sharesSummed_80 : decode cX1_sharesSummed 80 = .ok (.iconst 1, 1) := by decide +kernel
theorem dX1_sharesSummed_81 : decode cX1_sharesSummed 81 = .ok (.iadd, 1) := by decide +kernel
theorem dX1_sharesSummed_82 : decode cX1_sharesSummed 82 = .ok (.istore 6, 2) := by decide +kernel
theorem dX1_sharesSummed_84 : decode cX1_sharesSummed 84 = .ok (.iinc 7 1, 3) := by decide +kernel
theorem dX1_sharesSummed_87 : decode cX1_sharesSummed 87 = .ok (.goto (-74), 3) := by decide +kernel
theorem dX1_sharesSummed_90 : decode cX1_sharesSummed 90 = .ok (.lload 4, 2) := by decide +kernel
theorem dX1_sharesSummed_92 : decode cX1_sharesSummed 92 = .ok (.lreturn, 1) := by decide +kernel
theorem dX1_placeOf_0 : decode cX1_placeOf 0 = .ok (.iconst 0, 1) := by decide +kernel
theorem dX1_placeOf_1 : decode cX1_placeOf 1 = .ok (.istore 4, 2) := by decide +kernel
theorem dX1_placeOf_3 : decode cX1_placeOf 3 = .ok (.iload 4, 2) := by decide +kernel
theorem dX1_placeOf_5 : decode cX1_placeOf 5 = .ok (.aload_n 0, 1) := by decide +kernel
theorem dX1_placeOf_6 : decode cX1_placeOf 6 = .ok (.getfield 44, 3) := by decide +kernel
theorem dX1_placeOf_9 : decode cX1_placeOf 9 = .ok (.if_icmp .ge 45, 3) := by decide +kernel
theorem dX1_placeOf_12 : decode cX1_placeOf 12 = .ok (.aload_n 0, 1) := by decide +kernel
theorem dX1_placeOf_13 : decode cX1_placeOf 13 = .ok (.getfield 9, 3) := by decide +kernel
theorem dX1_placeOf_16 : decode cX1_placeOf 16 = .ok (.iload 4, 2) := by decide +kernel
theorem dX1_placeOf_18 : decode cX1_placeOf 18 = .ok (.iaload, 1) := by decide +kernel
theorem dX1_placeOf_19 : decode cX1_placeOf 19 = .ok (.iload_n 1, 1) := by decide +kernel
theorem dX1_placeOf_20 : decode cX1_placeOf 20 = .ok (.if_icmp .ne 28, 3) := by decide +kernel
theorem dX1_placeOf_23 : decode cX1_placeOf 23 = .ok (.aload_n 0, 1) := by decide +kernel
theorem dX1_placeOf_24 : decode cX1_placeOf 24 = .ok (.getfield 15, 3) := by decide +kernel
theorem dX1_placeOf_27 : decode cX1_placeOf 27 = .ok (.iload 4, 2) := by decide +kernel
theorem dX1_placeOf_29 : decode cX1_placeOf 29 = .ok (.iaload, 1) := by decide +kernel
theorem dX1_placeOf_30 : decode cX1_placeOf 30 = .ok (.iload_n 2, 1) := by decide +kernel
theorem dX1_placeOf_31 : decode cX1_placeOf 31 = .ok (.if_icmp .ne 17, 3) := by decide +kernel
theorem dX1_placeOf_34 : decode cX1_placeOf 34 = .ok (.aload_n 0, 1) := by decide +kernel
theorem dX1_placeOf_35 : decode cX1_placeOf 35 = .ok (.getfield 21, 3) := by decide +kernel
theorem dX1_placeOf_38 : decode cX1_placeOf 38 = .ok (.iload 4, 2) := by decide +kernel
theorem dX1_placeOf_40 : decode cX1_placeOf 40 = .ok (.iaload, 1) := by decide +kernel
theorem dX1_placeOf_41 : decode cX1_placeOf 41 = .ok (.iload_n 3, 1) := by decide +kernel
theorem dX1_placeOf_42 : decode cX1_placeOf 42 = .ok (.if_icmp .ne 6, 3) := by decide +kernel
theorem dX1_placeOf_45 : decode cX1_placeOf 45 = .ok (.iload 4, 2) := by decide +kernel
theorem dX1_placeOf_47 : decode cX1_placeOf 47 = .ok (.ireturn, 1) := by decide +kernel
theorem dX1_placeOf_48 : decode cX1_placeOf 48 = .ok (.iinc 4 1, 3) := by decide +kernel
theorem dX1_placeOf_51 : decode cX1_placeOf 51 = .ok (.goto (-48), 3) := by decide +kernel
theorem dX1_placeOf_54 : decode cX1_placeOf 54 = .ok (.bipush (-9), 2) := by decide +kernel
theorem dX1_placeOf_56 : decode cX1_placeOf 56 = .ok (.ireturn, 1) := by decide +kernel
theorem dX1_spanOn_0 : decode cX1_spanOn 0 = .ok (.iconst 0, 1) := by decide +kernel
theorem dX1_spanOn_1 : decode cX1_spanOn 1 = .ok (.istore_n 2, 1) := by decide +kernel
theorem dX1_spanOn_2 : decode cX1_spanOn 2 = .ok (.iload_n 2, 1) := by decide +kernel
theorem dX1_spanOn_3 : decode cX1_spanOn 3 = .ok (.aload_n 0, 1) := by decide +kernel
theorem dX1_spanOn_4 : decode cX1_spanOn 4 = .ok (.getfield 44, 3) := by decide +kernel
theorem dX1_spanOn_7 : decode cX1_spanOn 7 = .ok (.if_icmp .ge 19, 3) := by decide +kernel
theorem dX1_spanOn_10 : decode cX1_spanOn 10 = .ok (.aload_n 0, 1) := by decide +kernel
theorem dX1_spanOn_11 : decode cX1_spanOn 11 = .ok (.getfield 21, 3) := by decide +kernel
theorem dX1_spanOn_14 : decode cX1_spanOn 14 = .ok (.iload_n 2, 1) := by decide +kernel
theorem dX1_spanOn_15 : decode cX1_spanOn 15 = .ok (.iaload, 1) := by decide +kernel
theorem dX1_spanOn_16 : decode cX1_spanOn 16 = .ok (.iload_n 1, 1) := by decide +kernel
theorem dX1_spanOn_17 : decode cX1_spanOn 17 = .ok (.if_icmp .gt 9, 3) := by decide +kernel
theorem dX1_spanOn_20 : decode cX1_spanOn 20 = .ok (.iinc 2 1, 3) := by decide +kernel
theorem dX1_spanOn_23 : decode cX1_spanOn 23 = .ok (.goto (-21), 3) := by decide +kernel
theorem dX1_spanOn_26 : decode cX1_spanOn 26 = .ok (.iload_n 2, 1) := by decide +kernel
theorem dX1_spanOn_27 : decode cX1_spanOn 27 = .ok (.ireturn, 1) := by decide +kernel
theorem dX1_makeRoomAt_0 : decode cX1_makeRoomAt 0 = .ok (.aload_n 0, 1) := by decide +kernel
theorem dX1_makeRoomAt_1 : decode cX1_makeRoomAt 1 = .ok (.getfield 44, 3) := by decide +kernel
theorem dX1_makeRoomAt_4 : decode cX1_makeRoomAt 4 = .ok (.iload_n 1, 1) := by decide +kernel
theorem dX1_makeRoomAt_5 : decode cX1_makeRoomAt 5 = .ok (.isub, 1) := by decide +kernel
theorem dX1_makeRoomAt_6 : decode cX1_makeRoomAt 6 = .ok (.istore_n 2, 1) := by decide +kernel
theorem dX1_makeRoomAt_7 : decode cX1_makeRoomAt 7 = .ok (.aload_n 0, 1) := by decide +kernel
theorem dX1_makeRoomAt_8 : decode cX1_makeRoomAt 8 = .ok (.getfield 9, 3) := by decide +kernel
theorem dX1_makeRoomAt_11 : decode cX1_makeRoomAt 11 = .ok (.iload_n 1, 1) := by decide +kernel
theorem dX1_makeRoomAt_12 : decode cX1_makeRoomAt 12 = .ok (.aload_n 0, 1) := by decide +kernel
theorem dX1_makeRoomAt_13 : decode cX1_makeRoomAt 13 = .ok (.getfield 9, 3) := by decide +kernel
theorem dX1_makeRoomAt_16 : decode cX1_makeRoomAt 16 = .ok (.iload_n 1, 1) := by decide +kernel
theorem dX1_makeRoomAt_17 : decode cX1_makeRoomAt 17 = .ok (.iconst 1, 1) := by decide +kernel
theorem dX1_makeRoomAt_18 : decode cX1_makeRoomAt 18 = .ok (.iadd, 1) := by decide +kernel
theorem dX1_makeRoomAt_19 : decode cX1_makeRoomAt 19 = .ok (.iload_n 2, 1) := by decide +kernel
theorem dX1_makeRoomAt_20 : decode cX1_makeRoomAt 20 = .ok (.invokestatic 87, 3) := by decide +kernel
theorem dX1_makeRoomAt_23 : decode cX1_makeRoomAt 23 = .ok (.aload_n 0, 1) := by decide +kernel
theorem dX1_makeRoomAt_24 : decode cX1_makeRoomAt 24 = .ok (.getfield 15, 3) := by decide +kernel
theorem dX1_makeRoomAt_27 : decode cX1_makeRoomAt 27 = .ok (.iload_n 1, 1) := by decide +kernel
theorem dX1_makeRoomAt_28 : decode cX1_makeRoomAt 28 = .ok (.aload_n 0, 1) := by decide +kernel
theorem dX1_makeRoomAt_29 : decode cX1_makeRoomAt 29 = .ok (.getfield 15, 3) := by decide +kernel
theorem dX1_makeRoomAt_32 : decode cX1_makeRoomAt 32 = .ok (.iload_n 1, 1) := by decide +kernel
theorem dX1_makeRoomAt_33 : decode cX1_makeRoomAt 33 = .ok (.iconst 1, 1) := by decide +kernel
theorem dX1_makeRoomAt_34 : decode cX1_makeRoomAt 34 = .ok (.iadd, 1) := by decide +kernel
theorem dX1_makeRoomAt_35 : decode cX1_makeRoomAt 35 = .ok (.iload_n 2, 1) := by decide +kernel
theorem dX1_makeRoomAt_36 : decode cX1_makeRoomAt 36 = .ok (.invokestatic 87, 3) := by decide +kernel
theorem dX1_makeRoomAt_39 : decode cX1_makeRoomAt 39 = .ok (.aload_n 0, 1) := by decide +kernel
theorem dX1_makeRoomAt_40 : decode cX1_makeRoomAt 40 = .ok (.getfield 18, 3) := by decide +kernel
theorem dX1_makeRoomAt_43 : decode cX1_makeRoomAt 43 = .ok (.iload_n 1, 1) := by decide +kernel
theorem dX1_makeRoomAt_44 : decode cX1_makeRoomAt 44 = .ok (.aload_n 0, 1) := by decide +kernel
theorem dX1_makeRoomAt_45 : decode cX1_makeRoomAt 45 = .ok (.getfield 18, 3) := by decide +kernel
theorem dX1_makeRoomAt_48 : decode cX1_makeRoomAt 48 = .ok (.iload_n 1, 1) := by decide +kernel
theorem dX1_makeRoomAt_49 : decode cX1_makeRoomAt 49 = .ok (.iconst 1, 1) := by decide +kernel
theorem dX1_makeRoomAt_50 : decode cX1_makeRoomAt 50 = .ok (.iadd, 1) := by decide +kernel
theorem dX1_makeRoomAt_51 : decode cX1_makeRoomAt 51 = .ok (.iload_n 2, 1) := by decide +kernel
theorem dX1_makeRoomAt_52 : decode cX1_makeRoomAt 52 = .ok (.invokestatic 87, 3) := by decide +kernel
theorem dX1_makeRoomAt_55 : decode cX1_makeRoomAt 55 = .ok (.aload_n 0, 1) := by decide +kernel
theorem dX1_makeRoomAt_56 : decode cX1_makeRoomAt 56 = .ok (.getfield 21, 3) := by decide +kernel
theorem dX1_makeRoomAt_59 : decode cX1_makeRoomAt 59 = .ok (.iload_n 1, 1) := by decide +kernel
theorem dX1_makeRoomAt_60 : decode cX1_makeRoomAt 60 = .ok (.aload_n 0, 1) := by decide +kernel
theorem dX1_makeRoomAt_61 : decode cX1_makeRoomAt 61 = .ok (.getfield 21, 3) := by decide +kernel
theorem dX1_makeRoomAt_64 : decode cX1_makeRoomAt 64 = .ok (.iload_n 1, 1) := by decide +kernel
theorem dX1_makeRoomAt_65 : decode cX1_makeRoomAt 65 = .ok (.iconst 1, 1) := by decide +kernel
theorem dX1_makeRoomAt_66 : decode cX1_makeRoomAt 66 = .ok (.iadd, 1) := by decide +kernel
theorem dX1_makeRoomAt_67 : decode cX1_makeRoomAt 67 = .ok (.iload_n 2, 1) := by decide +kernel
theorem dX1_makeRoomAt_68 : decode cX1_makeRoomAt 68 = .ok (.invokestatic 87, 3) := by decide +kernel
theorem dX1_makeRoomAt_71 : decode cX1_makeRoomAt 71 = .ok (.aload_n 0, 1) := by decide +kernel
theorem dX1_makeRoomAt_72 : decode cX1_makeRoomAt 72 = .ok (.dup, 1) := by decide +kernel
theorem dX1_makeRoomAt_73 : decode cX1_makeRoomAt 73 = .ok (.getfield 44, 3) := by decide +kernel
theorem dX1_makeRoomAt_76 : decode cX1_makeRoomAt 76 = .ok (.iconst 1, 1) := by decide +kernel
theorem dX1_makeRoomAt_77 : decode cX1_makeRoomAt 77 = .ok (.iadd, 1) := by decide +kernel
theorem dX1_makeRoomAt_78 : decode cX1_makeRoomAt 78 = .ok (.putfield 44, 3) := by decide +kernel
theorem dX1_makeRoomAt_81 : decode cX1_makeRoomAt 81 = .ok (.return_, 1) := by decide +kernel
set_option maxRecDepth 20000 in
theorem ggX1_gatherTies_J7_fill_53178 : GoodIn wsX1_gatherTies wsJ7_fill_53178 := goodIn_r _ [9] (by decide +kernel) (by decide +kernel)
set_option maxRecDepth 20000 in
theorem gX1_gatherTies_J7_fill_53178 : GoodIn wsX1_gatherTies (va_wsS RX1 93 yJ7_fill_53178 wsJ7_fill_53178) := goodIn_app (goodIn_of _ (by decide +kernel)) ggX1_gatherTies_J7_fill_53178
theorem dX1_gatherTies_0 : decode cX1_gatherTies 0 = .ok (.aload_n 0, 1) := by decide +kernel
theorem dX1_gatherTies_1 : decode cX1_gatherTies 1 = .ok (.getfield 24, 3) := by decide +kernel
theorem dX1_gatherTies_4 : decode cX1_gatherTies 4 = .ok (.iconst 0, 1) := by decide +kernel
theorem dX1_gatherTies_5 : decode cX1_gatherTies 5 = .ok (.invokestatic 93, 3) := by decide +kernel
theorem dX1_gatherTies_8 : decode cX1_gatherTies 8 = .ok (.iconst 0, 1) := by decide +kernel
theorem dX1_gatherTies_9 : decode cX1_gatherTies 9 = .ok (.istore_n 1, 1) := by decide +kernel
theorem dX1_gatherTies_10 : decode cX1_gatherTies 10 = .ok (.iload_n 1, 1) := by decide +kernel
theorem dX1_gatherTies_11 : decode cX1_gatherTies 11 = .ok (.aload_n 0, 1) := by decide +kernel
theorem dX1_gatherTies_12 : decode cX1_gatherTies 12 = .ok (.getfield 44, 3) := by decide +kernel
theorem dX1_gatherTies_15 : decode cX1_gatherTies 15 = .ok (.if_icmp .ge 40, 3) := by decide +kernel
theorem dX1_gatherTies_18 : decode cX1_gatherTies 18 = .ok (.aload_n 0, 1) := by decide +kernel
theorem dX1_gatherTies_19 : decode cX1_gatherTies 19 = .ok (.getfield 18, 3) := by decide +kernel
theorem dX1_gatherTies_22 : decode cX1_gatherTies 22 = .ok (.iload_n 1, 1) := by decide +kernel
theorem dX1_gatherTies_23 : decode cX1_gatherTies 23 = .ok (.iaload, 1) := by decide +kernel
theorem dX1_gatherTies_24 : decode cX1_gatherTies 24 = .ok (.ifCond .le 25, 3) := by decide +kernel
theorem dX1_gatherTies_27 : decode cX1_gatherTies 27 = .ok (.aload_n 0, 1) := by decide +kernel
theorem dX1_gatherTies_28 : decode cX1_gatherTies 28 = .ok (.getfield 24, 3) := by decide +kernel
theorem dX1_gatherTies_31 : decode cX1_gatherTies 31 = .ok (.aload_n 0, 1) := by decide +kernel
theorem dX1_gatherTies_32 : decode cX1_gatherTies 32 = .ok (.getfield 9, 3) := by decide +kernel
theorem dX1_gatherTies_35 : decode cX1_gatherTies 35 = .ok (.iload_n 1, 1) := by decide +kernel
theorem dX1_gatherTies_36 : decode cX1_gatherTies 36 = .ok (.iaload, 1) := by decide +kernel
theorem dX1_gatherTies_37 : decode cX1_gatherTies 37 = .ok (.dup2, 1) := by decide +kernel
theorem dX1_gatherTies_38 : decode cX1_gatherTies 38 = .ok (.iaload, 1) := by decide +kernel
theorem dX1_gatherTies_39 : decode cX1_gatherTies 39 = .ok (.iconst 1, 1) := by decide +kernel
theorem dX1_gatherTies_40 : decode cX1_gatherTies 40 = .ok (.aload_n 0, 1) := by decide +kernel
theorem dX1_gatherTies_41 : decode cX1_gatherTies 41 = .ok (.getfield 15, 3) := by decide +kernel
theorem dX1_gatherTies_44 : decode cX1_gatherTies 44 = .ok (.iload_n 1, 1) := by decide +kernel
theorem dX1_gatherTies_45 : decode cX1_gatherTies 45 = .ok (.iaload, 1) := by decide +kernel
theorem dX1_gatherTies_46 : decode cX1_gatherTies 46 = .ok (.ishl, 1) := by decide +kernel
theorem dX1_gatherTies_47 : decode cX1_gatherTies 47 = .ok (.ior, 1) := by decide +kernel
theorem dX1_gatherTies_48 : decode cX1_gatherTies 48 = .ok (.iastore, 1) := by decide +kernel
theorem dX1_gatherTies_49 : decode cX1_gatherTies 49 = .ok (.iinc 1 1, 3) := by decide +kernel
theorem dX1_gatherTies_52 : decode cX1_gatherTies 52 = .ok (.goto (-42), 3) := by decide +kernel
theorem dX1_gatherTies_55 : decode cX1_gatherTies 55 = .ok (.return_, 1) := by decide +kernel
theorem dX1_tiedToAnyOf_0 : decode cX1_tiedToAnyOf 0 = .ok (.iconst 0, 1) := by decide +kernel
theorem dX1_tiedToAnyOf_1 : decode cX1_tiedToAnyOf 1 = .ok (.istore_n 2, 1) := by decide +kernel
theorem dX1_tiedToAnyOf_2 : decode cX1_tiedToAnyOf 2 = .ok (.iconst 0, 1) := by decide +kernel
theorem dX1_tiedToAnyOf_3 : decode cX1_tiedToAnyOf 3 = .ok (.istore_n 3, 1) := by decide +kernel
theorem dX1_tiedToAnyOf_4 : decode cX1_tiedToAnyOf 4 = .ok (.iload_n 3, 1) := by decide +kernel
theorem dX1_tiedToAnyOf_5 : decode cX1_tiedToAnyOf 5 = .ok (.bipush 10, 2) := by decide +kernel
theorem dX1_tiedToAnyOf_7 : decode cX1_tiedToAnyOf 7 = .ok (.if_icmp .ge 26, 3) := by decide +kernel
theorem dX1_tiedToAnyOf_10 : decode cX1_tiedToAnyOf 10 = .ok (.iload_n 1, 1) := by decide +kernel
theorem dX1_tiedToAnyOf_11 : decode cX1_tiedToAnyOf 11 = .ok (.iconst 1, 1) := by decide +kernel
theorem dX1_tiedToAnyOf_12 : decode cX1_tiedToAnyOf 12 = .ok (.iload_n 3, 1) := by decide +kernel
theorem dX1_tiedToAnyOf_13 : decode cX1_tiedToAnyOf 13 = .ok (.ishl, 1) := by decide +kernel
theorem dX1_tiedToAnyOf_14 : decode cX1_tiedToAnyOf 14 = .ok (.iand, 1) := by decide +kernel
theorem dX1_tiedToAnyOf_15 : decode cX1_tiedToAnyOf 15 = .ok (.ifCond .eq 12, 3) := by decide +kernel
theorem dX1_tiedToAnyOf_18 : decode cX1_tiedToAnyOf 18 = .ok (.iload_n 2, 1) := by decide +kernel
theorem dX1_tiedToAnyOf_19 : decode cX1_tiedToAnyOf 19 = .ok (.aload_n 0, 1) := by decide +kernel
theorem dX1_tiedToAnyOf_20 : decode cX1_tiedToAnyOf 20 = .ok (.getfield 24, 3) := by decide +kernel
theorem dX1_tiedToAnyOf_23 : decode cX1_tiedToAnyOf 23 = .ok (.iload_n 3, 1) := by decide +kernel
theorem dX1_tiedToAnyOf_24 : decode cX1_tiedToAnyOf 24 = .ok (.iaload, 1) := by decide +kernel
theorem dX1_tiedToAnyOf_25 : decode cX1_tiedToAnyOf 25 = .ok (.ior, 1) := by decide +kernel
theorem dX1_tiedToAnyOf_26 : decode cX1_tiedToAnyOf 26 = .ok (.istore_n 2, 1) := by decide +kernel
theorem dX1_tiedToAnyOf_27 : decode cX1_tiedToAnyOf 27 = .ok (.iinc 3 1, 3) := by decide +kernel
theorem dX1_tiedToAnyOf_30 : decode cX1_tiedToAnyOf 30 = .ok (.goto (-26), 3) := by decide +kernel
theorem dX1_tiedToAnyOf_33 : decode cX1_tiedToAnyOf 33 = .ok (.iload_n 2, 1) := by decide +kernel
theorem dX1_tiedToAnyOf_34 : decode cX1_tiedToAnyOf 34 = .ok (.ireturn, 1) := by decide +kernel
set_option maxRecDepth 20000 in
theorem ggX1_isTiedTo_X1_tiedToAnyOf : GoodIn wsX1_isTiedTo wsX1_tiedToAnyOf := goodIn_r _ [5, 6, 7, 8, 9, 10, 11, 12, 13, 14, 15, 16, 17] (by decide +kernel) (by decide +kernel)
set_option maxRecDepth 20000 in
theorem gX1_isTiedTo_X1_tiedToAnyOf : GoodIn wsX1_isTiedTo (wsV RX1 99 RX1 yX1_tiedToAnyOf wsX1_tiedToAnyOf) := goodIn_app (goodIn_of _ (by decide +kernel)) ggX1_isTiedTo_X1_tiedToAnyOf
theorem dX1_isTiedTo_0 : decode cX1_isTiedTo 0 = .ok (.iconst 1, 1) := by decide +kernel
theorem dX1_isTiedTo_1 : decode cX1_isTiedTo 1 = .ok (.iload_n 1, 1) := by decide +kernel
theorem dX1_isTiedTo_2 : decode cX1_isTiedTo 2 = .ok (.ishl, 1) := by decide +kernel
theorem dX1_isTiedTo_3 : decode cX1_isTiedTo 3 = .ok (.istore_n 3, 1) := by decide +kernel
theorem dX1_isTiedTo_4 : decode cX1_isTiedTo 4 = .ok (.iconst 1, 1) := by decide +kernel
theorem dX1_isTiedTo_5 : decode cX1_isTiedTo 5 = .ok (.istore 4, 2) := by decide +kernel
theorem dX1_isTiedTo_7 : decode cX1_isTiedTo 7 = .ok (.iload 4, 2) := by decide +kernel
theorem dX1_isTiedTo_9 : decode cX1_isTiedTo 9 = .ok (.bipush 10, 2) := by decide +kernel
theorem dX1_isTiedTo_11 : decode cX1_isTiedTo 11 = .ok (.if_icmp .ge 17, 3) := by decide +kernel
theorem dX1_isTiedTo_14 : decode cX1_isTiedTo 14 = .ok (.iload_n 3, 1) := by decide +kernel
theorem dX1_isTiedTo_15 : decode cX1_isTiedTo 15 = .ok (.aload_n 0, 1) := by decide +kernel
theorem dX1_isTiedTo_16 : decode cX1_isTiedTo 16 = .ok (.iload_n 3, 1) := by decide +kernel
theorem dX1_isTiedTo_17 : decode cX1_isTiedTo 17 = .ok (.invokevirtual 99, 3) := by decide +kernel
theorem dX1_isTiedTo_20 : decode cX1_isTiedTo 20 = .ok (.ior, 1) := by decide +kernel
theorem dX1_isTiedTo_21 : decode cX1_isTiedTo 21 = .ok (.istore_n 3, 1) := by decide +kernel
theorem dX1_isTiedTo_22 : decode cX1_isTiedTo 22 = .ok (.iinc 4 1, 3) := by decide +kernel
theorem dX1_isTiedTo_25 : decode cX1_isTiedTo 25 = .ok (.goto (-18), 3) := by decide +kernel
theorem dX1_isTiedTo_28 : decode cX1_isTiedTo 28 = .ok (.iload_n 3, 1) := by decide +kernel
theorem dX1_isTiedTo_29 : decode cX1_isTiedTo 29 = .ok (.iconst 1, 1) := by decide +kernel
theorem dX1_isTiedTo_30 : decode cX1_isTiedTo 30 = .ok (.iload_n 2, 1) := by decide +kernel
theorem dX1_isTiedTo_31 : decode cX1_isTiedTo 31 = .ok (.ishl, 1) := by decide +kernel
theorem dX1_isTiedTo_32 : decode cX1_isTiedTo 32 = .ok (.iand, 1) := by decide +kernel
theorem dX1_isTiedTo_33 : decode cX1_isTiedTo 33 = .ok (.ifCond .eq 7, 3) := by decide +kernel
theorem dX1_isTiedTo_36 : decode cX1_isTiedTo 36 = .ok (.iconst 1, 1) := by decide +kernel
theorem dX1_isTiedTo_37 : decode cX1_isTiedTo 37 = .ok (.goto 4, 3) := by decide +kernel
theorem dX1_isTiedTo_40 : decode cX1_isTiedTo 40 = .ok (.iconst 0, 1) := by decide +kernel
theorem dX1_isTiedTo_41 : decode cX1_isTiedTo 41 = .ok (.ireturn, 1) := by decide +kernel
set_option maxRecDepth 20000 in
theorem ggX1_isTooDeep_X1_tiedToAnyOf : GoodIn wsX1_isTooDeep wsX1_tiedToAnyOf := goodIn_r _ [5, 6, 7, 8, 9, 10, 11, 12, 13, 14, 15, 16, 17] (by decide +kernel) (by decide +kernel)
set_option maxRecDepth 20000 in
theorem gX1_isTooDeep_X1_tiedToAnyOf : GoodIn wsX1_isTooDeep (wsV RX1 99 RX1 yX1_tiedToAnyOf wsX1_tiedToAnyOf) := goodIn_app (goodIn_of _ (by decide +kernel)) ggX1_isTooDeep_X1_tiedToAnyOf
theorem dX1_isTooDeep_0 : decode cX1_isTooDeep 0 = .ok (.iconst 1, 1) := by decide +kernel
theorem dX1_isTooDeep_1 : decode cX1_isTooDeep 1 = .ok (.istore_n 1, 1) := by decide +kernel
theorem dX1_isTooDeep_2 : decode cX1_isTooDeep 2 = .ok (.iconst 0, 1) := by decide +kernel
theorem dX1_isTooDeep_3 : decode cX1_isTooDeep 3 = .ok (.istore_n 2, 1) := by decide +kernel
theorem dX1_isTooDeep_4 : decode cX1_isTooDeep 4 = .ok (.iload_n 2, 1) := by decide +kernel
theorem dX1_isTooDeep_5 : decode cX1_isTooDeep 5 = .ok (.iconst 3, 1) := by decide +kernel
theorem dX1_isTooDeep_6 : decode cX1_isTooDeep 6 = .ok (.if_icmp .gt 15, 3) := by decide +kernel
theorem dX1_isTooDeep_9 : decode cX1_isTooDeep 9 = .ok (.aload_n 0, 1) := by decide +kernel
theorem dX1_isTooDeep_10 : decode cX1_isTooDeep 10 = .ok (.iload_n 1, 1) := by decide +kernel
theorem dX1_isTooDeep_11 : decode cX1_isTooDeep 11 = .ok (.invokevirtual 99, 3) := by decide +kernel
theorem dX1_isTooDeep_14 : decode cX1_isTooDeep 14 = .ok (.istore_n 1, 1) := by decide +kernel
theorem dX1_isTooDeep_15 : decode cX1_isTooDeep 15 = .ok (.iinc 2 1, 3) := by decide +kernel
theorem dX1_isTooDeep_18 : decode cX1_isTooDeep 18 = .ok (.goto (-14), 3) := by decide +kernel
theorem dX1_isTooDeep_21 : decode cX1_isTooDeep 21 = .ok (.iload_n 1, 1) := by decide +kernel
theorem dX1_isTooDeep_22 : decode cX1_isTooDeep 22 = .ok (.ifCond .eq 7, 3) := by decide +kernel
theorem dX1_isTooDeep_25 : decode cX1_isTooDeep 25 = .ok (.iconst 1, 1) := by decide +kernel
theorem dX1_isTooDeep_26 : decode cX1_isTooDeep 26 = .ok (.goto 4, 3) := by decide +kernel
theorem dX1_isTooDeep_29 : decode cX1_isTooDeep 29 = .ok (.iconst 0, 1) := by decide +kernel
theorem dX1_isTooDeep_30 : decode cX1_isTooDeep 30 = .ok (.ireturn, 1) := by decide +kernel
theorem dX1_forgetSpans_0 : decode cX1_forgetSpans 0 = .ok (.iconst 0, 1) := by decide +kernel
theorem dX1_forgetSpans_1 : decode cX1_forgetSpans 1 = .ok (.istore_n 1, 1) := by decide +kernel
theorem dX1_forgetSpans_2 : decode cX1_forgetSpans 2 = .ok (.iload_n 1, 1) := by decide +kernel
theorem dX1_forgetSpans_3 : decode cX1_forgetSpans 3 = .ok (.bipush 100, 2) := by decide +kernel
theorem dX1_forgetSpans_5 : decode cX1_forgetSpans 5 = .ok (.if_icmp .gt 16, 3) := by decide +kernel
theorem dX1_forgetSpans_8 : decode cX1_forgetSpans 8 = .ok (.aload_n 0, 1) := by decide +kernel
theorem dX1_forgetSpans_9 : decode cX1_forgetSpans 9 = .ok (.getfield 27, 3) := by decide +kernel
theorem dX1_forgetSpans_12 : decode cX1_forgetSpans 12 = .ok (.iload_n 1, 1) := by decide +kernel
theorem dX1_forgetSpans_13 : decode cX1_forgetSpans 13 = .ok (.iconst 0, 1) := by decide +kernel
theorem dX1_forgetSpans_14 : decode cX1_forgetSpans 14 = .ok (.bastore, 1) := by decide +kernel
theorem dX1_forgetSpans_15 : decode cX1_forgetSpans 15 = .ok (.iinc 1 1, 3) := by decide +kernel
theorem dX1_forgetSpans_18 : decode cX1_forgetSpans 18 = .ok (.goto (-16), 3) := by decide +kernel
theorem dX1_forgetSpans_21 : decode cX1_forgetSpans 21 = .ok (.return_, 1) := by decide +kernel
set_option maxRecDepth 20000 in
theorem ggX1_shareIn_X1_makeSpan : GoodIn wsX1_shareIn wsX1_makeSpan := goodIn_r _ [7, 8, 9, 10, 11, 12, 13, 2, 14, 15, 16, 17, 18, 1, 19, 20, 21, 22, 23, 24, 25, 26, 27, 28, 6, 29, 30, 31, 32, 33, 34, 35, 36, 37, 38, 39, 40, 41] (by decide +kernel) (by decide +kernel)
set_option maxRecDepth 20000 in
theorem gX1_shareIn_X1_makeSpan : GoodIn wsX1_shareIn (wsV RX1 102 RX1 yX1_makeSpan wsX1_makeSpan) := goodIn_app (goodIn_of _ (by decide +kernel)) ggX1_shareIn_X1_makeSpan
theorem dX1_shareIn_0 : decode cX1_shareIn 0 = .ok (.aload_n 0, 1) := by decide +kernel
theorem dX1_shareIn_1 : decode cX1_shareIn 1 = .ok (.getfield 27, 3) := by decide +kernel
theorem dX1_shareIn_4 : decode cX1_shareIn 4 = .ok (.iload_n 1, 1) := by decide +kernel
theorem dX1_shareIn_5 : decode cX1_shareIn 5 = .ok (.baload, 1) := by decide +kernel
theorem dX1_shareIn_6 : decode cX1_shareIn 6 = .ok (.ifCond .ne 8, 3) := by decide +kernel
theorem dX1_shareIn_9 : decode cX1_shareIn 9 = .ok (.aload_n 0, 1) := by decide +kernel
theorem dX1_shareIn_10 : decode cX1_shareIn 10 = .ok (.iload_n 1, 1) := by decide +kernel
theorem dX1_shareIn_11 : decode cX1_shareIn 11 = .ok (.invokevirtual 102, 3) := by decide +kernel
theorem dX1_shareIn_14 : decode cX1_shareIn 14 = .ok (.aload_n 0, 1) := by decide +kernel
theorem dX1_shareIn_15 : decode cX1_shareIn 15 = .ok (.getfield 31, 3) := by decide +kernel
theorem dX1_shareIn_18 : decode cX1_shareIn 18 = .ok (.iload_n 1, 1) := by decide +kernel
theorem dX1_shareIn_19 : decode cX1_shareIn 19 = .ok (.bipush 10, 2) := by decide +kernel
theorem dX1_shareIn_21 : decode cX1_shareIn 21 = .ok (.imul, 1) := by decide +kernel
theorem dX1_shareIn_22 : decode cX1_shareIn 22 = .ok (.iload_n 2, 1) := by decide +kernel
theorem dX1_shareIn_23 : decode cX1_shareIn 23 = .ok (.iadd, 1) := by decide +kernel
theorem dX1_shareIn_24 : decode cX1_shareIn 24 = .ok (.laload, 1) := by decide +kernel
theorem dX1_shareIn_25 : decode cX1_shareIn 25 = .ok (.lreturn, 1) := by decide +kernel
set_option maxRecDepth 20000 in
theorem ggX1_makeSpan_J7_fill_53178 : GoodIn wsX1_makeSpan wsJ7_fill_53178 := goodIn_r _ [17] (by decide +kernel) (by decide +kernel)
set_option maxRecDepth 20000 in
theorem gX1_makeSpan_J7_fill_53178 : GoodIn wsX1_makeSpan (va_wsS RX1 93 yJ7_fill_53178 wsJ7_fill_53178) := goodIn_app (goodIn_of _ (by decide +kernel)) ggX1_makeSpan_J7_fill_53178
set_option maxRecDepth 20000 in
theorem ggX1_makeSpan_J7_fill_d0a16 : GoodIn wsX1_makeSpan wsJ7_fill_d0a16 := goodIn_r _ [20] (by decide +kernel) (by decide +kernel)
set_option maxRecDepth 20000 in
theorem gX1_makeSpan_J7_fill_d0a16 : GoodIn wsX1_makeSpan (va_wsS RX1 105 yJ7_fill_d0a16 wsJ7_fill_d0a16) := goodIn_app (goodIn_of _ (by decide +kernel)) ggX1_makeSpan_J7_fill_d0a16
set_option maxRecDepth 20000 in
theorem ggX1_makeSpan_X1_lookOneStepAhead : GoodIn wsX1_makeSpan wsX1_lookOneStepAhead := goodIn_r _ [25, 5, 1, 12, 26, 27, 28, 29, 30, 31, 32, 33, 34, 35, 36, 37] (by decide +kernel) (by decide +kernel)
set_option maxRecDepth 20000 in
theorem gX1_makeSpan_X1_lookOneStepAhead : GoodIn wsX1_makeSpan (wsV RX1 110 RX1 yX1_lookOneStepAhead wsX1_lookOneStepAhead) := goodIn_app (goodIn_of _ (by decide +kernel)) ggX1_makeSpan_X1_lookOneStepAhead
theorem dX1_makeSpan_0 : decode cX1_makeSpan 0 = .ok (.aload_n 0, 1) := by decide +kernel
theorem dX1_makeSpan_1 : decode cX1_makeSpan 1 = .ok (.getfield 35, 3) := by decide +kernel
theorem dX1_makeSpan_4 : decode cX1_makeSpan 4 = .ok (.iconst 0, 1) := by decide +kernel
theorem dX1_makeSpan_5 : decode cX1_makeSpan 5 = .ok (.invokestatic 93, 3) := by decide +kernel
theorem dX1_makeSpan_8 : decode cX1_makeSpan 8 = .ok (.iconst 0, 1) := by decide +kernel
theorem dX1_makeSpan_9 : decode cX1_makeSpan 9 = .ok (.istore_n 2, 1) := by decide +kernel
theorem dX1_makeSpan_10 : decode cX1_makeSpan 10 = .ok (.iload_n 2, 1) := by decide +kernel
theorem dX1_makeSpan_11 : decode cX1_makeSpan 11 = .ok (.iload_n 1, 1) := by decide +kernel
theorem dX1_makeSpan_12 : decode cX1_makeSpan 12 = .ok (.if_icmp .ge 36, 3) := by decide +kernel
theorem dX1_makeSpan_15 : decode cX1_makeSpan 15 = .ok (.aload_n 0, 1) := by decide +kernel
theorem dX1_makeSpan_16 : decode cX1_makeSpan 16 = .ok (.getfield 35, 3) := by decide +kernel
theorem dX1_makeSpan_19 : decode cX1_makeSpan 19 = .ok (.aload_n 0, 1) := by decide +kernel
theorem dX1_makeSpan_20 : decode cX1_makeSpan 20 = .ok (.getfield 9, 3) := by decide +kernel
theorem dX1_makeSpan_23 : decode cX1_makeSpan 23 = .ok (.iload_n 2, 1) := by decide +kernel
theorem dX1_makeSpan_24 : decode cX1_makeSpan 24 = .ok (.iaload, 1) := by decide +kernel
theorem dX1_makeSpan_25 : decode cX1_makeSpan 25 = .ok (.bipush 10, 2) := by decide +kernel
theorem dX1_makeSpan_27 : decode cX1_makeSpan 27 = .ok (.imul, 1) := by decide +kernel
theorem dX1_makeSpan_28 : decode cX1_makeSpan 28 = .ok (.aload_n 0, 1) := by decide +kernel
theorem dX1_makeSpan_29 : decode cX1_makeSpan 29 = .ok (.getfield 15, 3) := by decide +kernel
theorem dX1_makeSpan_32 : decode cX1_makeSpan 32 = .ok (.iload_n 2, 1) := by decide +kernel
theorem dX1_makeSpan_33 : decode cX1_makeSpan 33 = .ok (.iaload, 1) := by decide +kernel
theorem dX1_makeSpan_34 : decode cX1_makeSpan 34 = .ok (.iadd, 1) := by decide +kernel
theorem dX1_makeSpan_35 : decode cX1_makeSpan 35 = .ok (.aload_n 0, 1) := by decide +kernel
theorem dX1_makeSpan_36 : decode cX1_makeSpan 36 = .ok (.getfield 18, 3) := by decide +kernel
theorem dX1_makeSpan_39 : decode cX1_makeSpan 39 = .ok (.iload_n 2, 1) := by decide +kernel
theorem dX1_makeSpan_40 : decode cX1_makeSpan 40 = .ok (.iaload, 1) := by decide +kernel
theorem dX1_makeSpan_41 : decode cX1_makeSpan 41 = .ok (.iastore, 1) := by decide +kernel
theorem dX1_makeSpan_42 : decode cX1_makeSpan 42 = .ok (.iinc 2 1, 3) := by decide +kernel
theorem dX1_makeSpan_45 : decode cX1_makeSpan 45 = .ok (.goto (-35), 3) := by decide +kernel
theorem dX1_makeSpan_48 : decode cX1_makeSpan 48 = .ok (.aload_n 0, 1) := by decide +kernel
theorem dX1_makeSpan_49 : decode cX1_makeSpan 49 = .ok (.getfield 38, 3) := by decide +kernel
theorem dX1_makeSpan_52 : decode cX1_makeSpan 52 = .ok (.lconst 0, 1) := by decide +kernel
theorem dX1_makeSpan_53 : decode cX1_makeSpan 53 = .ok (.invokestatic 105, 3) := by decide +kernel
theorem dX1_makeSpan_56 : decode cX1_makeSpan 56 = .ok (.aload_n 0, 1) := by decide +kernel
theorem dX1_makeSpan_57 : decode cX1_makeSpan 57 = .ok (.getfield 38, 3) := by decide +kernel
theorem dX1_makeSpan_60 : decode cX1_makeSpan 60 = .ok (.iconst 0, 1) := by decide +kernel
theorem dX1_makeSpan_61 : decode cX1_makeSpan 61 = .ok (.ldc2_w 108, 3) := by decide +kernel
theorem dX1_makeSpan_64 : decode cX1_makeSpan 64 = .ok (.lastore, 1) := by decide +kernel
theorem dX1_makeSpan_65 : decode cX1_makeSpan 65 = .ok (.iload_n 1, 1) := by decide +kernel
theorem dX1_makeSpan_66 : decode cX1_makeSpan 66 = .ok (.bipush 10, 2) := by decide +kernel
theorem dX1_makeSpan_68 : decode cX1_makeSpan 68 = .ok (.imul, 1) := by decide +kernel
theorem dX1_makeSpan_69 : decode cX1_makeSpan 69 = .ok (.istore_n 2, 1) := by decide +kernel
theorem dX1_makeSpan_70 : decode cX1_makeSpan 70 = .ok (.aload_n 0, 1) := by decide +kernel
theorem dX1_makeSpan_71 : decode cX1_makeSpan 71 = .ok (.getfield 38, 3) := by decide +kernel
theorem dX1_makeSpan_74 : decode cX1_makeSpan 74 = .ok (.iconst 0, 1) := by decide +kernel
theorem dX1_makeSpan_75 : decode cX1_makeSpan 75 = .ok (.aload_n 0, 1) := by decide +kernel
theorem dX1_makeSpan_76 : decode cX1_makeSpan 76 = .ok (.getfield 31, 3) := by decide +kernel
theorem dX1_makeSpan_79 : decode cX1_makeSpan 79 = .ok (.iload_n 2, 1) := by decide +kernel
theorem dX1_makeSpan_80 : decode cX1_makeSpan 80 = .ok (.bipush 10, 2) := by decide +kernel
theorem dX1_makeSpan_82 : decode cX1_makeSpan 82 = .ok (.invokestatic 87, 3) := by decide +kernel
theorem dX1_makeSpan_85 : decode cX1_makeSpan 85 = .ok (.iconst 0, 1) := by decide +kernel
theorem dX1_makeSpan_86 : decode cX1_makeSpan 86 = .ok (.istore_n 3, 1) := by decide +kernel
theorem dX1_makeSpan_87 : decode cX1_makeSpan 87 = .ok (.iload_n 3, 1) := by decide +kernel
theorem dX1_makeSpan_88 : decode cX1_makeSpan 88 = .ok (.iconst 3, 1) := by decide +kernel
theorem dX1_makeSpan_89 : decode cX1_makeSpan 89 = .ok (.if_icmp .ge 62, 3) := by decide +kernel
theorem dX1_makeSpan_92 : decode cX1_makeSpan 92 = .ok (.aload_n 0, 1) := by decide +kernel
theorem dX1_makeSpan_93 : decode cX1_makeSpan 93 = .ok (.invokevirtual 110, 3) := by decide +kernel
theorem dX1_makeSpan_96 : decode cX1_makeSpan 96 = .ok (.iconst 0, 1) := by decide +kernel
theorem dX1_makeSpan_97 : decode cX1_makeSpan 97 = .ok (.istore 4, 2) := by decide +kernel
theorem dX1_makeSpan_99 : decode cX1_makeSpan 99 = .ok (.iload 4, 2) := by decide +kernel
theorem dX1_makeSpan_101 : decode cX1_makeSpan 101 = .ok (.bipush 10, 2) := by decide +kernel
theorem dX1_makeSpan_103 : decode cX1_makeSpan 103 = .ok (.if_icmp .ge 42, 3) := by decide +kernel
theorem dX1_makeSpan_106 : decode cX1_makeSpan 106 = .ok (.aload_n 0, 1) := by decide +kernel
theorem dX1_makeSpan_107 : decode cX1_makeSpan 107 = .ok (.getfield 38, 3) := by decide +kernel
theorem dX1_makeSpan_110 : decode cX1_makeSpan 110 = .ok (.iload 4, 2) := by decide +kernel
theorem dX1_makeSpan_112 : decode cX1_makeSpan 112 = .ok (.aload_n 0, 1) := by decide +kernel
theorem dX1_makeSpan_113 : decode cX1_makeSpan 113 = .ok (.getfield 41, 3) := by decide +kernel
theorem dX1_makeSpan_116 : decode cX1_makeSpan 116 = .ok (.iload 4, 2) := by decide +kernel
theorem dX1_makeSpan_118 : decode cX1_makeSpan 118 = .ok (.laload, 1) := by decide +kernel
theorem dX1_makeSpan_119 : decode cX1_makeSpan 119 = .ok (.lastore, 1) := by decide +kernel
theorem dX1_makeSpan_120 : decode cX1_makeSpan 120 = .ok (.aload_n 0, 1) := by decide +kernel
theorem dX1_makeSpan_121 : decode cX1_makeSpan 121 = .ok (.getfield 31, 3) := by decide +kernel
theorem dX1_makeSpan_124 : decode cX1_makeSpan 124 = .ok (.iload_n 2, 1) := by decide +kernel
theorem dX1_makeSpan_125 : decode cX1_makeSpan 125 = .ok (.iload 4, 2) := by decide +kernel
theorem dX1_makeSpan_127 : decode cX1_makeSpan 127 = .ok (.iadd, 1) := by decide +kernel
theorem dX1_makeSpan_128 : decode cX1_makeSpan 128 = .ok (.dup2, 1) := by decide +kernel
theorem dX1_makeSpan_129 : decode cX1_makeSpan 129 = .ok (.laload, 1) := by decide +kernel
theorem dX1_makeSpan_130 : decode cX1_makeSpan 130 = .ok (.aload_n 0, 1) := by decide +kernel
theorem dX1_makeSpan_131 : decode cX1_makeSpan 131 = .ok (.getfield 38, 3) := by decide +kernel
theorem dX1_makeSpan_134 : decode cX1_makeSpan 134 = .ok (.iload 4, 2) := by decide +kernel
theorem dX1_makeSpan_136 : decode cX1_makeSpan 136 = .ok (.laload, 1) := by decide +kernel
theorem dX1_makeSpan_137 : decode cX1_makeSpan 137 = .ok (.ladd, 1) := by decide +kernel
theorem dX1_makeSpan_138 : decode cX1_makeSpan 138 = .ok (.lastore, 1) := by decide +kernel
theorem dX1_makeSpan_139 : decode cX1_makeSpan 139 = .ok (.iinc 4 1, 3) := by decide +kernel
theorem dX1_makeSpan_142 : decode cX1_makeSpan 142 = .ok (.goto (-43), 3) := by decide +kernel
theorem dX1_makeSpan_145 : decode cX1_makeSpan 145 = .ok (.iinc 3 1, 3) := by decide +kernel
theorem dX1_makeSpan_148 : decode cX1_makeSpan 148 = .ok (.goto (-61), 3) := by decide +kernel
theorem dX1_makeSpan_151 : decode cX1_makeSpan 151 = .ok (.aload_n 0, 1) := by decide +kernel
theorem dX1_makeSpan_152 : decode cX1_makeSpan 152 = .ok (.getfield 27, 3) := by decide +kernel
theorem dX1_makeSpan_155 : decode cX1_makeSpan 155 = .ok (.iload_n 1, 1) := by decide +kernel
theorem dX1_makeSpan_156 : decode cX1_makeSpan 156 = .ok (.iconst 1, 1) := by decide +kernel
theorem dX1_makeSpan_157 : decode cX1_makeSpan 157 = .ok (.bastore, 1) := by decide +kernel
theorem dX1_makeSpan_158 : decode cX1_makeSpan 158 = .ok (.return_, 1) := by decide +kernel
theorem dX1_lookOneStepAhead_0 : decode cX1_lookOneStepAhead 0 = .ok (.iconst 0, 1) := by decide +kernel
theorem dX1_lookOneStepAhead_1 : decode cX1_lookOneStepAhead 1 = .ok (.istore_n 1, 1) := by decide +kernel
theorem dX1_lookOneStepAhead_2 : decode cX1_lookOneStepAhead 2 = .ok (.iload_n 1, 1) := by decide +kernel
theorem dX1_lookOneStepAhead_3 : decode cX1_lookOneStepAhead 3 = .ok (.bipush 10, 2) := by decide +kernel
theorem dX1_lookOneStepAhead_5 : decode cX1_lookOneStepAhead 5 = .ok (.if_icmp .ge 62, 3) := by decide +kernel
theorem dX1_lookOneStepAhead_8 : decode cX1_lookOneStepAhead 8 = .ok (.lconst 0, 1) := by decide +kernel
theorem dX1_lookOneStepAhead_9 : decode cX1_lookOneStepAhead 9 = .ok (.lstore_n 2, 1) := by decide +kernel
theorem dX1_lookOneStepAhead_10 : decode cX1_lookOneStepAhead 10 = .ok (.iconst 0, 1) := by decide +kernel
theorem dX1_lookOneStepAhead_11 : decode cX1_lookOneStepAhead 11 = .ok (.istore 4, 2) := by decide +kernel
theorem dX1_lookOneStepAhead_13 : decode cX1_lookOneStepAhead 13 = .ok (.iload 4, 2) := by decide +kernel
theorem dX1_lookOneStepAhead_15 : decode cX1_lookOneStepAhead 15 = .ok (.bipush 10, 2) := by decide +kernel
theorem dX1_lookOneStepAhead_17 : decode cX1_lookOneStepAhead 17 = .ok (.if_icmp .ge 33, 3) := by decide +kernel
theorem dX1_lookOneStepAhead_20 : decode cX1_lookOneStepAhead 20 = .ok (.lload_n 2, 1) := by decide +kernel
theorem dX1_lookOneStepAhead_21 : decode cX1_lookOneStepAhead 21 = .ok (.aload_n 0, 1) := by decide +kernel
theorem dX1_lookOneStepAhead_22 : decode cX1_lookOneStepAhead 22 = .ok (.getfield 38, 3) := by decide +kernel
theorem dX1_lookOneStepAhead_25 : decode cX1_lookOneStepAhead 25 = .ok (.iload 4, 2) := by decide +kernel
theorem dX1_lookOneStepAhead_27 : decode cX1_lookOneStepAhead 27 = .ok (.laload, 1) := by decide +kernel
theorem dX1_lookOneStepAhead_28 : decode cX1_lookOneStepAhead 28 = .ok (.aload_n 0, 1) := by decide +kernel
theorem dX1_lookOneStepAhead_29 : decode cX1_lookOneStepAhead 29 = .ok (.getfield 35, 3) := by decide +kernel
theorem dX1_lookOneStepAhead_32 : decode cX1_lookOneStepAhead 32 = .ok (.iload 4, 2) := by decide +kernel
theorem dX1_lookOneStepAhead_34 : decode cX1_lookOneStepAhead 34 = .ok (.bipush 10, 2) := by decide +kernel
theorem dX1_lookOneStepAhead_36 : decode cX1_lookOneStepAhead 36 = .ok (.imul, 1) := by decide +kernel
theorem dX1_lookOneStepAhead_37 : decode cX1_lookOneStepAhead 37 = .ok (.iload_n 1, 1) := by decide +kernel
theorem dX1_lookOneStepAhead_38 : decode cX1_lookOneStepAhead 38 = .ok (.iadd, 1) := by decide +kernel
theorem dX1_lookOneStepAhead_39 : decode cX1_lookOneStepAhead 39 = .ok (.iaload, 1) := by decide +kernel
theorem dX1_lookOneStepAhead_40 : decode cX1_lookOneStepAhead 40 = .ok (.i2l, 1) := by decide +kernel
theorem dX1_lookOneStepAhead_41 : decode cX1_lookOneStepAhead 41 = .ok (.lmul, 1) := by decide +kernel
theorem dX1_lookOneStepAhead_42 : decode cX1_lookOneStepAhead 42 = .ok (.ladd, 1) := by decide +kernel
theorem dX1_lookOneStepAhead_43 : decode cX1_lookOneStepAhead 43 = .ok (.lstore_n 2, 1) := by decide +kernel
theorem dX1_lookOneStepAhead_44 : decode cX1_lookOneStepAhead 44 = .ok (.iinc 4 1, 3) := by decide +kernel
theorem dX1_lookOneStepAhead_47 : decode cX1_lookOneStepAhead 47 = .ok (.goto (-34), 3) := by decide +kernel
theorem dX1_lookOneStepAhead_50 : decode cX1_lookOneStepAhead 50 = .ok (.aload_n 0, 1) := by decide +kernel
theorem dX1_lookOneStepAhead_51 : decode cX1_lookOneStepAhead 51 = .ok (.getfield 41, 3) := by decide +kernel
theorem dX1_lookOneStepAhead_54 : decode cX1_lookOneStepAhead 54 = .ok (.iload_n 1, 1) := by decide +kernel
theorem dX1_lookOneStepAhead_55 : decode cX1_lookOneStepAhead 55 = .ok (.lload_n 2, 1) := by decide +kernel
theorem dX1_lookOneStepAhead_56 : decode cX1_lookOneStepAhead 56 = .ok (.ldc2_w 113, 3) := by decide +kernel
theorem dX1_lookOneStepAhead_59 : decode cX1_lookOneStepAhead 59 = .ok (.ldiv, 1) := by decide +kernel
theorem dX1_lookOneStepAhead_60 : decode cX1_lookOneStepAhead 60 = .ok (.lastore, 1) := by decide +kernel
theorem dX1_lookOneStepAhead_61 : decode cX1_lookOneStepAhead 61 = .ok (.iinc 1 1, 3) := by decide +kernel
theorem dX1_lookOneStepAhead_64 : decode cX1_lookOneStepAhead 64 = .ok (.goto (-62), 3) := by decide +kernel
theorem dX1_lookOneStepAhead_67 : decode cX1_lookOneStepAhead 67 = .ok (.return_, 1) := by decide +kernel
theorem dX2_init_0 : decode cX2_init 0 = .ok (.aload_n 0, 1) := by decide +kernel
theorem dX2_init_1 : decode cX2_init 1 = .ok (.invokespecial 3, 3) := by decide +kernel
theorem dX2_init_4 : decode cX2_init 4 = .ok (.aload_n 0, 1) := by decide +kernel
theorem dX2_init_5 : decode cX2_init 5 = .ok (.sipush 200, 3) := by decide +kernel
theorem dX2_init_8 : decode cX2_init 8 = .ok (.newarray .int, 2) := by decide +kernel
theorem dX2_init_10 : decode cX2_init 10 = .ok (.putfield 9, 3) := by decide +kernel
theorem dX2_init_13 : decode cX2_init 13 = .ok (.aload_n 0, 1) := by decide +kernel
theorem dX2_init_14 : decode cX2_init 14 = .ok (.sipush 200, 3) := by decide +kernel
theorem dX2_init_17 : decode cX2_init 17 = .ok (.newarray .int, 2) := by decide +kernel
theorem dX2_init_19 : decode cX2_init 19 = .ok (.putfield 15, 3) := by decide +kernel
theorem dX2_init_22 : decode cX2_init 22 = .ok (.aload_n 0, 1) := by decide +kernel
theorem dX2_init_23 : decode cX2_init 23 = .ok (.sipush 200, 3) := by decide +kernel
theorem dX2_init_26 : decode cX2_init 26 = .ok (.newarray .int, 2) := by decide +kernel
theorem dX2_init_28 : decode cX2_init 28 = .ok (.putfield 18, 3) := by decide +kernel
theorem dX2_init_31 : decode cX2_init 31 = .ok (.aload_n 0, 1) := by decide +kernel
theorem dX2_init_32 : decode cX2_init 32 = .ok (.sipush 200, 3) := by decide +kernel
theorem dX2_init_35 : decode cX2_init 35 = .ok (.newarray .int, 2) := by decide +kernel
theorem dX2_init_37 : decode cX2_init 37 = .ok (.putfield 21, 3) := by decide +kernel
theorem dX2_init_40 : decode cX2_init 40 = .ok (.aload_n 0, 1) := by decide +kernel
theorem dX2_init_41 : decode cX2_init 41 = .ok (.sipush 200, 3) := by decide +kernel
theorem dX2_init_44 : decode cX2_init 44 = .ok (.newarray .int, 2) := by decide +kernel
theorem dX2_init_46 : decode cX2_init 46 = .ok (.putfield 24, 3) := by decide +kernel
theorem dX2_init_49 : decode cX2_init 49 = .ok (.aload_n 0, 1) := by decide +kernel
theorem dX2_init_50 : decode cX2_init 50 = .ok (.sipush 200, 3) := by decide +kernel
theorem dX2_init_53 : decode cX2_init 53 = .ok (.newarray .int, 2) := by decide +kernel
theorem dX2_init_55 : decode cX2_init 55 = .ok (.putfield 27, 3) := by decide +kernel
theorem dX2_init_58 : decode cX2_init 58 = .ok (.aload_n 0, 1) := by decide +kernel
theorem dX2_init_59 : decode cX2_init 59 = .ok (.iconst 0, 1) := by decide +kernel
theorem dX2_init_60 : decode cX2_init 60 = .ok (.putfield 30, 3) := by decide +kernel
theorem dX2_init_63 : decode cX2_init 63 = .ok (.return_, 1) := by decide +kernel
theorem dX2_add_0 : decode cX2_add 0 = .ok (.aload_n 0, 1) := by decide +kernel
theorem dX2_add_1 : decode cX2_add 1 = .ok (.getfield 30, 3) := by decide +kernel
theorem dX2_add_4 : decode cX2_add 4 = .ok (.sipush 200, 3) := by decide +kernel
theorem dX2_add_7 : decode cX2_add 7 = .ok (.if_icmp .lt 6, 3) := by decide +kernel
theorem dX2_add_10 : decode cX2_add 10 = .ok (.bipush (-4), 2) := by decide +kernel
theorem dX2_add_12 : decode cX2_add 12 = .ok (.ireturn, 1) := by decide +kernel
theorem dX2_add_13 : decode cX2_add 13 = .ok (.aload_n 0, 1) := by decide +kernel
theorem dX2_add_14 : decode cX2_add 14 = .ok (.getfield 9, 3) := by decide +kernel
theorem dX2_add_17 : decode cX2_add 17 = .ok (.aload_n 0, 1) := by decide +kernel
theorem dX2_add_18 : decode cX2_add 18 = .ok (.getfield 30, 3) := by decide +kernel
theorem dX2_add_21 : decode cX2_add 21 = .ok (.iload_n 1, 1) := by decide +kernel
theorem dX2_add_22 : decode cX2_add 22 = .ok (.iastore, 1) := by decide +kernel
theorem dX2_add_23 : decode cX2_add 23 = .ok (.aload_n 0, 1) := by decide +kernel
theorem dX2_add_24 : decode cX2_add 24 = .ok (.getfield 15, 3) := by decide +kernel
theorem dX2_add_27 : decode cX2_add 27 = .ok (.aload_n 0, 1) := by decide +kernel
theorem dX2_add_28 : decode cX2_add 28 = .ok (.getfield 30, 3) := by decide +kernel
theorem dX2_add_31 : decode cX2_add 31 = .ok (.iload_n 2, 1) := by decide +kernel
theorem dX2_add_32 : decode cX2_add 32 = .ok (.iastore, 1) := by decide +kernel
theorem dX2_add_33 : decode cX2_add 33 = .ok (.aload_n 0, 1) := by decide +kernel
theorem dX2_add_34 : decode cX2_add 34 = .ok (.getfield 18, 3) := by decide +kernel
theorem dX2_add_37 : decode cX2_add 37 = .ok (.aload_n 0, 1) := by decide +kernel
theorem dX2_add_38 : decode cX2_add 38 = .ok (.getfield 30, 3) := by decide +kernel
theorem dX2_add_41 : decode cX2_add 41 = .ok (.iload_n 3, 1) := by decide +kernel
theorem dX2_add_42 : decode cX2_add 42 = .ok (.iastore, 1) := by decide +kernel
theorem dX2_add_43 : decode cX2_add 43 = .ok (.aload_n 0, 1) := by decide +kernel
theorem dX2_add_44 : decode cX2_add 44 = .ok (.getfield 21, 3) := by decide +kernel
theorem dX2_add_47 : decode cX2_add 47 = .ok (.aload_n 0, 1) := by decide +kernel
theorem dX2_add_48 : decode cX2_add 48 = .ok (.getfield 30, 3) := by decide +kernel
theorem dX2_add_51 : decode cX2_add 51 = .ok (.iload 4, 2) := by decide +kernel
theorem dX2_add_53 : decode cX2_add 53 = .ok (.iastore, 1) := by decide +kernel
theorem dX2_add_54 : decode cX2_add 54 = .ok (.aload_n 0, 1) := by decide +kernel
theorem dX2_add_55 : decode cX2_add 55 = .ok (.getfield 24, 3) := by decide +kernel
theorem dX2_add_58 : decode cX2_add 58 = .ok (.aload_n 0, 1) := by decide +kernel
theorem dX2_add_59 : decode cX2_add 59 = .ok (.getfield 30, 3) := by decide +kernel
theorem dX2_add_62 : decode cX2_add 62 = .ok (.iload 5, 2) := by decide +kernel
theorem dX2_add_64 : decode cX2_add 64 = .ok (.iastore, 1) := by decide +kernel
theorem dX2_add_65 : decode cX2_add 65 = .ok (.aload_n 0, 1) := by decide +kernel
theorem dX2_add_66 : decode cX2_add 66 = .ok (.dup, 1) := by decide +kernel
theorem dX2_add_67 : decode cX2_add 67 = .ok (.getfield 30, 3) := by decide +kernel
theorem dX2_add_70 : decode cX2_add 70 = .ok (.iconst 1, 1) := by decide +kernel
theorem dX2_add_71 : decode cX2_add 71 = .ok (.iadd, 1) := by decide +kernel
theorem dX2_add_72 : decode cX2_add 72 = .ok (.putfield 30, 3) := by decide +kernel
theorem dX2_add_75 : decode cX2_add 75 = .ok (.aload_n 0, 1) := by decide +kernel
theorem dX2_add_76 : decode cX2_add 76 = .ok (.getfield 30, 3) := by decide +kernel
theorem dX2_add_79 : decode cX2_add 79 = .ok (.iconst 1, 1) := by decide +kernel
theorem dX2_add_80 : decode cX2_add 80 = .ok (.isub, 1) := by decide +kernel
theorem dX2_add_81 : decode cX2_add 81 = .ok (.ireturn, 1) := by decide +kernel
theorem dX2_yearOf_0 : decode cX2_yearOf 0 = .ok (.aload_n 0, 1) := by decide +kernel
theorem dX2_yearOf_1 : decode cX2_yearOf 1 = .ok (.getfield 21, 3) := by decide +kernel
theorem dX2_yearOf_4 : decode cX2_yearOf 4 = .ok (.iload_n 1, 1) := by decide +kernel
theorem dX2_yearOf_5 : decode cX2_yearOf 5 = .ok (.iaload, 1) := by decide +kernel
theorem dX2_yearOf_6 : decode cX2_yearOf 6 = .ok (.sipush 365, 3) := by decide +kernel
theorem dX2_yearOf_9 : decode cX2_yearOf 9 = .ok (.idiv, 1) := by decide +kernel
theorem dX2_yearOf_10 : decode cX2_yearOf 10 = .ok (.ireturn, 1) := by decide +kernel
set_option maxRecDepth 20000 in
theorem ggX2_isOfYear_X2_yearOf : GoodIn wsX2_isOfYear wsX2_yearOf := goodIn_r _ [5, 6, 7, 8, 9, 10, 11, 12, 13] (by decide +kernel) (by decide +kernel)
set_option maxRecDepth 20000 in
theorem gX2_isOfYear_X2_yearOf : GoodIn wsX2_isOfYear (wsV RX2 34 RX2 yX2_yearOf wsX2_yearOf) := goodIn_app (goodIn_of _ (by decide +kernel)) ggX2_isOfYear_X2_yearOf
theorem dX2_isOfYear_0 : decode cX2_isOfYear 0 = .ok (.aload_n 0, 1) := by decide +kernel
theorem dX2_isOfYear_1 : decode cX2_isOfYear 1 = .ok (.iload_n 1, 1) := by decide +kernel
theorem dX2_isOfYear_2 : decode cX2_isOfYear 2 = .ok (.invokevirtual 34, 3) := by decide +kernel
theorem dX2_isOfYear_5 : decode cX2_isOfYear 5 = .ok (.iload_n 2, 1) := by decide +kernel
theorem dX2_isOfYear_6 : decode cX2_isOfYear 6 = .ok (.if_icmp .ne 7, 3) := by decide +kernel
theorem dX2_isOfYear_9 : decode cX2_isOfYear 9 = .ok (.iconst 1, 1) := by decide +kernel
theorem dX2_isOfYear_10 : decode cX2_isOfYear 10 = .ok (.goto 4, 3) := by decide +kernel
theorem dX2_isOfYear_13 : decode cX2_isOfYear 13 = .ok (.iconst 0, 1) := by decide +kernel
theorem dX2_isOfYear_14 : decode cX2_isOfYear 14 = .ok (.ireturn, 1) := by decide +kernel
theorem dX2_uncovered_0 : decode cX2_uncovered 0 = .ok (.aload_n 0, 1) := by decide +kernel
theorem dX2_uncovered_1 : decode cX2_uncovered 1 = .ok (.getfield 18, 3) := by decide +kernel
theorem dX2_uncovered_4 : decode cX2_uncovered 4 = .ok (.iload_n 1, 1) := by decide +kernel
theorem dX2_uncovered_5 : decode cX2_uncovered 5 = .ok (.iaload, 1) := by decide +kernel
theorem dX2_uncovered_6 : decode cX2_uncovered 6 = .ok (.aload_n 0, 1) := by decide +kernel
theorem dX2_uncovered_7 : decode cX2_uncovered 7 = .ok (.getfield 27, 3) := by decide +kernel
theorem dX2_uncovered_10 : decode cX2_uncovered 10 = .ok (.iload_n 1, 1) := by decide +kernel
theorem dX2_uncovered_11 : decode cX2_uncovered 11 = .ok (.iaload, 1) := by decide +kernel
theorem dX2_uncovered_12 : decode cX2_uncovered 12 = .ok (.isub, 1) := by decide +kernel
theorem dX2_uncovered_13 : decode cX2_uncovered 13 = .ok (.ireturn, 1) := by decide +kernel
theorem dX3_init_0 : decode cX3_init 0 = .ok (.aload_n 0, 1) := by decide +kernel
theorem dX3_init_1 : decode cX3_init 1 = .ok (.invokespecial 3, 3) := by decide +kernel
theorem dX3_init_4 : decode cX3_init 4 = .ok (.aload_n 0, 1) := by decide +kernel
theorem dX3_init_5 : decode cX3_init 5 = .ok (.bipush 16, 2) := by decide +kernel
theorem dX3_init_7 : decode cX3_init 7 = .ok (.newarray .int, 2) := by decide +kernel
theorem dX3_init_9 : decode cX3_init 9 = .ok (.putfield 9, 3) := by decide +kernel
theorem dX3_init_12 : decode cX3_init 12 = .ok (.aload_n 0, 1) := by decide +kernel
theorem dX3_init_13 : decode cX3_init 13 = .ok (.bipush 16, 2) := by decide +kernel
theorem dX3_init_15 : decode cX3_init 15 = .ok (.newarray .int, 2) := by decide +kernel
theorem dX3_init_17 : decode cX3_init 17 = .ok (.putfield 15, 3) := by decide +kernel
theorem dX3_init_20 : decode cX3_init 20 = .ok (.aload_n 0, 1) := by decide +kernel
theorem dX3_init_21 : decode cX3_init 21 = .ok (.bipush 16, 2) := by decide +kernel
theorem dX3_init_23 : decode cX3_init 23 = .ok (.newarray .int, 2) := by decide +kernel
theorem dX3_init_25 : decode cX3_init 25 = .ok (.putfield 18, 3) := by decide +kernel
theorem dX3_init_28 : decode cX3_init 28 = .ok (.aload_n 0, 1) := by decide +kernel
theorem dX3_init_29 : decode cX3_init 29 = .ok (.iconst 0, 1) := by decide +kernel
theorem dX3_init_30 : decode cX3_init 30 = .ok (.putfield 21, 3) := by decide +kernel
theorem dX3_init_33 : decode cX3_init 33 = .ok (.aload_n 0, 1) := by decide +kernel
theorem dX3_init_34 : decode cX3_init 34 = .ok (.iconst 0, 1) := by decide +kernel
theorem dX3_init_35 : decode cX3_init 35 = .ok (.putfield 25, 3) := by decide +kernel
theorem dX3_init_38 : decode cX3_init 38 = .ok (.return_, 1) := by decide +kernel
set_option maxRecDepth 20000 in
theorem ggX3_add_X3_insertRun : GoodIn wsX3_add wsX3_insertRun := goodIn_r _ [9, 2, 10, 3, 4, 11, 12, 13, 14, 15, 16, 17, 18, 19, 20, 21, 22, 23, 24, 25, 26, 27, 28, 29, 30, 31, 32, 33, 34, 35] (by decide +kernel) (by decide +kernel)
set_option maxRecDepth 20000 in
theorem gX3_add_X3_insertRun : GoodIn wsX3_add (wsV RX3 28 RX3 yX3_insertRun wsX3_insertRun) := goodIn_app (goodIn_of _ (by decide +kernel)) ggX3_add_X3_insertRun
theorem dX3_add_0 : decode cX3_add 0 = .ok (.iload_n 2, 1) := by decide +kernel
theorem dX3_add_1 : decode cX3_add 1 = .ok (.sipush 20000, 3) := by decide +kernel
theorem dX3_add_4 : decode cX3_add 4 = .ok (.aload_n 0, 1) := by decide +kernel
theorem dX3_add_5 : decode cX3_add 5 = .ok (.getfield 25, 3) := by decide +kernel
theorem dX3_add_8 : decode cX3_add 8 = .ok (.isub, 1) := by decide +kernel
theorem dX3_add_9 : decode cX3_add 9 = .ok (.if_icmp .le 6, 3) := by decide +kernel
theorem dX3_add_12 : decode cX3_add 12 = .ok (.bipush (-4), 2) := by decide +kernel
theorem dX3_add_14 : decode cX3_add 14 = .ok (.ireturn, 1) := by decide +kernel
theorem dX3_add_15 : decode cX3_add 15 = .ok (.aload_n 0, 1) := by decide +kernel
theorem dX3_add_16 : decode cX3_add 16 = .ok (.getfield 25, 3) := by decide +kernel
theorem dX3_add_19 : decode cX3_add 19 = .ok (.iconst 1, 1) := by decide +kernel
theorem dX3_add_20 : decode cX3_add 20 = .ok (.iadd, 1) := by decide +kernel
theorem dX3_add_21 : decode cX3_add 21 = .ok (.istore_n 3, 1) := by decide +kernel
theorem dX3_add_22 : decode cX3_add 22 = .ok (.aload_n 0, 1) := by decide +kernel
theorem dX3_add_23 : decode cX3_add 23 = .ok (.getfield 21, 3) := by decide +kernel
theorem dX3_add_26 : decode cX3_add 26 = .ok (.ifCond .eq 34, 3) := by decide +kernel
theorem dX3_add_29 : decode cX3_add 29 = .ok (.aload_n 0, 1) := by decide +kernel
theorem dX3_add_30 : decode cX3_add 30 = .ok (.getfield 15, 3) := by decide +kernel
theorem dX3_add_33 : decode cX3_add 33 = .ok (.aload_n 0, 1) := by decide +kernel
theorem dX3_add_34 : decode cX3_add 34 = .ok (.getfield 21, 3) := by decide +kernel
theorem dX3_add_37 : decode cX3_add 37 = .ok (.iconst 1, 1) := by decide +kernel
theorem dX3_add_38 : decode cX3_add 38 = .ok (.isub, 1) := by decide +kernel
theorem dX3_add_39 : decode cX3_add 39 = .ok (.iaload, 1) := by decide +kernel
theorem dX3_add_40 : decode cX3_add 40 = .ok (.iload_n 1, 1) := by decide +kernel
theorem dX3_add_41 : decode cX3_add 41 = .ok (.if_icmp .ne 19, 3) := by decide +kernel
theorem dX3_add_44 : decode cX3_add 44 = .ok (.aload_n 0, 1) := by decide +kernel
theorem dX3_add_45 : decode cX3_add 45 = .ok (.getfield 18, 3) := by decide +kernel
theorem dX3_add_48 : decode cX3_add 48 = .ok (.aload_n 0, 1) := by decide +kernel
theorem dX3_add_49 : decode cX3_add 49 = .ok (.getfield 21, 3) := by decide +kernel
theorem dX3_add_52 : decode cX3_add 52 = .ok (.iconst 1, 1) := by decide +kernel
theorem dX3_add_53 : decode cX3_add 53 = .ok (.isub, 1) := by decide +kernel
theorem dX3_add_54 : decode cX3_add 54 = .ok (.iaload, 1) := by decide +kernel
theorem dX3_add_55 : decode cX3_add 55 = .ok (.bipush (-9), 2) := by decide +kernel
theorem dX3_add_57 : decode cX3_add 57 = .ok (.if_icmp .eq 15, 3) := by decide +kernel
theorem dX3_add_60 : decode cX3_add 60 = .ok (.aload_n 0, 1) := by decide +kernel
theorem dX3_add_61 : decode cX3_add 61 = .ok (.aload_n 0, 1) := by decide +kernel
theorem dX3_add_62 : decode cX3_add 62 = .ok (.getfield 21, 3) := by decide +kernel
theorem dX3_add_65 : decode cX3_add 65 = .ok (.iload_n 3, 1) := by decide +kernel
theorem dX3_add_66 : decode cX3_add 66 = .ok (.iload_n 1, 1) := by decide +kernel
theorem dX3_add_67 : decode cX3_add 67 = .ok (.bipush (-9), 2) := by decide +kernel
theorem dX3_add_69 : decode cX3_add 69 = .ok (.invokevirtual 28, 3) := by decide +kernel
theorem dX3_add_72 : decode cX3_add 72 = .ok (.aload_n 0, 1) := by decide +kernel
theorem dX3_add_73 : decode cX3_add 73 = .ok (.dup, 1) := by decide +kernel
theorem dX3_add_74 : decode cX3_add 74 = .ok (.getfield 25, 3) := by decide +kernel
theorem dX3_add_77 : decode cX3_add 77 = .ok (.iload_n 2, 1) := by decide +kernel
theorem dX3_add_78 : decode cX3_add 78 = .ok (.iadd, 1) := by decide +kernel
theorem dX3_add_79 : decode cX3_add 79 = .ok (.putfield 25, 3) := by decide +kernel
theorem dX3_add_82 : decode cX3_add 82 = .ok (.iload_n 3, 1) := by decide +kernel
theorem dX3_add_83 : decode cX3_add 83 = .ok (.ireturn, 1) := by decide +kernel
theorem dX3_areIssued_0 : decode cX3_areIssued 0 = .ok (.iload_n 1, 1) := by decide +kernel
theorem dX3_areIssued_1 : decode cX3_areIssued 1 = .ok (.iconst 1, 1) := by decide +kernel
theorem dX3_areIssued_2 : decode cX3_areIssued 2 = .ok (.if_icmp .lt 27, 3) := by decide +kernel
theorem dX3_areIssued_5 : decode cX3_areIssued 5 = .ok (.iload_n 1, 1) := by decide +kernel
theorem dX3_areIssued_6 : decode cX3_areIssued 6 = .ok (.aload_n 0, 1) := by decide +kernel
theorem dX3_areIssued_7 : decode cX3_areIssued 7 = .ok (.getfield 25, 3) := by decide +kernel
theorem dX3_areIssued_10 : decode cX3_areIssued 10 = .ok (.if_icmp .gt 19, 3) := by decide +kernel
theorem dX3_areIssued_13 : decode cX3_areIssued 13 = .ok (.iload_n 2, 1) := by decide +kernel
theorem dX3_areIssued_14 : decode cX3_areIssued 14 = .ok (.aload_n 0, 1) := by decide +kernel
theorem dX3_areIssued_15 : decode cX3_areIssued 15 = .ok (.getfield 25, 3) := by decide +kernel
theorem dX3_areIssued_18 : decode cX3_areIssued 18 = .ok (.iload_n 1, 1) := by decide +kernel
theorem dX3_areIssued_19 : decode cX3_areIssued 19 = .ok (.isub, 1) := by decide +kernel
theorem dX3_areIssued_20 : decode cX3_areIssued 20 = .ok (.iconst 1, 1) := by decide +kernel
theorem dX3_areIssued_21 : decode cX3_areIssued 21 = .ok (.iadd, 1) := by decide +kernel
theorem dX3_areIssued_22 : decode cX3_areIssued 22 = .ok (.if_icmp .gt 7, 3) := by decide +kernel
theorem dX3_areIssued_25 : decode cX3_areIssued 25 = .ok (.iconst 1, 1) := by decide +kernel
theorem dX3_areIssued_26 : decode cX3_areIssued 26 = .ok (.goto 4, 3) := by decide +kernel
theorem dX3_areIssued_29 : decode cX3_areIssued 29 = .ok (.iconst 0, 1) := by decide +kernel
theorem dX3_areIssued_30 : decode cX3_areIssued 30 = .ok (.ireturn, 1) := by decide +kernel
theorem dX3_runWith_0 : decode cX3_runWith 0 = .ok (.iconst 0, 1) := by decide +kernel
theorem dX3_runWith_1 : decode cX3_runWith 1 = .ok (.istore_n 2, 1) := by decide +kernel
theorem dX3_runWith_2 : decode cX3_runWith 2 = .ok (.iload_n 2, 1) := by decide +kernel
theorem dX3_runWith_3 : decode cX3_runWith 3 = .ok (.iconst 1, 1) := by decide +kernel
theorem dX3_runWith_4 : decode cX3_runWith 4 = .ok (.iadd, 1) := by decide +kernel
theorem dX3_runWith_5 : decode cX3_runWith 5 = .ok (.aload_n 0, 1) := by decide +kernel
theorem dX3_runWith_6 : decode cX3_runWith 6 = .ok (.getfield 21, 3) := by decide +kernel
theorem dX3_runWith_9 : decode cX3_runWith 9 = .ok (.if_icmp .ge 21, 3) := by decide +kernel
theorem dX3_runWith_12 : decode cX3_runWith 12 = .ok (.aload_n 0, 1) := by decide +kernel
theorem dX3_runWith_13 : decode cX3_runWith 13 = .ok (.getfield 9, 3) := by decide +kernel
theorem dX3_runWith_16 : decode cX3_runWith 16 = .ok (.iload_n 2, 1) := by decide +kernel
theorem dX3_runWith_17 : decode cX3_runWith 17 = .ok (.iconst 1, 1) := by decide +kernel
theorem dX3_runWith_18 : decode cX3_runWith 18 = .ok (.iadd, 1) := by decide +kernel
theorem dX3_runWith_19 : decode cX3_runWith 19 = .ok (.iaload, 1) := by decide +kernel
theorem dX3_runWith_20 : decode cX3_runWith 20 = .ok (.iload_n 1, 1) := by decide +kernel
theorem dX3_runWith_21 : decode cX3_runWith 21 = .ok (.if_icmp .gt 9, 3) := by decide +kernel
theorem dX3_runWith_24 : decode cX3_runWith 24 = .ok (.iinc 2 1, 3) := by decide +kernel
theorem dX3_runWith_27 : decode cX3_runWith 27 = .ok (.goto (-25), 3) := by decide +kernel
theorem dX3_runWith_30 : decode cX3_runWith 30 = .ok (.iload_n 2, 1) := by decide +kernel
theorem dX3_runWith_31 : decode cX3_runWith 31 = .ok (.ireturn, 1) := by decide +kernel
set_option maxRecDepth 20000 in
theorem ggX3_lengthOf_X3_endOf : GoodIn wsX3_lengthOf wsX3_endOf := goodIn_r _ [6, 7, 1, 8, 9, 10, 11, 12, 13] (by decide +kernel) (by decide +kernel)
set_option maxRecDepth 20000 in
theorem gX3_lengthOf_X3_endOf : GoodIn wsX3_lengthOf (wsV RX3 32 RX3 yX3_endOf wsX3_endOf) := goodIn_app (goodIn_of _ (by decide +kernel)) ggX3_lengthOf_X3_endOf
theorem dX3_lengthOf_0 : decode cX3_lengthOf 0 = .ok (.aload_n 0, 1) := by decide +kernel
theorem dX3_lengthOf_1 : decode cX3_lengthOf 1 = .ok (.iload_n 1, 1) := by decide +kernel
theorem dX3_lengthOf_2 : decode cX3_lengthOf 2 = .ok (.invokevirtual 32, 3) := by decide +kernel
theorem dX3_lengthOf_5 : decode cX3_lengthOf 5 = .ok (.aload_n 0, 1) := by decide +kernel
theorem dX3_lengthOf_6 : decode cX3_lengthOf 6 = .ok (.getfield 9, 3) := by decide +kernel
theorem dX3_lengthOf_9 : decode cX3_lengthOf 9 = .ok (.iload_n 1, 1) := by decide +kernel
theorem dX3_lengthOf_10 : decode cX3_lengthOf 10 = .ok (.iaload, 1) := by decide +kernel
theorem dX3_lengthOf_11 : decode cX3_lengthOf 11 = .ok (.isub, 1) := by decide +kernel
theorem dX3_lengthOf_12 : decode cX3_lengthOf 12 = .ok (.ireturn, 1) := by decide +kernel
set_option maxRecDepth 20000 in
theorem ggX3_usedAmong_X3_sharedWith : GoodIn wsX3_usedAmong wsX3_sharedWith := goodIn_r _ [7, 8, 9, 10, 11, 12, 13, 14, 15, 16, 17, 18, 6, 19, 1, 20, 21, 22, 23, 24, 25] (by decide +kernel) (by decide +kernel)
set_option maxRecDepth 20000 in
theorem gX3_usedAmong_X3_sharedWith : GoodIn wsX3_usedAmong (wsV RX3 36 RX3 yX3_sharedWith wsX3_sharedWith) := goodIn_app (goodIn_of _ (by decide +kernel)) ggX3_usedAmong_X3_sharedWith
theorem dX3_usedAmong_0 : decode cX3_usedAmong 0 = .ok (.iconst 0, 1) := by decide +kernel
theorem dX3_usedAmong_1 : decode cX3_usedAmong 1 = .ok (.istore_n 3, 1) := by decide +kernel
theorem dX3_usedAmong_2 : decode cX3_usedAmong 2 = .ok (.iconst 0, 1) := by decide +kernel
theorem dX3_usedAmong_3 : decode cX3_usedAmong 3 = .ok (.istore 4, 2) := by decide +kernel
theorem dX3_usedAmong_5 : decode cX3_usedAmong 5 = .ok (.iload 4, 2) := by decide +kernel
theorem dX3_usedAmong_7 : decode cX3_usedAmong 7 = .ok (.aload_n 0, 1) := by decide +kernel
theorem dX3_usedAmong_8 : decode cX3_usedAmong 8 = .ok (.getfield 21, 3) := by decide +kernel
theorem dX3_usedAmong_11 : decode cX3_usedAmong 11 = .ok (.if_icmp .ge 32, 3) := by decide +kernel
theorem dX3_usedAmong_14 : decode cX3_usedAmong 14 = .ok (.aload_n 0, 1) := by decide +kernel
theorem dX3_usedAmong_15 : decode cX3_usedAmong 15 = .ok (.getfield 18, 3) := by decide +kernel
theorem dX3_usedAmong_18 : decode cX3_usedAmong 18 = .ok (.iload 4, 2) := by decide +kernel
theorem dX3_usedAmong_20 : decode cX3_usedAmong 20 = .ok (.iaload, 1) := by decide +kernel
theorem dX3_usedAmong_21 : decode cX3_usedAmong 21 = .ok (.bipush (-9), 2) := by decide +kernel
theorem dX3_usedAmong_23 : decode cX3_usedAmong 23 = .ok (.if_icmp .eq 14, 3) := by decide +kernel
theorem dX3_usedAmong_26 : decode cX3_usedAmong 26 = .ok (.iload_n 3, 1) := by decide +kernel
theorem dX3_usedAmong_27 : decode cX3_usedAmong 27 = .ok (.aload_n 0, 1) := by decide +kernel
theorem dX3_usedAmong_28 : decode cX3_usedAmong 28 = .ok (.iload 4, 2) := by decide +kernel
theorem dX3_usedAmong_30 : decode cX3_usedAmong 30 = .ok (.iload_n 1, 1) := by decide +kernel
theorem dX3_usedAmong_31 : decode cX3_usedAmong 31 = .ok (.iload_n 2, 1) := by decide +kernel
theorem dX3_usedAmong_32 : decode cX3_usedAmong 32 = .ok (.invokevirtual 36, 3) := by decide +kernel
theorem dX3_usedAmong_35 : decode cX3_usedAmong 35 = .ok (.iadd, 1) := by decide +kernel
theorem dX3_usedAmong_36 : decode cX3_usedAmong 36 = .ok (.istore_n 3, 1) := by decide +kernel
theorem dX3_usedAmong_37 : decode cX3_usedAmong 37 = .ok (.iinc 4 1, 3) := by decide +kernel
theorem dX3_usedAmong_40 : decode cX3_usedAmong 40 = .ok (.goto (-35), 3) := by decide +kernel
theorem dX3_usedAmong_43 : decode cX3_usedAmong 43 = .ok (.iload_n 3, 1) := by decide +kernel
theorem dX3_usedAmong_44 : decode cX3_usedAmong 44 = .ok (.ireturn, 1) := by decide +kernel
set_option maxRecDepth 20000 in
theorem ggX3_ownedAmong_X3_sharedWith : GoodIn wsX3_ownedAmong wsX3_sharedWith := goodIn_r _ [7, 8, 9, 10, 11, 12, 13, 14, 15, 16, 17, 18, 6, 19, 1, 20, 21, 22, 23, 24, 25] (by decide +kernel) (by decide +kernel)
set_option maxRecDepth 20000 in
theorem gX3_ownedAmong_X3_sharedWith : GoodIn wsX3_ownedAmong (wsV RX3 36 RX3 yX3_sharedWith wsX3_sharedWith) := goodIn_app (goodIn_of _ (by decide +kernel)) ggX3_ownedAmong_X3_sharedWith
theorem dX3_ownedAmong_0 : decode cX3_ownedAmong 0 = .ok (.iconst 0, 1) := by decide +kernel
theorem dX3_ownedAmong_1 : decode cX3_ownedAmong 1 = .ok (.istore 4, 2) := by decide +kernel
theorem dX3_ownedAmong_3 : decode cX3_ownedAmong 3 = .ok (.iconst 0, 1) := by decide +kernel
theorem dX3_ownedAmong_4 : decode cX3_ownedAmong 4 = .ok (.istore 5, 2) := by decide +kernel
theorem dX3_ownedAmong_6 : decode cX3_ownedAmong 6 = .ok (.iload 5, 2) := by decide +kernel
theorem dX3_ownedAmong_8 : decode cX3_ownedAmong 8 = .ok (.aload_n 0, 1) := by decide +kernel
theorem dX3_ownedAmong_9 : decode cX3_ownedAmong 9 = .ok (.getfield 21, 3) := by decide +kernel
theorem dX3_ownedAmong_12 : decode cX3_ownedAmong 12 = .ok (.if_icmp .ge 33, 3) := by decide +kernel
theorem dX3_ownedAmong_15 : decode cX3_ownedAmong 15 = .ok (.aload_n 0, 1) := by decide +kernel
theorem dX3_ownedAmong_16 : decode cX3_ownedAmong 16 = .ok (.getfield 15, 3) := by decide +kernel
theorem dX3_ownedAmong_19 : decode cX3_ownedAmong 19 = .ok (.iload 5, 2) := by decide +kernel
theorem dX3_ownedAmong_21 : decode cX3_ownedAmong 21 = .ok (.iaload, 1) := by decide +kernel
theorem dX3_ownedAmong_22 : decode cX3_ownedAmong 22 = .ok (.iload_n 3, 1) := by decide +kernel
theorem dX3_ownedAmong_23 : decode cX3_ownedAmong 23 = .ok (.if_icmp .ne 16, 3) := by decide +kernel
theorem dX3_ownedAmong_26 : decode cX3_ownedAmong 26 = .ok (.iload 4, 2) := by decide +kernel
theorem dX3_ownedAmong_28 : decode cX3_ownedAmong 28 = .ok (.aload_n 0, 1) := by decide +kernel
theorem dX3_ownedAmong_29 : decode cX3_ownedAmong 29 = .ok (.iload 5, 2) := by decide +kernel
theorem dX3_ownedAmong_31 : decode cX3_ownedAmong 31 = .ok (.iload_n 1, 1) := by decide +kernel
theorem dX3_ownedAmong_32 : decode cX3_ownedAmong 32 = .ok (.iload_n 2, 1) := by decide +kernel
theorem dX3_ownedAmong_33 : decode cX3_ownedAmong 33 = .ok (.invokevirtual 36, 3) := by decide +kernel
theorem dX3_ownedAmong_36 : decode cX3_ownedAmong 36 = .ok (.iadd, 1) := by decide +kernel
theorem dX3_ownedAmong_37 : decode cX3_ownedAmong 37 = .ok (.istore 4, 2) := by decide +kernel
theorem dX3_ownedAmong_39 : decode cX3_ownedAmong 39 = .ok (.iinc 5 1, 3) := by decide +kernel
theorem dX3_ownedAmong_42 : decode cX3_ownedAmong 42 = .ok (.goto (-36), 3) := by decide +kernel
theorem dX3_ownedAmong_45 : decode cX3_ownedAmong 45 = .ok (.iload 4, 2) := by decide +kernel
theorem dX3_ownedAmong_47 : decode cX3_ownedAmong 47 = .ok (.ireturn, 1) := by decide +kernel
set_option maxRecDepth 20000 in
theorem ggX3_unusedOf_X3_lengthOf : GoodIn wsX3_unusedOf wsX3_lengthOf := goodIn_r _ [8, 9, 10, 11, 12, 7, 13, 1, 14, 15, 16, 17, 18, 19] (by decide +kernel) (by decide +kernel)
set_option maxRecDepth 20000 in
theorem gX3_unusedOf_X3_lengthOf : GoodIn wsX3_unusedOf (wsV RX3 40 RX3 yX3_lengthOf wsX3_lengthOf) := goodIn_app (goodIn_of _ (by decide +kernel)) ggX3_unusedOf_X3_lengthOf
theorem dX3_unusedOf_0 : decode cX3_unusedOf 0 = .ok (.iconst 0, 1) := by decide +kernel
theorem dX3_unusedOf_1 : decode cX3_unusedOf 1 = .ok (.istore_n 2, 1) := by decide +kernel
theorem dX3_unusedOf_2 : decode cX3_unusedOf 2 = .ok (.iconst 0, 1) := by decide +kernel
theorem dX3_unusedOf_3 : decode cX3_unusedOf 3 = .ok (.istore_n 3, 1) := by decide +kernel
theorem dX3_unusedOf_4 : decode cX3_unusedOf 4 = .ok (.iload_n 3, 1) := by decide +kernel
theorem dX3_unusedOf_5 : decode cX3_unusedOf 5 = .ok (.aload_n 0, 1) := by decide +kernel
theorem dX3_unusedOf_6 : decode cX3_unusedOf 6 = .ok (.getfield 21, 3) := by decide +kernel
theorem dX3_unusedOf_9 : decode cX3_unusedOf 9 = .ok (.if_icmp .ge 38, 3) := by decide +kernel
theorem dX3_unusedOf_12 : decode cX3_unusedOf 12 = .ok (.aload_n 0, 1) := by decide +kernel
theorem dX3_unusedOf_13 : decode cX3_unusedOf 13 = .ok (.getfield 15, 3) := by decide +kernel
theorem dX3_unusedOf_16 : decode cX3_unusedOf 16 = .ok (.iload_n 3, 1) := by decide +kernel
theorem dX3_unusedOf_17 : decode cX3_unusedOf 17 = .ok (.iaload, 1) := by decide +kernel
theorem dX3_unusedOf_18 : decode cX3_unusedOf 18 = .ok (.iload_n 1, 1) := by decide +kernel
theorem dX3_unusedOf_19 : decode cX3_unusedOf 19 = .ok (.if_icmp .ne 22, 3) := by decide +kernel
theorem dX3_unusedOf_22 : decode cX3_unusedOf 22 = .ok (.aload_n 0, 1) := by decide +kernel
theorem dX3_unusedOf_23 : decode cX3_unusedOf 23 = .ok (.getfield 18, 3) := by decide +kernel
theorem dX3_unusedOf_26 : decode cX3_unusedOf 26 = .ok (.iload_n 3, 1) := by decide +kernel
theorem dX3_unusedOf_27 : decode cX3_unusedOf 27 = .ok (.iaload, 1) := by decide +kernel
theorem dX3_unusedOf_28 : decode cX3_unusedOf 28 = .ok (.bipush (-9), 2) := by decide +kernel
theorem dX3_unusedOf_30 : decode cX3_unusedOf 30 = .ok (.if_icmp .ne 11, 3) := by decide +kernel
theorem dX3_unusedOf_33 : decode cX3_unusedOf 33 = .ok (.iload_n 2, 1) := by decide +kernel
theorem dX3_unusedOf_34 : decode cX3_unusedOf 34 = .ok (.aload_n 0, 1) := by decide +kernel
theorem dX3_unusedOf_35 : decode cX3_unusedOf 35 = .ok (.iload_n 3, 1) := by decide +kernel
theorem dX3_unusedOf_36 : decode cX3_unusedOf 36 = .ok (.invokevirtual 40, 3) := by decide +kernel
theorem dX3_unusedOf_39 : decode cX3_unusedOf 39 = .ok (.iadd, 1) := by decide +kernel
theorem dX3_unusedOf_40 : decode cX3_unusedOf 40 = .ok (.istore_n 2, 1) := by decide +kernel
theorem dX3_unusedOf_41 : decode cX3_unusedOf 41 = .ok (.iinc 3 1, 3) := by decide +kernel
theorem dX3_unusedOf_44 : decode cX3_unusedOf 44 = .ok (.goto (-40), 3) := by decide +kernel
theorem dX3_unusedOf_47 : decode cX3_unusedOf 47 = .ok (.iload_n 2, 1) := by decide +kernel
theorem dX3_unusedOf_48 : decode cX3_unusedOf 48 = .ok (.ireturn, 1) := by decide +kernel
set_option maxRecDepth 20000 in
theorem ggX3_mark_X3_splitBefore : GoodIn wsX3_mark wsX3_splitBefore := goodIn_r _ [7, 8, 9, 10, 1, 2, 11, 12, 13, 6, 14, 15, 16, 17, 18, 19, 20, 21, 22, 23, 24, 25, 26, 27, 28, 29, 30, 31, 32, 33, 34, 35, 36, 37, 38, 43, 44, 45, 46, 47] (by decide +kernel) (by decide +kernel)
set_option maxRecDepth 20000 in
theorem gX3_mark_X3_splitBefore : GoodIn wsX3_mark (wsV RX3 43 RX3 yX3_splitBefore wsX3_splitBefore) := goodIn_app (goodIn_of _ (by decide +kernel)) ggX3_mark_X3_splitBefore
set_option maxRecDepth 20000 in
theorem ggX3_mark_X3_joinAlike : GoodIn wsX3_mark wsX3_joinAlike := goodIn_r _ [42, 9, 1, 2, 10, 43, 44, 45, 46, 47] (by decide +kernel) (by decide +kernel)
set_option maxRecDepth 20000 in
theorem gX3_mark_X3_joinAlike : GoodIn wsX3_mark (wsV RX3 46 RX3 yX3_joinAlike wsX3_joinAlike) := goodIn_app (goodIn_of _ (by decide +kernel)) ggX3_mark_X3_joinAlike
theorem dX3_mark_0 : decode cX3_mark 0 = .ok (.aload_n 0, 1) := by decide +kernel
theorem dX3_mark_1 : decode cX3_mark 1 = .ok (.iload_n 1, 1) := by decide +kernel
theorem dX3_mark_2 : decode cX3_mark 2 = .ok (.invokevirtual 43, 3) := by decide +kernel
theorem dX3_mark_5 : decode cX3_mark 5 = .ok (.istore 5, 2) := by decide +kernel
theorem dX3_mark_7 : decode cX3_mark 7 = .ok (.aload_n 0, 1) := by decide +kernel
theorem dX3_mark_8 : decode cX3_mark 8 = .ok (.iload_n 1, 1) := by decide +kernel
theorem dX3_mark_9 : decode cX3_mark 9 = .ok (.iload_n 2, 1) := by decide +kernel
theorem dX3_mark_10 : decode cX3_mark 10 = .ok (.iadd, 1) := by decide +kernel
theorem dX3_mark_11 : decode cX3_mark 11 = .ok (.invokevirtual 43, 3) := by decide +kernel
theorem dX3_mark_14 : decode cX3_mark 14 = .ok (.istore 6, 2) := by decide +kernel
theorem dX3_mark_16 : decode cX3_mark 16 = .ok (.iload 5, 2) := by decide +kernel
theorem dX3_mark_18 : decode cX3_mark 18 = .ok (.istore 7, 2) := by decide +kernel
theorem dX3_mark_20 : decode cX3_mark 20 = .ok (.iload 7, 2) := by decide +kernel
theorem dX3_mark_22 : decode cX3_mark 22 = .ok (.iload 6, 2) := by decide +kernel
theorem dX3_mark_24 : decode cX3_mark 24 = .ok (.if_icmp .ge 26, 3) := by decide +kernel
theorem dX3_mark_27 : decode cX3_mark 27 = .ok (.aload_n 0, 1) := by decide +kernel
theorem dX3_mark_28 : decode cX3_mark 28 = .ok (.getfield 15, 3) := by decide +kernel
theorem dX3_mark_31 : decode cX3_mark 31 = .ok (.iload 7, 2) := by decide +kernel
theorem dX3_mark_33 : decode cX3_mark 33 = .ok (.iload_n 3, 1) := by decide +kernel
theorem dX3_mark_34 : decode cX3_mark 34 = .ok (.iastore, 1) := by decide +kernel
theorem dX3_mark_35 : decode cX3_mark 35 = .ok (.aload_n 0, 1) := by decide +kernel
theorem dX3_mark_36 : decode cX3_mark 36 = .ok (.getfield 18, 3) := by decide +kernel
theorem dX3_mark_39 : decode cX3_mark 39 = .ok (.iload 7, 2) := by decide +kernel
theorem dX3_mark_41 : decode cX3_mark 41 = .ok (.iload 4, 2) := by decide +kernel
theorem dX3_mark_43 : decode cX3_mark 43 = .ok (.iastore, 1) := by decide +kernel
theorem dX3_mark_44 : decode cX3_mark 44 = .ok (.iinc 7 1, 3) := by decide +kernel
theorem dX3_mark_47 : decode cX3_mark 47 = .ok (.goto (-27), 3) := by decide +kernel
theorem dX3_mark_50 : decode cX3_mark 50 = .ok (.aload_n 0, 1) := by decide +kernel
theorem dX3_mark_51 : decode cX3_mark 51 = .ok (.invokevirtual 46, 3) := by decide +kernel
theorem dX3_mark_54 : decode cX3_mark 54 = .ok (.return_, 1) := by decide +kernel
theorem dX3_endOf_0 : decode cX3_endOf 0 = .ok (.iload_n 1, 1) := by decide +kernel
theorem dX3_endOf_1 : decode cX3_endOf 1 = .ok (.iconst 1, 1) := by decide +kernel
theorem dX3_endOf_2 : decode cX3_endOf 2 = .ok (.iadd, 1) := by decide +kernel
theorem dX3_endOf_3 : decode cX3_endOf 3 = .ok (.aload_n 0, 1) := by decide +kernel
theorem dX3_endOf_4 : decode cX3_endOf 4 = .ok (.getfield 21, 3) := by decide +kernel
theorem dX3_endOf_7 : decode cX3_endOf 7 = .ok (.if_icmp .ge 14, 3) := by decide +kernel
theorem dX3_endOf_10 : decode cX3_endOf 10 = .ok (.aload_n 0, 1) := by decide +kernel
theorem dX3_endOf_11 : decode cX3_endOf 11 = .ok (.getfield 9, 3) := by decide +kernel
theorem dX3_endOf_14 : decode cX3_endOf 14 = .ok (.iload_n 1, 1) := by decide +kernel
theorem dX3_endOf_15 : decode cX3_endOf 15 = .ok (.iconst 1, 1) := by decide +kernel
theorem dX3_endOf_16 : decode cX3_endOf 16 = .ok (.iadd, 1) := by decide +kernel
theorem dX3_endOf_17 : decode cX3_endOf 17 = .ok (.iaload, 1) := by decide +kernel
theorem dX3_endOf_18 : decode cX3_endOf 18 = .ok (.goto 9, 3) := by decide +kernel
theorem dX3_endOf_21 : decode cX3_endOf 21 = .ok (.aload_n 0, 1) := by decide +kernel
theorem dX3_endOf_22 : decode cX3_endOf 22 = .ok (.getfield 25, 3) := by decide +kernel
theorem dX3_endOf_25 : decode cX3_endOf 25 = .ok (.iconst 1, 1) := by decide +kernel
theorem dX3_endOf_26 : decode cX3_endOf 26 = .ok (.iadd, 1) := by decide +kernel
theorem dX3_endOf_27 : decode cX3_endOf 27 = .ok (.ireturn, 1) := by decide +kernel
set_option maxRecDepth 20000 in
theorem ggX3_sharedWith_X3_endOf : GoodIn wsX3_sharedWith wsX3_endOf := goodIn_r _ [13, 14, 5, 15, 16, 17, 18, 19, 20] (by decide +kernel) (by decide +kernel)
set_option maxRecDepth 20000 in
theorem gX3_sharedWith_X3_endOf : GoodIn wsX3_sharedWith (wsV RX3 32 RX3 yX3_endOf wsX3_endOf) := goodIn_app (goodIn_of _ (by decide +kernel)) ggX3_sharedWith_X3_endOf
theorem dX3_sharedWith_0 : decode cX3_sharedWith 0 = .ok (.iconst 0, 1) := by decide +kernel
theorem dX3_sharedWith_1 : decode cX3_sharedWith 1 = .ok (.aload_n 0, 1) := by decide +kernel
theorem dX3_sharedWith_2 : decode cX3_sharedWith 2 = .ok (.iload_n 1, 1) := by decide +kernel
theorem dX3_sharedWith_3 : decode cX3_sharedWith 3 = .ok (.invokevirtual 32, 3) := by decide +kernel
theorem dX3_sharedWith_6 : decode cX3_sharedWith 6 = .ok (.iload_n 2, 1) := by decide +kernel
theorem dX3_sharedWith_7 : decode cX3_sharedWith 7 = .ok (.iload_n 3, 1) := by decide +kernel
theorem dX3_sharedWith_8 : decode cX3_sharedWith 8 = .ok (.iadd, 1) := by decide +kernel
theorem dX3_sharedWith_9 : decode cX3_sharedWith 9 = .ok (.invokestatic 49, 3) := by decide +kernel
theorem dX3_sharedWith_12 : decode cX3_sharedWith 12 = .ok (.aload_n 0, 1) := by decide +kernel
theorem dX3_sharedWith_13 : decode cX3_sharedWith 13 = .ok (.getfield 9, 3) := by decide +kernel
theorem dX3_sharedWith_16 : decode cX3_sharedWith 16 = .ok (.iload_n 1, 1) := by decide +kernel
theorem dX3_sharedWith_17 : decode cX3_sharedWith 17 = .ok (.iaload, 1) := by decide +kernel
theorem dX3_sharedWith_18 : decode cX3_sharedWith 18 = .ok (.iload_n 2, 1) := by decide +kernel
theorem dX3_sharedWith_19 : decode cX3_sharedWith 19 = .ok (.invokestatic 55, 3) := by decide +kernel
theorem dX3_sharedWith_22 : decode cX3_sharedWith 22 = .ok (.isub, 1) := by decide +kernel
theorem dX3_sharedWith_23 : decode cX3_sharedWith 23 = .ok (.invokestatic 55, 3) := by decide +kernel
theorem dX3_sharedWith_26 : decode cX3_sharedWith 26 = .ok (.ireturn, 1) := by decide +kernel
set_option maxRecDepth 20000 in
theorem ggX3_splitBefore_X3_runWith : GoodIn wsX3_splitBefore wsX3_runWith := goodIn_r _ [10, 2, 3, 35, 36, 37, 38, 39] (by decide +kernel) (by decide +kernel)
set_option maxRecDepth 20000 in
theorem gX3_splitBefore_X3_runWith : GoodIn wsX3_splitBefore (wsV RX3 58 RX3 yX3_runWith wsX3_runWith) := goodIn_app (goodIn_of _ (by decide +kernel)) ggX3_splitBefore_X3_runWith
set_option maxRecDepth 20000 in
theorem ggX3_splitBefore_X3_insertRun : GoodIn wsX3_splitBefore wsX3_insertRun := goodIn_r _ [14, 2, 3, 4, 5, 15, 16, 17, 18, 19, 20, 21, 22, 23, 24, 25, 26, 27, 28, 29, 30, 31, 32, 33, 34, 35, 36, 37, 38, 39] (by decide +kernel) (by decide +kernel)
set_option maxRecDepth 20000 in
theorem gX3_splitBefore_X3_insertRun : GoodIn wsX3_splitBefore (wsV RX3 28 RX3 yX3_insertRun wsX3_insertRun) := goodIn_app (goodIn_of _ (by decide +kernel)) ggX3_splitBefore_X3_insertRun
theorem dX3_splitBefore_0 : decode cX3_splitBefore 0 = .ok (.iload_n 1, 1) := by decide +kernel
theorem dX3_splitBefore_1 : decode cX3_splitBefore 1 = .ok (.aload_n 0, 1) := by decide +kernel
theorem dX3_splitBefore_2 : decode cX3_splitBefore 2 = .ok (.getfield 25, 3) := by decide +kernel
theorem dX3_splitBefore_5 : decode cX3_splitBefore 5 = .ok (.if_icmp .le 8, 3) := by decide +kernel
theorem dX3_splitBefore_8 : decode cX3_splitBefore 8 = .ok (.aload_n 0, 1) := by decide +kernel
theorem dX3_splitBefore_9 : decode cX3_splitBefore 9 = .ok (.getfield 21, 3) := by decide +kernel
theorem dX3_splitBefore_12 : decode cX3_splitBefore 12 = .ok (.ireturn, 1) := by decide +kernel
theorem dX3_splitBefore_13 : decode cX3_splitBefore 13 = .ok (.aload_n 0, 1) := by decide +kernel
theorem dX3_splitBefore_14 : decode cX3_splitBefore 14 = .ok (.iload_n 1, 1) := by decide +kernel
theorem dX3_splitBefore_15 : decode cX3_splitBefore 15 = .ok (.invokevirtual 58, 3) := by decide +kernel
theorem dX3_splitBefore_18 : decode cX3_splitBefore 18 = .ok (.istore_n 2, 1) := by decide +kernel
theorem dX3_splitBefore_19 : decode cX3_splitBefore 19 = .ok (.aload_n 0, 1) := by decide +kernel
theorem dX3_splitBefore_20 : decode cX3_splitBefore 20 = .ok (.getfield 9, 3) := by decide +kernel
theorem dX3_splitBefore_23 : decode cX3_splitBefore 23 = .ok (.iload_n 2, 1) := by decide +kernel
theorem dX3_splitBefore_24 : decode cX3_splitBefore 24 = .ok (.iaload, 1) := by decide +kernel
theorem dX3_splitBefore_25 : decode cX3_splitBefore 25 = .ok (.iload_n 1, 1) := by decide +kernel
theorem dX3_splitBefore_26 : decode cX3_splitBefore 26 = .ok (.if_icmp .ne 5, 3) := by decide +kernel
theorem dX3_splitBefore_29 : decode cX3_splitBefore 29 = .ok (.iload_n 2, 1) := by decide +kernel
theorem dX3_splitBefore_30 : decode cX3_splitBefore 30 = .ok (.ireturn, 1) := by decide +kernel
theorem dX3_splitBefore_31 : decode cX3_splitBefore 31 = .ok (.aload_n 0, 1) := by decide +kernel
theorem dX3_splitBefore_32 : decode cX3_splitBefore 32 = .ok (.iload_n 2, 1) := by decide +kernel
theorem dX3_splitBefore_33 : decode cX3_splitBefore 33 = .ok (.iconst 1, 1) := by decide +kernel
theorem dX3_splitBefore_34 : decode cX3_splitBefore 34 = .ok (.iadd, 1) := by decide +kernel
theorem dX3_splitBefore_35 : decode cX3_splitBefore 35 = .ok (.iload_n 1, 1) := by decide +kernel
theorem dX3_splitBefore_36 : decode cX3_splitBefore 36 = .ok (.aload_n 0, 1) := by decide +kernel
theorem dX3_splitBefore_37 : decode cX3_splitBefore 37 = .ok (.getfield 15, 3) := by decide +kernel
theorem dX3_splitBefore_40 : decode cX3_splitBefore 40 = .ok (.iload_n 2, 1) := by decide +kernel
theorem dX3_splitBefore_41 : decode cX3_splitBefore 41 = .ok (.iaload, 1) := by decide +kernel
theorem dX3_splitBefore_42 : decode cX3_splitBefore 42 = .ok (.aload_n 0, 1) := by decide +kernel
theorem dX3_splitBefore_43 : decode cX3_splitBefore 43 = .ok (.getfield 18, 3) := by decide +kernel
theorem dX3_splitBefore_46 : decode cX3_splitBefore 46 = .ok (.iload_n 2, 1) := by decide +kernel
theorem dX3_splitBefore_47 : decode cX3_splitBefore 47 = .ok (.iaload, 1) := by decide +kernel
theorem dX3_splitBefore_48 : decode cX3_splitBefore 48 = .ok (.invokevirtual 28, 3) := by decide +kernel
theorem dX3_splitBefore_51 : decode cX3_splitBefore 51 = .ok (.iload_n 2, 1) := by decide +kernel
theorem dX3_splitBefore_52 : decode cX3_splitBefore 52 = .ok (.iconst 1, 1) := by decide +kernel
theorem dX3_splitBefore_53 : decode cX3_splitBefore 53 = .ok (.iadd, 1) := by decide +kernel
theorem dX3_splitBefore_54 : decode cX3_splitBefore 54 = .ok (.ireturn, 1) := by decide +kernel
set_option maxRecDepth 20000 in
theorem ggX3_insertRun_J7_copyOf_59c91 : GoodIn wsX3_insertRun wsJ7_copyOf_59c91 := goodIn_r _ [12, 13, 14, 15, 16, 17, 18, 19, 20, 21, 22, 23, 24, 6, 7, 8] (by decide +kernel) (by decide +kernel)
set_option maxRecDepth 20000 in
theorem gX3_insertRun_J7_copyOf_59c91 : GoodIn wsX3_insertRun (va_wsS RX3 61 yJ7_copyOf_59c91 wsJ7_copyOf_59c91) := goodIn_app (goodIn_of _ (by decide +kernel)) ggX3_insertRun_J7_copyOf_59c91
theorem dX3_insertRun_0 : decode cX3_insertRun 0 = .ok (.aload_n 0, 1) := by decide +kernel
theorem dX3_insertRun_1 : decode cX3_insertRun 1 = .ok (.getfield 21, 3) := by decide +kernel
theorem dX3_insertRun_4 : decode cX3_insertRun 4 = .ok (.aload_n 0, 1) := by decide +kernel
theorem dX3_insertRun_5 : decode cX3_insertRun 5 = .ok (.getfield 9, 3) := by decide +kernel
theorem dX3_insertRun_8 : decode cX3_insertRun 8 = .ok (.arraylength, 1) := by decide +kernel
theorem dX3_insertRun_9 : decode cX3_insertRun 9 = .ok (.if_icmp .lt 54, 3) := by decide +kernel
theorem dX3_insertRun_12 : decode cX3_insertRun 12 = .ok (.aload_n 0, 1) := by decide +kernel
theorem dX3_insertRun_13 : decode cX3_insertRun 13 = .ok (.aload_n 0, 1) := by decide +kernel
theorem dX3_insertRun_14 : decode cX3_insertRun 14 = .ok (.getfield 9, 3) := by decide +kernel
theorem dX3_insertRun_17 : decode cX3_insertRun 17 = .ok (.aload_n 0, 1) := by decide +kernel
theorem dX3_insertRun_18 : decode cX3_insertRun 18 = .ok (.getfield 21, 3) := by decide +kernel
theorem dX3_insertRun_21 : decode cX3_insertRun 21 = .ok (.iconst 2, 1) := by decide +kernel
theorem dX3_insertRun_22 : decode cX3_insertRun 22 = .ok (.imul, 1) := by decide +kernel
theorem dX3_insertRun_23 : decode cX3_insertRun 23 = .ok (.invokestatic 61, 3) := by decide +kernel
theorem dX3_insertRun_26 : decode cX3_insertRun 26 = .ok (.putfield 9, 3) := by decide +kernel
theorem dX3_insertRun_29 : decode cX3_insertRun 29 = .ok (.aload_n 0, 1) := by decide +kernel
theorem dX3_insertRun_30 : decode cX3_insertRun 30 = .ok (.aload_n 0, 1) := by decide +kernel
theorem dX3_insertRun_31 : decode cX3_insertRun 31 = .ok (.getfield 15, 3) := by decide +kernel
theorem dX3_insertRun_34 : decode cX3_insertRun 34 = .ok (.aload_n 0, 1) := by decide +kernel
theorem dX3_insertRun_35 : decode cX3_insertRun 35 = .ok (.getfield 21, 3) := by decide +kernel
theorem dX3_insertRun_38 : decode cX3_insertRun 38 = .ok (.iconst 2, 1) := by decide +kernel
theorem dX3_insertRun_39 : decode cX3_insertRun 39 = .ok (.imul, 1) := by decide +kernel
theorem dX3_insertRun_40 : decode cX3_insertRun 40 = .ok (.invokestatic 61, 3) := by decide +kernel
theorem dX3_insertRun_43 : decode cX3_insertRun 43 = .ok (.putfield 15, 3) := by decide +kernel
theorem dX3_insertRun_46 : decode cX3_insertRun 46 = .ok (.aload_n 0, 1) := by decide +kernel
theorem dX3_insertRun_47 : decode cX3_insertRun 47 = .ok (.aload_n 0, 1) := by decide +kernel
theorem dX3_insertRun_48 : decode cX3_insertRun 48 = .ok (.getfield 18, 3) := by decide +kernel
theorem dX3_insertRun_51 : decode cX3_insertRun 51 = .ok (.aload_n 0, 1) := by decide +kernel
theorem dX3_insertRun_52 : decode cX3_insertRun 52 = .ok (.getfield 21, 3) := by decide +kernel
theorem dX3_insertRun_55 : decode cX3_insertRun 55 = .ok (.iconst 2, 1) := by decide +kernel
theorem dX3_insertRun_56 : decode cX3_insertRun 56 = .ok (.imul, 1) := by decide +kernel
theorem dX3_insertRun_57 : decode cX3_insertRun 57 = .ok (.invokestatic 61, 3) := by decide +kernel
theorem dX3_insertRun_60 : decode cX3_insertRun 60 = .ok (.putfield 18, 3) := by decide +kernel
theorem dX3_insertRun_63 : decode cX3_insertRun 63 = .ok (.aload_n 0, 1) := by decide +kernel
theorem dX3_insertRun_64 : decode cX3_insertRun 64 = .ok (.getfield 21, 3) := by decide +kernel
theorem dX3_insertRun_67 : decode cX3_insertRun 67 = .ok (.iload_n 1, 1) := by decide +kernel
theorem dX3_insertRun_68 : decode cX3_insertRun 68 = .ok (.isub, 1) := by decide +kernel
theorem dX3_insertRun_69 : decode cX3_insertRun 69 = .ok (.istore 5, 2) := by decide +kernel
theorem dX3_insertRun_71 : decode cX3_insertRun 71 = .ok (.aload_n 0, 1) := by decide +kernel
theorem dX3_insertRun_72 : decode cX3_insertRun 72 = .ok (.getfield 9, 3) := by decide +kernel
theorem dX3_insertRun_75 : decode cX3_insertRun 75 = .ok (.iload_n 1, 1) := by decide +kernel
theorem dX3_insertRun_76 : decode cX3_insertRun 76 = .ok (.aload_n 0, 1) := by decide +kernel
theorem dX3_insertRun_77 : decode cX3_insertRun 77 = .ok (.getfield 9, 3) := by decide +kernel
theorem dX3_insertRun_80 : decode cX3_insertRun 80 = .ok (.iload_n 1, 1) := by decide +kernel
theorem dX3_insertRun_81 : decode cX3_insertRun 81 = .ok (.iconst 1, 1) := by decide +kernel
theorem dX3_insertRun_82 : decode cX3_insertRun 82 = .ok (.iadd, 1) := by decide +kernel
theorem dX3_insertRun_83 : decode cX3_insertRun 83 = .ok (.iload 5, 2) := by decide +kernel
theorem dX3_insertRun_85 : decode cX3_insertRun 85 = .ok (.invokestatic 67, 3) := by decide +kernel
theorem dX3_insertRun_88 : decode cX3_insertRun 88 = .ok (.aload_n 0, 1) := by decide +kernel
theorem dX3_insertRun_89 : decode cX3_insertRun 89 = .ok (.getfield 15, 3) := by decide +kernel
theorem dX3_insertRun_92 : decode cX3_insertRun 92 = .ok (.iload_n 1, 1) := by decide +kernel
theorem dX3_insertRun_93 : decode cX3_insertRun 93 = .ok (.aload_n 0, 1) := by decide +kernel
theorem dX3_insertRun_94 : decode cX3_insertRun 94 = .ok (.getfield 15, 3) := by decide +kernel
theorem dX3_insertRun_97 : decode cX3_insertRun 97 = .ok (.iload_n 1, 1) := by decide +kernel
theorem dX3_insertRun_98 : decode cX3_insertRun 98 = .ok (.iconst 1, 1) := by decide +kernel
theorem dX3_insertRun_99 : decode cX3_insertRun 99 = .ok (.iadd, 1) := by decide +kernel
theorem dX3_insertRun_100 : decode cX3_insertRun 100 = .ok (.iload 5, 2) := by decide +kernel
theorem dX3_insertRun_102 : decode cX3_insertRun 102 = .ok (.invokestatic 67, 3) := by decide +kernel
theorem dX3_insertRun_105 : decode cX3_insertRun 105 = .ok (.aload_n 0, 1) := by decide +kernel
theorem dX3_insertRun_106 : decode cX3_insertRun 106 = .ok (.getfield 18, 3) := by decide +kernel
theorem dX3_insertRun_109 : decode cX3_insertRun 109 = .ok (.iload_n 1, 1) := by decide +kernel
theorem dX3_insertRun_110 : decode cX3_insertRun 110 = .ok (.aload_n 0, 1) := by decide +kernel
theorem dX3_insertRun_111 : decode cX3_insertRun 111 = .ok (.getfield 18, 3) := by decide +kernel
theorem dX3_insertRun_114 : decode cX3_insertRun 114 = .ok (.iload_n 1, 1) := by decide +kernel
theorem dX3_insertRun_115 : decode cX3_insertRun 115 = .ok (.iconst 1, 1) := by decide +kernel
theorem dX3_insertRun_116 : decode cX3_insertRun 116 = .ok (.iadd, 1) := by decide +kernel
theorem dX3_insertRun_117 : decode cX3_insertRun 117 = .ok (.iload 5, 2) := by decide +kernel
theorem dX3_insertRun_119 : decode cX3_insertRun 119 = .ok (.invokestatic 67, 3) := by decide +kernel
theorem dX3_insertRun_122 : decode cX3_insertRun 122 = .ok (.aload_n 0, 1) := by decide +kernel
theorem dX3_insertRun_123 : decode cX3_insertRun 123 = .ok (.getfield 9, 3) := by decide +kernel
theorem dX3_insertRun_126 : decode cX3_insertRun 126 = .ok (.iload_n 1, 1) := by decide +kernel
theorem dX3_insertRun_127 : decode cX3_insertRun 127 = .ok (.iload_n 2, 1) := by decide +kernel
theorem dX3_insertRun_128 : decode cX3_insertRun 128 = .ok (.iastore, 1) := by decide +kernel
theorem dX3_insertRun_129 : decode cX3_insertRun 129 = .ok (.aload_n 0, 1) := by decide +kernel
theorem dX3_insertRun_130 : decode cX3_insertRun 130 = .ok (.getfield 15, 3) := by decide +kernel
theorem dX3_insertRun_133 : decode cX3_insertRun 133 = .ok (.iload_n 1, 1) := by decide +kernel
theorem dX3_insertRun_134 : decode cX3_insertRun 134 = .ok (.iload_n 3, 1) := by decide +kernel
theorem dX3_insertRun_135 : decode cX3_insertRun 135 = .ok (.iastore, 1) := by decide +kernel
theorem dX3_insertRun_136 : decode cX3_insertRun 136 = .ok (.aload_n 0, 1) := by decide +kernel
theorem dX3_insertRun_137 : decode cX3_insertRun 137 = .ok (.getfield 18, 3) := by decide +kernel
theorem dX3_insertRun_140 : decode cX3_insertRun 140 = .ok (.iload_n 1, 1) := by decide +kernel
theorem dX3_insertRun_141 : decode cX3_insertRun 141 = .ok (.iload 4, 2) := by decide +kernel
theorem dX3_insertRun_143 : decode cX3_insertRun 143 = .ok (.iastore, 1) := by decide +kernel
theorem dX3_insertRun_144 : decode cX3_insertRun 144 = .ok (.aload_n 0, 1) := by decide +kernel
theorem dX3_insertRun_145 : decode cX3_insertRun 145 = .ok (.dup, 1) := by decide +kernel
theorem dX3_insertRun_146 : decode cX3_insertRun 146 = .ok (.getfield 21, 3) := by decide +kernel
theorem dX3_insertRun_149 : decode cX3_insertRun 149 = .ok (.iconst 1, 1) := by decide +kernel
theorem dX3_insertRun_150 : decode cX3_insertRun 150 = .ok (.iadd, 1) := by decide +kernel
theorem dX3_insertRun_151 : decode cX3_insertRun 151 = .ok (.putfield 21, 3) := by decide +kernel
theorem dX3_insertRun_154 : decode cX3_insertRun 154 = .ok (.return_, 1) := by decide +kernel
theorem dX3_joinAlike_0 : decode cX3_joinAlike 0 = .ok (.iconst 0, 1) := by decide +kernel
theorem dX3_joinAlike_1 : decode cX3_joinAlike 1 = .ok (.istore_n 1, 1) := by decide +kernel
theorem dX3_joinAlike_2 : decode cX3_joinAlike 2 = .ok (.iconst 0, 1) := by decide +kernel
theorem dX3_joinAlike_3 : decode cX3_joinAlike 3 = .ok (.istore_n 2, 1) := by decide +kernel
theorem dX3_joinAlike_4 : decode cX3_joinAlike 4 = .ok (.iload_n 2, 1) := by decide +kernel
theorem dX3_joinAlike_5 : decode cX3_joinAlike 5 = .ok (.aload_n 0, 1) := by decide +kernel
theorem dX3_joinAlike_6 : decode cX3_joinAlike 6 = .ok (.getfield 21, 3) := by decide +kernel
theorem dX3_joinAlike_9 : decode cX3_joinAlike 9 = .ok (.if_icmp .ge 86, 3) := by decide +kernel
theorem dX3_joinAlike_12 : decode cX3_joinAlike 12 = .ok (.iload_n 1, 1) := by decide +kernel
theorem dX3_joinAlike_13 : decode cX3_joinAlike 13 = .ok (.ifCond .eq 37, 3) := by decide +kernel
theorem dX3_joinAlike_16 : decode cX3_joinAlike 16 = .ok (.aload_n 0, 1) := by decide +kernel
theorem dX3_joinAlike_17 : decode cX3_joinAlike 17 = .ok (.getfield 15, 3) := by decide +kernel
theorem dX3_joinAlike_20 : decode cX3_joinAlike 20 = .ok (.iload_n 1, 1) := by decide +kernel
theorem dX3_joinAlike_21 : decode cX3_joinAlike 21 = .ok (.iconst 1, 1) := by decide +kernel
theorem dX3_joinAlike_22 : decode cX3_joinAlike 22 = .ok (.isub, 1) := by decide +kernel
theorem dX3_joinAlike_23 : decode cX3_joinAlike 23 = .ok (.iaload, 1) := by decide +kernel
theorem dX3_joinAlike_24 : decode cX3_joinAlike 24 = .ok (.aload_n 0, 1) := by decide +kernel
theorem dX3_joinAlike_25 : decode cX3_joinAlike 25 = .ok (.getfield 15, 3) := by decide +kernel
theorem dX3_joinAlike_28 : decode cX3_joinAlike 28 = .ok (.iload_n 2, 1) := by decide +kernel
theorem dX3_joinAlike_29 : decode cX3_joinAlike 29 = .ok (.iaload, 1) := by decide +kernel
theorem dX3_joinAlike_30 : decode cX3_joinAlike 30 = .ok (.if_icmp .ne 20, 3) := by decide +kernel
theorem dX3_joinAlike_33 : decode cX3_joinAlike 33 = .ok (.aload_n 0, 1) := by decide +kernel
theorem dX3_joinAlike_34 : decode cX3_joinAlike 34 = .ok (.getfield 18, 3) := by decide +kernel
theorem dX3_joinAlike_37 : decode cX3_joinAlike 37 = .ok (.iload_n 1, 1) := by decide +kernel
theorem dX3_joinAlike_38 : decode cX3_joinAlike 38 = .ok (.iconst 1, 1) := by decide +kernel
theorem dX3_joinAlike_39 : decode cX3_joinAlike 39 = .ok (.isub, 1) := by decide +kernel
theorem dX3_joinAlike_40 : decode cX3_joinAlike 40 = .ok (.iaload, 1) := by decide +kernel
theorem dX3_joinAlike_41 : decode cX3_joinAlike 41 = .ok (.aload_n 0, 1) := by decide +kernel
theorem dX3_joinAlike_42 : decode cX3_joinAlike 42 = .ok (.getfield 18, 3) := by decide +kernel
theorem dX3_joinAlike_45 : decode cX3_joinAlike 45 = .ok (.iload_n 2, 1) := by decide +kernel
theorem dX3_joinAlike_46 : decode cX3_joinAlike 46 = .ok (.iaload, 1) := by decide +kernel
theorem dX3_joinAlike_47 : decode cX3_joinAlike 47 = .ok (.if_icmp .eq 42, 3) := by decide +kernel
theorem dX3_joinAlike_50 : decode cX3_joinAlike 50 = .ok (.aload_n 0, 1) := by decide +kernel
theorem dX3_joinAlike_51 : decode cX3_joinAlike 51 = .ok (.getfield 9, 3) := by decide +kernel
theorem dX3_joinAlike_54 : decode cX3_joinAlike 54 = .ok (.iload_n 1, 1) := by decide +kernel
theorem dX3_joinAlike_55 : decode cX3_joinAlike 55 = .ok (.aload_n 0, 1) := by decide +kernel
theorem dX3_joinAlike_56 : decode cX3_joinAlike 56 = .ok (.getfield 9, 3) := by decide +kernel
theorem dX3_joinAlike_59 : decode cX3_joinAlike 59 = .ok (.iload_n 2, 1) := by decide +kernel
theorem dX3_joinAlike_60 : decode cX3_joinAlike 60 = .ok (.iaload, 1) := by decide +kernel
theorem dX3_joinAlike_61 : decode cX3_joinAlike 61 = .ok (.iastore, 1) := by decide +kernel
theorem dX3_joinAlike_62 : decode cX3_joinAlike 62 = .ok (.aload_n 0, 1) := by decide +kernel
theorem dX3_joinAlike_63 : decode cX3_joinAlike 63 = .ok (.getfield 15, 3) := by decide +kernel
theorem dX3_joinAlike_66 : decode cX3_joinAlike 66 = .ok (.iload_n 1, 1) := by decide +kernel
theorem dX3_joinAlike_67 : decode cX3_joinAlike 67 = .ok (.aload_n 0, 1) := by decide +kernel
theorem dX3_joinAlike_68 : decode cX3_joinAlike 68 = .ok (.getfield 15, 3) := by decide +kernel
theorem dX3_joinAlike_71 : decode cX3_joinAlike 71 = .ok (.iload_n 2, 1) := by decide +kernel
theorem dX3_joinAlike_72 : decode cX3_joinAlike 72 = .ok (.iaload, 1) := by decide +kernel
theorem dX3_joinAlike_73 : decode cX3_joinAlike 73 = .ok (.iastore, 1) := by decide +kernel
theorem dX3_joinAlike_74 : decode cX3_joinAlike 74 = .ok (.aload_n 0, 1) := by decide +kernel
theorem dX3_joinAlike_75 : decode cX3_joinAlike 75 = .ok (.getfield 18, 3) := by decide +kernel
theorem dX3_joinAlike_78 : decode cX3_joinAlike 78 = .ok (.iload_n 1, 1) := by decide +kernel
theorem dX3_joinAlike_79 : decode cX3_joinAlike 79 = .ok (.aload_n 0, 1) := by decide +kernel
theorem dX3_joinAlike_80 : decode cX3_joinAlike 80 = .ok (.getfield 18, 3) := by decide +kernel
theorem dX3_joinAlike_83 : decode cX3_joinAlike 83 = .ok (.iload_n 2, 1) := by decide +kernel
theorem dX3_joinAlike_84 : decode cX3_joinAlike 84 = .ok (.iaload, 1) := by decide +kernel
theorem dX3_joinAlike_85 : decode cX3_joinAlike 85 = .ok (.iastore, 1) := by decide +kernel
theorem dX3_joinAlike_86 : decode cX3_joinAlike 86 = .ok (.iinc 1 1, 3) := by decide +kernel
theorem dX3_joinAlike_89 : decode cX3_joinAlike 89 = .ok (.iinc 2 1, 3) := by decide +kernel
theorem dX3_joinAlike_92 : decode cX3_joinAlike 92 = .ok (.goto (-88), 3) := by decide +kernel
theorem dX3_joinAlike_95 : decode cX3_joinAlike 95 = .ok (.aload_n 0, 1) := by decide +kernel
theorem dX3_joinAlike_96 : decode cX3_joinAlike 96 = .ok (.iload_n 1, 1) := by decide +kernel
theorem dX3_joinAlike_97 : decode cX3_joinAlike 97 = .ok (.putfield 21, 3) := by decide +kernel
theorem dX3_joinAlike_100 : decode cX3_joinAlike 100 = .ok (.return_, 1) := by decide +kernel
theorem dX4_init_0 : decode cX4_init 0 = .ok (.aload_n 0, 1) := by decide +kernel
theorem dX4_init_1 : decode cX4_init 1 = .ok (.invokespecial 1, 3) := by decide +kernel
theorem dX4_init_4 : decode cX4_init 4 = .ok (.aload_n 0, 1) := by decide +kernel
theorem dX4_init_5 : decode cX4_init 5 = .ok (.iload_n 1, 1) := by decide +kernel
theorem dX4_init_6 : decode cX4_init 6 = .ok (.putfield 7, 3) := by decide +kernel
theorem dX4_init_9 : decode cX4_init 9 = .ok (.aload_n 0, 1) := by decide +kernel
theorem dX4_init_10 : decode cX4_init 10 = .ok (.iload_n 2, 1) := by decide +kernel
theorem dX4_init_11 : decode cX4_init 11 = .ok (.putfield 13, 3) := by decide +kernel
theorem dX4_init_14 : decode cX4_init 14 = .ok (.aload_n 0, 1) := by decide +kernel
theorem dX4_init_15 : decode cX4_init 15 = .ok (.iload_n 3, 1) := by decide +kernel
theorem dX4_init_16 : decode cX4_init 16 = .ok (.putfield 17, 3) := by decide +kernel
theorem dX4_init_19 : decode cX4_init 19 = .ok (.aload_n 0, 1) := by decide +kernel
theorem dX4_init_20 : decode cX4_init 20 = .ok (.iload 4, 2) := by decide +kernel
theorem dX4_init_22 : decode cX4_init 22 = .ok (.putfield 20, 3) := by decide +kernel
theorem dX4_init_25 : decode cX4_init 25 = .ok (.return_, 1) := by decide +kernel
set_option maxRecDepth 20000 in
theorem ggX5_init_X1_init : GoodIn wsX5_init wsX1_init := goodIn_r _ [23, 24, 2, 3, 25, 26, 27, 28, 29, 30, 31, 32, 33, 34, 35, 36, 37, 38, 68, 69, 70, 71, 72, 73, 74, 75, 76, 77, 78] (by decide +kernel) (by decide +kernel)
set_option maxRecDepth 20000 in
theorem gX5_init_X1_init : GoodIn wsX5_init (wsX1_init) := ggX5_init_X1_init
set_option maxRecDepth 20000 in
theorem ggX5_init_X2_init : GoodIn wsX5_init wsX2_init := goodIn_r _ [41, 42, 2, 3, 25, 43, 44, 45, 46, 47, 48, 49, 84, 85, 86, 87, 88, 89, 90] (by decide +kernel) (by decide +kernel)
set_option maxRecDepth 20000 in
theorem gX5_init_X2_init : GoodIn wsX5_init (wsX2_init) := ggX5_init_X2_init
set_option maxRecDepth 20000 in
theorem ggX5_init_X0_init : GoodIn wsX5_init wsX0_init := goodIn_r _ [52, 53, 2, 3, 25, 54, 55, 56, 57, 58, 91, 92, 93, 94, 95] (by decide +kernel) (by decide +kernel)
set_option maxRecDepth 20000 in
theorem gX5_init_X0_init : GoodIn wsX5_init (wsX0_init) := ggX5_init_X0_init
set_option maxRecDepth 20000 in
theorem ggX5_init_X3_init : GoodIn wsX5_init wsX3_init := goodIn_r _ [61, 62, 2, 3, 25, 63, 64, 65, 66, 67, 96, 97, 98, 99, 100] (by decide +kernel) (by decide +kernel)
set_option maxRecDepth 20000 in
theorem gX5_init_X3_init : GoodIn wsX5_init (wsX3_init) := ggX5_init_X3_init
theorem dX5_init_0 : decode cX5_init 0 = .ok (.aload_n 0, 1) := by decide +kernel
theorem dX5_init_1 : decode cX5_init 1 = .ok (.invokespecial 1, 3) := by decide +kernel
theorem dX5_init_4 : decode cX5_init 4 = .ok (.aload_n 0, 1) := by decide +kernel
theorem dX5_init_5 : decode cX5_init 5 = .ok (.new 7, 3) := by decide +kernel
theorem dX5_init_8 : decode cX5_init 8 = .ok (.dup, 1) := by decide +kernel
theorem dX5_init_9 : decode cX5_init 9 = .ok (.invokespecial 9, 3) := by decide +kernel
theorem dX5_init_12 : decode cX5_init 12 = .ok (.putfield 10, 3) := by decide +kernel
theorem dX5_init_15 : decode cX5_init 15 = .ok (.aload_n 0, 1) := by decide +kernel
theorem dX5_init_16 : decode cX5_init 16 = .ok (.new 16, 3) := by decide +kernel
theorem dX5_init_19 : decode cX5_init 19 = .ok (.dup, 1) := by decide +kernel
theorem dX5_init_20 : decode cX5_init 20 = .ok (.invokespecial 18, 3) := by decide +kernel
theorem dX5_init_23 : decode cX5_init 23 = .ok (.putfield 19, 3) := by decide +kernel
theorem dX5_init_26 : decode cX5_init 26 = .ok (.aload_n 0, 1) := by decide +kernel
theorem dX5_init_27 : decode cX5_init 27 = .ok (.new 23, 3) := by decide +kernel
theorem dX5_init_30 : decode cX5_init 30 = .ok (.dup, 1) := by decide +kernel
theorem dX5_init_31 : decode cX5_init 31 = .ok (.invokespecial 25, 3) := by decide +kernel
theorem dX5_init_34 : decode cX5_init 34 = .ok (.putfield 26, 3) := by decide +kernel
theorem dX5_init_37 : decode cX5_init 37 = .ok (.aload_n 0, 1) := by decide +kernel
theorem dX5_init_38 : decode cX5_init 38 = .ok (.new 30, 3) := by decide +kernel
theorem dX5_init_41 : decode cX5_init 41 = .ok (.dup, 1) := by decide +kernel
theorem dX5_init_42 : decode cX5_init 42 = .ok (.invokespecial 32, 3) := by decide +kernel
theorem dX5_init_45 : decode cX5_init 45 = .ok (.putfield 33, 3) := by decide +kernel
theorem dX5_init_48 : decode cX5_init 48 = .ok (.aload_n 0, 1) := by decide +kernel
theorem dX5_init_49 : decode cX5_init 49 = .ok (.iconst 1, 1) := by decide +kernel
theorem dX5_init_50 : decode cX5_init 50 = .ok (.putfield 37, 3) := by decide +kernel
theorem dX5_init_53 : decode cX5_init 53 = .ok (.return_, 1) := by decide +kernel
theorem dX5_unit_0 : decode cX5_unit 0 = .ok (.aload_n 0, 1) := by decide +kernel
theorem dX5_unit_1 : decode cX5_unit 1 = .ok (.getfield 37, 3) := by decide +kernel
theorem dX5_unit_4 : decode cX5_unit 4 = .ok (.bipush 10, 2) := by decide +kernel
theorem dX5_unit_6 : decode cX5_unit 6 = .ok (.if_icmp .lt 6, 3) := by decide +kernel
theorem dX5_unit_9 : decode cX5_unit 9 = .ok (.bipush (-4), 2) := by decide +kernel
theorem dX5_unit_11 : decode cX5_unit 11 = .ok (.ireturn, 1) := by decide +kernel
theorem dX5_unit_12 : decode cX5_unit 12 = .ok (.aload_n 0, 1) := by decide +kernel
theorem dX5_unit_13 : decode cX5_unit 13 = .ok (.dup, 1) := by decide +kernel
theorem dX5_unit_14 : decode cX5_unit 14 = .ok (.getfield 37, 3) := by decide +kernel
theorem dX5_unit_17 : decode cX5_unit 17 = .ok (.iconst 1, 1) := by decide +kernel
theorem dX5_unit_18 : decode cX5_unit 18 = .ok (.iadd, 1) := by decide +kernel
theorem dX5_unit_19 : decode cX5_unit 19 = .ok (.putfield 37, 3) := by decide +kernel
theorem dX5_unit_22 : decode cX5_unit 22 = .ok (.aload_n 0, 1) := by decide +kernel
theorem dX5_unit_23 : decode cX5_unit 23 = .ok (.getfield 37, 3) := by decide +kernel
theorem dX5_unit_26 : decode cX5_unit 26 = .ok (.iconst 1, 1) := by decide +kernel
theorem dX5_unit_27 : decode cX5_unit 27 = .ok (.isub, 1) := by decide +kernel
theorem dX5_unit_28 : decode cX5_unit 28 = .ok (.ireturn, 1) := by decide +kernel
set_option maxRecDepth 20000 in
theorem ggX5_hold_X5_isUnit : GoodIn wsX5_hold wsX5_isUnit := goodIn_r _ [6, 7, 74, 75, 76, 77, 78] (by decide +kernel) (by decide +kernel)
set_option maxRecDepth 20000 in
theorem gX5_hold_X5_isUnit : GoodIn wsX5_hold (wsV RX5 41 RX5 yX5_isUnit wsX5_isUnit) := goodIn_app (goodIn_of _ (by decide +kernel)) ggX5_hold_X5_isUnit
set_option maxRecDepth 20000 in
theorem ggX5_hold_X5_isHundredths : GoodIn wsX5_hold wsX5_isHundredths := goodIn_r _ [10] (by decide +kernel) (by decide +kernel)
set_option maxRecDepth 20000 in
theorem gX5_hold_X5_isHundredths : GoodIn wsX5_hold (va_wsS RX5 45 yX5_isHundredths wsX5_isHundredths) := goodIn_app (goodIn_of _ (by decide +kernel)) ggX5_hold_X5_isHundredths
set_option maxRecDepth 20000 in
theorem ggX5_hold_X5_isDay : GoodIn wsX5_hold wsX5_isDay := goodIn_r _ [13] (by decide +kernel) (by decide +kernel)
set_option maxRecDepth 20000 in
theorem gX5_hold_X5_isDay : GoodIn wsX5_hold (va_wsS RX5 48 yX5_isDay wsX5_isDay) := goodIn_app (goodIn_of _ (by decide +kernel)) ggX5_hold_X5_isDay
set_option maxRecDepth 20000 in
theorem ggX5_hold_X1_mayTie : GoodIn wsX5_hold wsX1_mayTie := goodIn_r _ [18, 19, 20, 21, 22, 17, 23, 24, 25, 26, 27, 28, 29, 30, 31, 32, 33, 34, 35, 36, 37, 38, 39, 40, 41, 42, 43, 79, 80, 81, 82, 83, 84, 85, 86, 87, 88, 89] (by decide +kernel) (by decide +kernel)
set_option maxRecDepth 20000 in
theorem gX5_hold_X1_mayTie : GoodIn wsX5_hold (wsV RX5 51 RX1 yX1_mayTie wsX1_mayTie) := goodIn_app (goodIn_of _ (by decide +kernel)) ggX5_hold_X1_mayTie
set_option maxRecDepth 20000 in
theorem ggX5_hold_X1_tell : GoodIn wsX5_hold wsX1_tell := goodIn_r _ [47, 24, 26, 27, 48, 25, 49, 50, 51, 17, 52, 53, 54, 55, 56, 57, 58, 59, 60, 61, 62, 63, 64, 65, 66, 67, 68, 69, 70, 71, 72, 73, 79, 80, 81, 82, 83, 84, 85, 86, 87, 88, 89] (by decide +kernel) (by decide +kernel)
set_option maxRecDepth 20000 in
theorem gX5_hold_X1_tell : GoodIn wsX5_hold (wsV RX5 55 RX1 yX1_tell wsX1_tell) := goodIn_app (goodIn_of _ (by decide +kernel)) ggX5_hold_X1_tell
theorem dX5_hold_0 : decode cX5_hold 0 = .ok (.aload_n 0, 1) := by decide +kernel
theorem dX5_hold_1 : decode cX5_hold 1 = .ok (.iload_n 1, 1) := by decide +kernel
theorem dX5_hold_2 : decode cX5_hold 2 = .ok (.invokevirtual 41, 3) := by decide +kernel
theorem dX5_hold_5 : decode cX5_hold 5 = .ok (.ifCond .eq 11, 3) := by decide +kernel
theorem dX5_hold_8 : decode cX5_hold 8 = .ok (.aload_n 0, 1) := by decide +kernel
theorem dX5_hold_9 : decode cX5_hold 9 = .ok (.iload_n 2, 1) := by decide +kernel
theorem dX5_hold_10 : decode cX5_hold 10 = .ok (.invokevirtual 41, 3) := by decide +kernel
theorem dX5_hold_13 : decode cX5_hold 13 = .ok (.ifCond .ne 5, 3) := by decide +kernel
theorem dX5_hold_16 : decode cX5_hold 16 = .ok (.iconst (-1), 1) := by decide +kernel
theorem dX5_hold_17 : decode cX5_hold 17 = .ok (.ireturn, 1) := by decide +kernel
theorem dX5_hold_18 : decode cX5_hold 18 = .ok (.iload_n 3, 1) := by decide +kernel
theorem dX5_hold_19 : decode cX5_hold 19 = .ok (.invokestatic 45, 3) := by decide +kernel
theorem dX5_hold_22 : decode cX5_hold 22 = .ok (.ifCond .eq 11, 3) := by decide +kernel
theorem dX5_hold_25 : decode cX5_hold 25 = .ok (.iload 4, 2) := by decide +kernel
theorem dX5_hold_27 : decode cX5_hold 27 = .ok (.invokestatic 48, 3) := by decide +kernel
theorem dX5_hold_30 : decode cX5_hold 30 = .ok (.ifCond .ne 6, 3) := by decide +kernel
theorem dX5_hold_33 : decode cX5_hold 33 = .ok (.bipush (-2), 2) := by decide +kernel
theorem dX5_hold_35 : decode cX5_hold 35 = .ok (.ireturn, 1) := by decide +kernel
theorem dX5_hold_36 : decode cX5_hold 36 = .ok (.iload_n 1, 1) := by decide +kernel
theorem dX5_hold_37 : decode cX5_hold 37 = .ok (.iload_n 2, 1) := by decide +kernel
theorem dX5_hold_38 : decode cX5_hold 38 = .ok (.if_icmp .eq 19, 3) := by decide +kernel
theorem dX5_hold_41 : decode cX5_hold 41 = .ok (.iload_n 3, 1) := by decide +kernel
theorem dX5_hold_42 : decode cX5_hold 42 = .ok (.ifCond .le 18, 3) := by decide +kernel
theorem dX5_hold_45 : decode cX5_hold 45 = .ok (.aload_n 0, 1) := by decide +kernel
theorem dX5_hold_46 : decode cX5_hold 46 = .ok (.getfield 10, 3) := by decide +kernel
theorem dX5_hold_49 : decode cX5_hold 49 = .ok (.iload_n 1, 1) := by decide +kernel
theorem dX5_hold_50 : decode cX5_hold 50 = .ok (.iload_n 2, 1) := by decide +kernel
theorem dX5_hold_51 : decode cX5_hold 51 = .ok (.invokevirtual 51, 3) := by decide +kernel
theorem dX5_hold_54 : decode cX5_hold 54 = .ok (.ifCond .ne 6, 3) := by decide +kernel
theorem dX5_hold_57 : decode cX5_hold 57 = .ok (.bipush (-3), 2) := by decide +kernel
theorem dX5_hold_59 : decode cX5_hold 59 = .ok (.ireturn, 1) := by decide +kernel
theorem dX5_hold_60 : decode cX5_hold 60 = .ok (.aload_n 0, 1) := by decide +kernel
theorem dX5_hold_61 : decode cX5_hold 61 = .ok (.getfield 10, 3) := by decide +kernel
theorem dX5_hold_64 : decode cX5_hold 64 = .ok (.iload_n 1, 1) := by decide +kernel
theorem dX5_hold_65 : decode cX5_hold 65 = .ok (.iload_n 2, 1) := by decide +kernel
theorem dX5_hold_66 : decode cX5_hold 66 = .ok (.iload_n 3, 1) := by decide +kernel
theorem dX5_hold_67 : decode cX5_hold 67 = .ok (.iload 4, 2) := by decide +kernel
theorem dX5_hold_69 : decode cX5_hold 69 = .ok (.invokevirtual 55, 3) := by decide +kernel
theorem dX5_hold_72 : decode cX5_hold 72 = .ok (.ireturn, 1) := by decide +kernel
set_option maxRecDepth 20000 in
theorem ggX5_holds_X5_isUnit : GoodIn wsX5_holds wsX5_isUnit := goodIn_r _ [6, 7, 25, 26, 27, 28, 29] (by decide +kernel) (by decide +kernel)
set_option maxRecDepth 20000 in
theorem gX5_holds_X5_isUnit : GoodIn wsX5_holds (wsV RX5 41 RX5 yX5_isUnit wsX5_isUnit) := goodIn_app (goodIn_of _ (by decide +kernel)) ggX5_holds_X5_isUnit
set_option maxRecDepth 20000 in
theorem ggX5_holds_X5_isDay : GoodIn wsX5_holds wsX5_isDay := goodIn_r _ [10] (by decide +kernel) (by decide +kernel)
set_option maxRecDepth 20000 in
theorem gX5_holds_X5_isDay : GoodIn wsX5_holds (va_wsS RX5 48 yX5_isDay wsX5_isDay) := goodIn_app (goodIn_of _ (by decide +kernel)) ggX5_holds_X5_isDay
set_option maxRecDepth 20000 in
theorem ggX5_holds_X1_heldOn : GoodIn wsX5_holds wsX1_heldOn := goodIn_r _ [15, 16, 17, 18, 19, 20, 21, 14, 22, 23, 24, 30, 31, 32, 33, 34, 35, 36, 37, 38, 39, 40] (by decide +kernel) (by decide +kernel)
set_option maxRecDepth 20000 in
theorem gX5_holds_X1_heldOn : GoodIn wsX5_holds (wsV RX5 59 RX1 yX1_heldOn wsX1_heldOn) := goodIn_app (goodIn_of _ (by decide +kernel)) ggX5_holds_X1_heldOn
theorem dX5_holds_0 : decode cX5_holds 0 = .ok (.aload_n 0, 1) := by decide +kernel
theorem dX5_holds_1 : decode cX5_holds 1 = .ok (.iload_n 1, 1) := by decide +kernel
theorem dX5_holds_2 : decode cX5_holds 2 = .ok (.invokevirtual 41, 3) := by decide +kernel
theorem dX5_holds_5 : decode cX5_holds 5 = .ok (.ifCond .eq 11, 3) := by decide +kernel
theorem dX5_holds_8 : decode cX5_holds 8 = .ok (.aload_n 0, 1) := by decide +kernel
theorem dX5_holds_9 : decode cX5_holds 9 = .ok (.iload_n 2, 1) := by decide +kernel
theorem dX5_holds_10 : decode cX5_holds 10 = .ok (.invokevirtual 41, 3) := by decide +kernel
theorem dX5_holds_13 : decode cX5_holds 13 = .ok (.ifCond .ne 5, 3) := by decide +kernel
theorem dX5_holds_16 : decode cX5_holds 16 = .ok (.iconst (-1), 1) := by decide +kernel
theorem dX5_holds_17 : decode cX5_holds 17 = .ok (.ireturn, 1) := by decide +kernel
theorem dX5_holds_18 : decode cX5_holds 18 = .ok (.iload_n 3, 1) := by decide +kernel
theorem dX5_holds_19 : decode cX5_holds 19 = .ok (.invokestatic 48, 3) := by decide +kernel
theorem dX5_holds_22 : decode cX5_holds 22 = .ok (.ifCond .eq 16, 3) := by decide +kernel
theorem dX5_holds_25 : decode cX5_holds 25 = .ok (.aload_n 0, 1) := by decide +kernel
theorem dX5_holds_26 : decode cX5_holds 26 = .ok (.getfield 10, 3) := by decide +kernel
theorem dX5_holds_29 : decode cX5_holds 29 = .ok (.iload_n 1, 1) := by decide +kernel
theorem dX5_holds_30 : decode cX5_holds 30 = .ok (.iload_n 2, 1) := by decide +kernel
theorem dX5_holds_31 : decode cX5_holds 31 = .ok (.iload_n 3, 1) := by decide +kernel
theorem dX5_holds_32 : decode cX5_holds 32 = .ok (.invokevirtual 59, 3) := by decide +kernel
theorem dX5_holds_35 : decode cX5_holds 35 = .ok (.goto 5, 3) := by decide +kernel
theorem dX5_holds_38 : decode cX5_holds 38 = .ok (.bipush (-2), 2) := by decide +kernel
theorem dX5_holds_40 : decode cX5_holds 40 = .ok (.ireturn, 1) := by decide +kernel
set_option maxRecDepth 20000 in
theorem ggX5_share_X5_isUnit : GoodIn wsX5_share wsX5_isUnit := goodIn_r _ [8, 9, 57, 58, 59, 60, 61] (by decide +kernel) (by decide +kernel)
set_option maxRecDepth 20000 in
theorem gX5_share_X5_isUnit : GoodIn wsX5_share (wsV RX5 41 RX5 yX5_isUnit wsX5_isUnit) := goodIn_app (goodIn_of _ (by decide +kernel)) ggX5_share_X5_isUnit
set_option maxRecDepth 20000 in
theorem ggX5_share_X5_isDay : GoodIn wsX5_share wsX5_isDay := goodIn_r _ [12] (by decide +kernel) (by decide +kernel)
set_option maxRecDepth 20000 in
theorem gX5_share_X5_isDay : GoodIn wsX5_share (va_wsS RX5 48 yX5_isDay wsX5_isDay) := goodIn_app (goodIn_of _ (by decide +kernel)) ggX5_share_X5_isDay
set_option maxRecDepth 20000 in
theorem ggX5_share_X1_shareOn : GoodIn wsX5_share wsX1_shareOn := goodIn_r _ [17, 18, 19, 20, 16, 21, 22, 23, 24, 25, 26, 27, 28, 29, 30, 31, 32, 33, 34, 35, 36, 37, 38, 39, 40, 41, 42, 43, 44, 45, 46, 47, 48, 49, 50, 51, 52, 53, 54, 55, 56, 62, 63, 64, 65, 66, 67, 68, 69, 70, 71, 72] (by decide +kernel) (by decide +kernel)
set_option maxRecDepth 20000 in
theorem gX5_share_X1_shareOn : GoodIn wsX5_share (wsV RX5 65 RX1 yX1_shareOn wsX1_shareOn) := goodIn_app (goodIn_of _ (by decide +kernel)) ggX5_share_X1_shareOn
theorem dX5_share_0 : decode cX5_share 0 = .ok (.aload_n 0, 1) := by decide +kernel
theorem dX5_share_1 : decode cX5_share 1 = .ok (.iload_n 1, 1) := by decide +kernel
theorem dX5_share_2 : decode cX5_share 2 = .ok (.invokevirtual 41, 3) := by decide +kernel
theorem dX5_share_5 : decode cX5_share 5 = .ok (.ifCond .ne 7, 3) := by decide +kernel
theorem dX5_share_8 : decode cX5_share 8 = .ok (.ldc2_w 63, 3) := by decide +kernel
theorem dX5_share_11 : decode cX5_share 11 = .ok (.lreturn, 1) := by decide +kernel
theorem dX5_share_12 : decode cX5_share 12 = .ok (.iload_n 2, 1) := by decide +kernel
theorem dX5_share_13 : decode cX5_share 13 = .ok (.invokestatic 48, 3) := by decide +kernel
theorem dX5_share_16 : decode cX5_share 16 = .ok (.ifCond .eq 15, 3) := by decide +kernel
theorem dX5_share_19 : decode cX5_share 19 = .ok (.aload_n 0, 1) := by decide +kernel
theorem dX5_share_20 : decode cX5_share 20 = .ok (.getfield 10, 3) := by decide +kernel
theorem dX5_share_23 : decode cX5_share 23 = .ok (.iload_n 1, 1) := by decide +kernel
theorem dX5_share_24 : decode cX5_share 24 = .ok (.iload_n 2, 1) := by decide +kernel
theorem dX5_share_25 : decode cX5_share 25 = .ok (.invokevirtual 65, 3) := by decide +kernel
theorem dX5_share_28 : decode cX5_share 28 = .ok (.goto 6, 3) := by decide +kernel
theorem dX5_share_31 : decode cX5_share 31 = .ok (.ldc2_w 69, 3) := by decide +kernel
theorem dX5_share_34 : decode cX5_share 34 = .ok (.lreturn, 1) := by decide +kernel
set_option maxRecDepth 20000 in
theorem ggX5_days_X5_isUnit : GoodIn wsX5_days wsX5_isUnit := goodIn_r _ [8, 9, 61, 62, 63, 64, 65] (by decide +kernel) (by decide +kernel)
set_option maxRecDepth 20000 in
theorem gX5_days_X5_isUnit : GoodIn wsX5_days (wsV RX5 41 RX5 yX5_isUnit wsX5_isUnit) := goodIn_app (goodIn_of _ (by decide +kernel)) ggX5_days_X5_isUnit
set_option maxRecDepth 20000 in
theorem ggX5_days_X5_isDay : GoodIn wsX5_days wsX5_isDay := goodIn_r _ [12] (by decide +kernel) (by decide +kernel)
set_option maxRecDepth 20000 in
theorem gX5_days_X5_isDay : GoodIn wsX5_days (va_wsS RX5 48 yX5_isDay wsX5_isDay) := goodIn_app (goodIn_of _ (by decide +kernel)) ggX5_days_X5_isDay
set_option maxRecDepth 20000 in
theorem ggX5_days_X1_sharesSummed : GoodIn wsX5_days wsX1_sharesSummed := goodIn_r _ [17, 18, 19, 20, 21, 22, 23, 24, 25, 26, 16, 27, 28, 29, 30, 31, 32, 33, 34, 35, 36, 37, 38, 39, 40, 41, 42, 43, 44, 45, 46, 47, 48, 49, 50, 51, 52, 53, 54, 55, 56, 57, 58, 59, 60, 66, 67, 68, 69, 70, 71, 72, 73, 74, 75, 76] (by decide +kernel) (by decide +kernel)
set_option maxRecDepth 20000 in
theorem gX5_days_X1_sharesSummed : GoodIn wsX5_days (wsV RX5 71 RX1 yX1_sharesSummed wsX1_sharesSummed) := goodIn_app (goodIn_of _ (by decide +kernel)) ggX5_days_X1_sharesSummed
theorem dX5_days_0 : decode cX5_days 0 = .ok (.aload_n 0, 1) := by decide +kernel
theorem dX5_days_1 : decode cX5_days 1 = .ok (.iload_n 1, 1) := by decide +kernel
theorem dX5_days_2 : decode cX5_days 2 = .ok (.invokevirtual 41, 3) := by decide +kernel
