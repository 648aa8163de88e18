theorem dX6_lay_205 : decode cX6_lay 205 = .ok (.iastore, 1) := by decide +kernel
theorem dX6_lay_206 : decode cX6_lay 206 = .ok (.aload_n 0, 1) := by decide +kernel
theorem dX6_lay_207 : decode cX6_lay 207 = .ok (.getfield 69, 3) := by decide +kernel
theorem dX6_lay_210 : decode cX6_lay 210 = .ok (.iload_n 3, 1) := by decide +kernel
theorem dX6_lay_211 : decode cX6_lay 211 = .ok (.iconst 1, 1) := by decide +kernel
theorem dX6_lay_212 : decode cX6_lay 212 = .ok (.bastore, 1) := by decide +kernel
theorem dX6_lay_213 : decode cX6_lay 213 = .ok (.iinc 2 1, 3) := by decide +kernel
theorem dX6_lay_216 : decode cX6_lay 216 = .ok (.goto (-161), 3) := by decide +kernel
theorem dX6_lay_219 : decode cX6_lay 219 = .ok (.return_, 1) := by decide +kernel
set_option maxRecDepth 20000 in
theorem ggX6_shares_X6_lay : GoodIn wsX6_shares wsX6_lay := goodIn_r _ [10, 4, 11, 12, 13, 14, 15, 16, 17, 18, 19, 20, 21, 22, 23, 24, 25, 26, 27, 28, 29, 30, 31, 32, 33, 34, 35, 36, 37, 38, 39, 40, 41, 42, 43] (by decide +kernel) (by decide +kernel)
set_option maxRecDepth 20000 in
theorem gX6_shares_X6_lay : GoodIn wsX6_shares (wsV RX6 96 RX6 yX6_lay wsX6_lay) := goodIn_app (goodIn_of _ (by decide +kernel)) ggX6_shares_X6_lay
theorem dX6_shares_0 : decode cX6_shares 0 = .ok (.aload_n 0, 1) := by decide +kernel
theorem dX6_shares_1 : decode cX6_shares 1 = .ok (.iload_n 1, 1) := by decide +kernel
theorem dX6_shares_2 : decode cX6_shares 2 = .ok (.invokevirtual 96, 3) := by decide +kernel
theorem dX6_shares_5 : decode cX6_shares 5 = .ok (.iconst 0, 1) := by decide +kernel
theorem dX6_shares_6 : decode cX6_shares 6 = .ok (.istore_n 2, 1) := by decide +kernel
theorem dX6_shares_7 : decode cX6_shares 7 = .ok (.iload_n 2, 1) := by decide +kernel
theorem dX6_shares_8 : decode cX6_shares 8 = .ok (.bipush 10, 2) := by decide +kernel
theorem dX6_shares_10 : decode cX6_shares 10 = .ok (.if_icmp .ge 147, 3) := by decide +kernel
theorem dX6_shares_13 : decode cX6_shares 13 = .ok (.aload_n 0, 1) := by decide +kernel
theorem dX6_shares_14 : decode cX6_shares 14 = .ok (.getfield 65, 3) := by decide +kernel
theorem dX6_shares_17 : decode cX6_shares 17 = .ok (.iload_n 2, 1) := by decide +kernel
theorem dX6_shares_18 : decode cX6_shares 18 = .ok (.iload_n 2, 1) := by decide +kernel
theorem dX6_shares_19 : decode cX6_shares 19 = .ok (.ifCond .ne 9, 3) := by decide +kernel
theorem dX6_shares_22 : decode cX6_shares 22 = .ok (.ldc2_w 100, 3) := by decide +kernel
theorem dX6_shares_25 : decode cX6_shares 25 = .ok (.goto 14, 3) := by decide +kernel
theorem dX6_shares_28 : decode cX6_shares 28 = .ok (.ldc2_w 102, 3) := by decide +kernel
theorem dX6_shares_31 : decode cX6_shares 31 = .ok (.aload_n 0, 1) := by decide +kernel
theorem dX6_shares_32 : decode cX6_shares 32 = .ok (.getfield 62, 3) := by decide +kernel
theorem dX6_shares_35 : decode cX6_shares 35 = .ok (.iload_n 2, 1) := by decide +kernel
theorem dX6_shares_36 : decode cX6_shares 36 = .ok (.iaload, 1) := by decide +kernel
theorem dX6_shares_37 : decode cX6_shares 37 = .ok (.i2l, 1) := by decide +kernel
theorem dX6_shares_38 : decode cX6_shares 38 = .ok (.lmul, 1) := by decide +kernel
theorem dX6_shares_39 : decode cX6_shares 39 = .ok (.lastore, 1) := by decide +kernel
theorem dX6_shares_40 : decode cX6_shares 40 = .ok (.iconst 1, 1) := by decide +kernel
theorem dX6_shares_41 : decode cX6_shares 41 = .ok (.istore_n 3, 1) := by decide +kernel
theorem dX6_shares_42 : decode cX6_shares 42 = .ok (.iload_n 3, 1) := by decide +kernel
theorem dX6_shares_43 : decode cX6_shares 43 = .ok (.bipush 10, 2) := by decide +kernel
theorem dX6_shares_45 : decode cX6_shares 45 = .ok (.if_icmp .ge 106, 3) := by decide +kernel
theorem dX6_shares_48 : decode cX6_shares 48 = .ok (.iload_n 2, 1) := by decide +kernel
theorem dX6_shares_49 : decode cX6_shares 49 = .ok (.ifCond .le 102, 3) := by decide +kernel
theorem dX6_shares_52 : decode cX6_shares 52 = .ok (.aload_n 0, 1) := by decide +kernel
theorem dX6_shares_53 : decode cX6_shares 53 = .ok (.getfield 65, 3) := by decide +kernel
theorem dX6_shares_56 : decode cX6_shares 56 = .ok (.iload_n 2, 1) := by decide +kernel
theorem dX6_shares_57 : decode cX6_shares 57 = .ok (.dup2, 1) := by decide +kernel
theorem dX6_shares_58 : decode cX6_shares 58 = .ok (.laload, 1) := by decide +kernel
theorem dX6_shares_59 : decode cX6_shares 59 = .ok (.ldc2_w 104, 3) := by decide +kernel
theorem dX6_shares_62 : decode cX6_shares 62 = .ok (.aload_n 0, 1) := by decide +kernel
theorem dX6_shares_63 : decode cX6_shares 63 = .ok (.getfield 62, 3) := by decide +kernel
theorem dX6_shares_66 : decode cX6_shares 66 = .ok (.iload_n 3, 1) := by decide +kernel
theorem dX6_shares_67 : decode cX6_shares 67 = .ok (.iaload, 1) := by decide +kernel
theorem dX6_shares_68 : decode cX6_shares 68 = .ok (.i2l, 1) := by decide +kernel
theorem dX6_shares_69 : decode cX6_shares 69 = .ok (.lmul, 1) := by decide +kernel
theorem dX6_shares_70 : decode cX6_shares 70 = .ok (.aload_n 0, 1) := by decide +kernel
theorem dX6_shares_71 : decode cX6_shares 71 = .ok (.getfield 62, 3) := by decide +kernel
theorem dX6_shares_74 : decode cX6_shares 74 = .ok (.bipush 10, 2) := by decide +kernel
theorem dX6_shares_76 : decode cX6_shares 76 = .ok (.iload_n 3, 1) := by decide +kernel
theorem dX6_shares_77 : decode cX6_shares 77 = .ok (.imul, 1) := by decide +kernel
theorem dX6_shares_78 : decode cX6_shares 78 = .ok (.iload_n 2, 1) := by decide +kernel
theorem dX6_shares_79 : decode cX6_shares 79 = .ok (.iadd, 1) := by decide +kernel
theorem dX6_shares_80 : decode cX6_shares 80 = .ok (.iaload, 1) := by decide +kernel
theorem dX6_shares_81 : decode cX6_shares 81 = .ok (.i2l, 1) := by decide +kernel
theorem dX6_shares_82 : decode cX6_shares 82 = .ok (.lmul, 1) := by decide +kernel
theorem dX6_shares_83 : decode cX6_shares 83 = .ok (.ladd, 1) := by decide +kernel
theorem dX6_shares_84 : decode cX6_shares 84 = .ok (.lastore, 1) := by decide +kernel
theorem dX6_shares_85 : decode cX6_shares 85 = .ok (.iconst 1, 1) := by decide +kernel
theorem dX6_shares_86 : decode cX6_shares 86 = .ok (.istore 4, 2) := by decide +kernel
theorem dX6_shares_88 : decode cX6_shares 88 = .ok (.iload 4, 2) := by decide +kernel
theorem dX6_shares_90 : decode cX6_shares 90 = .ok (.bipush 10, 2) := by decide +kernel
theorem dX6_shares_92 : decode cX6_shares 92 = .ok (.if_icmp .ge 53, 3) := by decide +kernel
theorem dX6_shares_95 : decode cX6_shares 95 = .ok (.aload_n 0, 1) := by decide +kernel
theorem dX6_shares_96 : decode cX6_shares 96 = .ok (.getfield 65, 3) := by decide +kernel
theorem dX6_shares_99 : decode cX6_shares 99 = .ok (.iload_n 2, 1) := by decide +kernel
theorem dX6_shares_100 : decode cX6_shares 100 = .ok (.dup2, 1) := by decide +kernel
theorem dX6_shares_101 : decode cX6_shares 101 = .ok (.laload, 1) := by decide +kernel
theorem dX6_shares_102 : decode cX6_shares 102 = .ok (.aload_n 0, 1) := by decide +kernel
theorem dX6_shares_103 : decode cX6_shares 103 = .ok (.getfield 62, 3) := by decide +kernel
theorem dX6_shares_106 : decode cX6_shares 106 = .ok (.iload_n 3, 1) := by decide +kernel
theorem dX6_shares_107 : decode cX6_shares 107 = .ok (.iaload, 1) := by decide +kernel
theorem dX6_shares_108 : decode cX6_shares 108 = .ok (.i2l, 1) := by decide +kernel
theorem dX6_shares_109 : decode cX6_shares 109 = .ok (.aload_n 0, 1) := by decide +kernel
theorem dX6_shares_110 : decode cX6_shares 110 = .ok (.getfield 62, 3) := by decide +kernel
theorem dX6_shares_113 : decode cX6_shares 113 = .ok (.bipush 10, 2) := by decide +kernel
theorem dX6_shares_115 : decode cX6_shares 115 = .ok (.iload_n 3, 1) := by decide +kernel
theorem dX6_shares_116 : decode cX6_shares 116 = .ok (.imul, 1) := by decide +kernel
theorem dX6_shares_117 : decode cX6_shares 117 = .ok (.iload 4, 2) := by decide +kernel
theorem dX6_shares_119 : decode cX6_shares 119 = .ok (.iadd, 1) := by decide +kernel
theorem dX6_shares_120 : decode cX6_shares 120 = .ok (.iaload, 1) := by decide +kernel
theorem dX6_shares_121 : decode cX6_shares 121 = .ok (.i2l, 1) := by decide +kernel
theorem dX6_shares_122 : decode cX6_shares 122 = .ok (.lmul, 1) := by decide +kernel
theorem dX6_shares_123 : decode cX6_shares 123 = .ok (.aload_n 0, 1) := by decide +kernel
theorem dX6_shares_124 : decode cX6_shares 124 = .ok (.getfield 62, 3) := by decide +kernel
theorem dX6_shares_127 : decode cX6_shares 127 = .ok (.bipush 10, 2) := by decide +kernel
theorem dX6_shares_129 : decode cX6_shares 129 = .ok (.iload 4, 2) := by decide +kernel
theorem dX6_shares_131 : decode cX6_shares 131 = .ok (.imul, 1) := by decide +kernel
theorem dX6_shares_132 : decode cX6_shares 132 = .ok (.iload_n 2, 1) := by decide +kernel
theorem dX6_shares_133 : decode cX6_shares 133 = .ok (.iadd, 1) := by decide +kernel
theorem dX6_shares_134 : decode cX6_shares 134 = .ok (.iaload, 1) := by decide +kernel
theorem dX6_shares_135 : decode cX6_shares 135 = .ok (.i2l, 1) := by decide +kernel
theorem dX6_shares_136 : decode cX6_shares 136 = .ok (.lmul, 1) := by decide +kernel
theorem dX6_shares_137 : decode cX6_shares 137 = .ok (.ladd, 1) := by decide +kernel
theorem dX6_shares_138 : decode cX6_shares 138 = .ok (.lastore, 1) := by decide +kernel
theorem dX6_shares_139 : decode cX6_shares 139 = .ok (.iinc 4 1, 3) := by decide +kernel
theorem dX6_shares_142 : decode cX6_shares 142 = .ok (.goto (-54), 3) := by decide +kernel
theorem dX6_shares_145 : decode cX6_shares 145 = .ok (.iinc 3 1, 3) := by decide +kernel
theorem dX6_shares_148 : decode cX6_shares 148 = .ok (.goto (-106), 3) := by decide +kernel
theorem dX6_shares_151 : decode cX6_shares 151 = .ok (.iinc 2 1, 3) := by decide +kernel
theorem dX6_shares_154 : decode cX6_shares 154 = .ok (.goto (-147), 3) := by decide +kernel
theorem dX6_shares_157 : decode cX6_shares 157 = .ok (.return_, 1) := by decide +kernel
theorem dX6_mayHold_0 : decode cX6_mayHold 0 = .ok (.iconst 0, 1) := by decide +kernel
theorem dX6_mayHold_1 : decode cX6_mayHold 1 = .ok (.istore_n 3, 1) := by decide +kernel
theorem dX6_mayHold_2 : decode cX6_mayHold 2 = .ok (.iload_n 3, 1) := by decide +kernel
theorem dX6_mayHold_3 : decode cX6_mayHold 3 = .ok (.bipush 100, 2) := by decide +kernel
theorem dX6_mayHold_5 : decode cX6_mayHold 5 = .ok (.if_icmp .ge 30, 3) := by decide +kernel
theorem dX6_mayHold_8 : decode cX6_mayHold 8 = .ok (.aload_n 0, 1) := by decide +kernel
theorem dX6_mayHold_9 : decode cX6_mayHold 9 = .ok (.getfield 69, 3) := by decide +kernel
theorem dX6_mayHold_12 : decode cX6_mayHold 12 = .ok (.iload_n 3, 1) := by decide +kernel
theorem dX6_mayHold_13 : decode cX6_mayHold 13 = .ok (.iload_n 3, 1) := by decide +kernel
theorem dX6_mayHold_14 : decode cX6_mayHold 14 = .ok (.bipush 10, 2) := by decide +kernel
theorem dX6_mayHold_16 : decode cX6_mayHold 16 = .ok (.iload_n 1, 1) := by decide +kernel
theorem dX6_mayHold_17 : decode cX6_mayHold 17 = .ok (.imul, 1) := by decide +kernel
theorem dX6_mayHold_18 : decode cX6_mayHold 18 = .ok (.iload_n 2, 1) := by decide +kernel
theorem dX6_mayHold_19 : decode cX6_mayHold 19 = .ok (.iadd, 1) := by decide +kernel
theorem dX6_mayHold_20 : decode cX6_mayHold 20 = .ok (.if_icmp .ne 7, 3) := by decide +kernel
theorem dX6_mayHold_23 : decode cX6_mayHold 23 = .ok (.iconst 1, 1) := by decide +kernel
theorem dX6_mayHold_24 : decode cX6_mayHold 24 = .ok (.goto 4, 3) := by decide +kernel
theorem dX6_mayHold_27 : decode cX6_mayHold 27 = .ok (.iconst 0, 1) := by decide +kernel
theorem dX6_mayHold_28 : decode cX6_mayHold 28 = .ok (.bastore, 1) := by decide +kernel
theorem dX6_mayHold_29 : decode cX6_mayHold 29 = .ok (.iinc 3 1, 3) := by decide +kernel
theorem dX6_mayHold_32 : decode cX6_mayHold 32 = .ok (.goto (-30), 3) := by decide +kernel
theorem dX6_mayHold_35 : decode cX6_mayHold 35 = .ok (.iconst 0, 1) := by decide +kernel
theorem dX6_mayHold_36 : decode cX6_mayHold 36 = .ok (.istore_n 3, 1) := by decide +kernel
theorem dX6_mayHold_37 : decode cX6_mayHold 37 = .ok (.iload_n 3, 1) := by decide +kernel
theorem dX6_mayHold_38 : decode cX6_mayHold 38 = .ok (.aload_n 0, 1) := by decide +kernel
theorem dX6_mayHold_39 : decode cX6_mayHold 39 = .ok (.getfield 93, 3) := by decide +kernel
theorem dX6_mayHold_42 : decode cX6_mayHold 42 = .ok (.if_icmp .ge 47, 3) := by decide +kernel
theorem dX6_mayHold_45 : decode cX6_mayHold 45 = .ok (.aload_n 0, 1) := by decide +kernel
theorem dX6_mayHold_46 : decode cX6_mayHold 46 = .ok (.getfield 69, 3) := by decide +kernel
theorem dX6_mayHold_49 : decode cX6_mayHold 49 = .ok (.bipush 10, 2) := by decide +kernel
theorem dX6_mayHold_51 : decode cX6_mayHold 51 = .ok (.aload_n 0, 1) := by decide +kernel
theorem dX6_mayHold_52 : decode cX6_mayHold 52 = .ok (.getfield 13, 3) := by decide +kernel
theorem dX6_mayHold_55 : decode cX6_mayHold 55 = .ok (.iload_n 3, 1) := by decide +kernel
theorem dX6_mayHold_56 : decode cX6_mayHold 56 = .ok (.iaload, 1) := by decide +kernel
theorem dX6_mayHold_57 : decode cX6_mayHold 57 = .ok (.imul, 1) := by decide +kernel
theorem dX6_mayHold_58 : decode cX6_mayHold 58 = .ok (.aload_n 0, 1) := by decide +kernel
theorem dX6_mayHold_59 : decode cX6_mayHold 59 = .ok (.getfield 17, 3) := by decide +kernel
theorem dX6_mayHold_62 : decode cX6_mayHold 62 = .ok (.iload_n 3, 1) := by decide +kernel
theorem dX6_mayHold_63 : decode cX6_mayHold 63 = .ok (.iaload, 1) := by decide +kernel
theorem dX6_mayHold_64 : decode cX6_mayHold 64 = .ok (.iadd, 1) := by decide +kernel
theorem dX6_mayHold_65 : decode cX6_mayHold 65 = .ok (.dup2, 1) := by decide +kernel
theorem dX6_mayHold_66 : decode cX6_mayHold 66 = .ok (.baload, 1) := by decide +kernel
theorem dX6_mayHold_67 : decode cX6_mayHold 67 = .ok (.aload_n 0, 1) := by decide +kernel
theorem dX6_mayHold_68 : decode cX6_mayHold 68 = .ok (.getfield 20, 3) := by decide +kernel
theorem dX6_mayHold_71 : decode cX6_mayHold 71 = .ok (.iload_n 3, 1) := by decide +kernel
theorem dX6_mayHold_72 : decode cX6_mayHold 72 = .ok (.iaload, 1) := by decide +kernel
theorem dX6_mayHold_73 : decode cX6_mayHold 73 = .ok (.ifCond .le 7, 3) := by decide +kernel
theorem dX6_mayHold_76 : decode cX6_mayHold 76 = .ok (.iconst 1, 1) := by decide +kernel
theorem dX6_mayHold_77 : decode cX6_mayHold 77 = .ok (.goto 4, 3) := by decide +kernel
theorem dX6_mayHold_80 : decode cX6_mayHold 80 = .ok (.iconst 0, 1) := by decide +kernel
theorem dX6_mayHold_81 : decode cX6_mayHold 81 = .ok (.ior, 1) := by decide +kernel
theorem dX6_mayHold_82 : decode cX6_mayHold 82 = .ok (.bastore, 1) := by decide +kernel
theorem dX6_mayHold_83 : decode cX6_mayHold 83 = .ok (.iinc 3 1, 3) := by decide +kernel
theorem dX6_mayHold_86 : decode cX6_mayHold 86 = .ok (.goto (-49), 3) := by decide +kernel
theorem dX6_mayHold_89 : decode cX6_mayHold 89 = .ok (.iconst 1, 1) := by decide +kernel
theorem dX6_mayHold_90 : decode cX6_mayHold 90 = .ok (.istore_n 3, 1) := by decide +kernel
theorem dX6_mayHold_91 : decode cX6_mayHold 91 = .ok (.iconst 0, 1) := by decide +kernel
theorem dX6_mayHold_92 : decode cX6_mayHold 92 = .ok (.istore 4, 2) := by decide +kernel
theorem dX6_mayHold_94 : decode cX6_mayHold 94 = .ok (.iload 4, 2) := by decide +kernel
theorem dX6_mayHold_96 : decode cX6_mayHold 96 = .ok (.iconst 2, 1) := by decide +kernel
theorem dX6_mayHold_97 : decode cX6_mayHold 97 = .ok (.if_icmp .ge 197, 3) := by decide +kernel
theorem dX6_mayHold_100 : decode cX6_mayHold 100 = .ok (.iconst 0, 1) := by decide +kernel
theorem dX6_mayHold_101 : decode cX6_mayHold 101 = .ok (.istore 5, 2) := by decide +kernel
theorem dX6_mayHold_103 : decode cX6_mayHold 103 = .ok (.iload 5, 2) := by decide +kernel
theorem dX6_mayHold_105 : decode cX6_mayHold 105 = .ok (.bipush 10, 2) := by decide +kernel
theorem dX6_mayHold_107 : decode cX6_mayHold 107 = .ok (.if_icmp .ge 32, 3) := by decide +kernel
theorem dX6_mayHold_110 : decode cX6_mayHold 110 = .ok (.aload_n 0, 1) := by decide +kernel
theorem dX6_mayHold_111 : decode cX6_mayHold 111 = .ok (.getfield 73, 3) := by decide +kernel
theorem dX6_mayHold_114 : decode cX6_mayHold 114 = .ok (.iload 5, 2) := by decide +kernel
theorem dX6_mayHold_116 : decode cX6_mayHold 116 = .ok (.iload 4, 2) := by decide +kernel
theorem dX6_mayHold_118 : decode cX6_mayHold 118 = .ok (.ifCond .eq 8, 3) := by decide +kernel
theorem dX6_mayHold_121 : decode cX6_mayHold 121 = .ok (.iload 5, 2) := by decide +kernel
theorem dX6_mayHold_123 : decode cX6_mayHold 123 = .ok (.ifCond .ne 7, 3) := by decide +kernel
theorem dX6_mayHold_126 : decode cX6_mayHold 126 = .ok (.iconst 0, 1) := by decide +kernel
theorem dX6_mayHold_127 : decode cX6_mayHold 127 = .ok (.goto 5, 3) := by decide +kernel
theorem dX6_mayHold_130 : decode cX6_mayHold 130 = .ok (.bipush (-9), 2) := by decide +kernel
theorem dX6_mayHold_132 : decode cX6_mayHold 132 = .ok (.iastore, 1) := by decide +kernel
theorem dX6_mayHold_133 : decode cX6_mayHold 133 = .ok (.iinc 5 1, 3) := by decide +kernel
theorem dX6_mayHold_136 : decode cX6_mayHold 136 = .ok (.goto (-33), 3) := by decide +kernel
theorem dX6_mayHold_139 : decode cX6_mayHold 139 = .ok (.iconst 0, 1) := by decide +kernel
theorem dX6_mayHold_140 : decode cX6_mayHold 140 = .ok (.istore 5, 2) := by decide +kernel
theorem dX6_mayHold_142 : decode cX6_mayHold 142 = .ok (.iload 5, 2) := by decide +kernel
theorem dX6_mayHold_144 : decode cX6_mayHold 144 = .ok (.bipush 11, 2) := by decide +kernel
theorem dX6_mayHold_146 : decode cX6_mayHold 146 = .ok (.if_icmp .ge 95, 3) := by decide +kernel
theorem dX6_mayHold_149 : decode cX6_mayHold 149 = .ok (.iconst 0, 1) := by decide +kernel
theorem dX6_mayHold_150 : decode cX6_mayHold 150 = .ok (.istore 6, 2) := by decide +kernel
theorem dX6_mayHold_152 : decode cX6_mayHold 152 = .ok (.iload 6, 2) := by decide +kernel
theorem dX6_mayHold_154 : decode cX6_mayHold 154 = .ok (.bipush 100, 2) := by decide +kernel
theorem dX6_mayHold_156 : decode cX6_mayHold 156 = .ok (.if_icmp .ge 79, 3) := by decide +kernel
theorem dX6_mayHold_159 : decode cX6_mayHold 159 = .ok (.aload_n 0, 1) := by decide +kernel
theorem dX6_mayHold_160 : decode cX6_mayHold 160 = .ok (.getfield 69, 3) := by decide +kernel
theorem dX6_mayHold_163 : decode cX6_mayHold 163 = .ok (.iload 6, 2) := by decide +kernel
theorem dX6_mayHold_165 : decode cX6_mayHold 165 = .ok (.baload, 1) := by decide +kernel
theorem dX6_mayHold_166 : decode cX6_mayHold 166 = .ok (.ifCond .eq 63, 3) := by decide +kernel
theorem dX6_mayHold_169 : decode cX6_mayHold 169 = .ok (.aload_n 0, 1) := by decide +kernel
theorem dX6_mayHold_170 : decode cX6_mayHold 170 = .ok (.getfield 73, 3) := by decide +kernel
theorem dX6_mayHold_173 : decode cX6_mayHold 173 = .ok (.iload 6, 2) := by decide +kernel
theorem dX6_mayHold_175 : decode cX6_mayHold 175 = .ok (.bipush 10, 2) := by decide +kernel
theorem dX6_mayHold_177 : decode cX6_mayHold 177 = .ok (.idiv, 1) := by decide +kernel
theorem dX6_mayHold_178 : decode cX6_mayHold 178 = .ok (.iaload, 1) := by decide +kernel
theorem dX6_mayHold_179 : decode cX6_mayHold 179 = .ok (.ifCond .lt 50, 3) := by decide +kernel
theorem dX6_mayHold_182 : decode cX6_mayHold 182 = .ok (.aload_n 0, 1) := by decide +kernel
theorem dX6_mayHold_183 : decode cX6_mayHold 183 = .ok (.getfield 73, 3) := by decide +kernel
theorem dX6_mayHold_186 : decode cX6_mayHold 186 = .ok (.iload 6, 2) := by decide +kernel
theorem dX6_mayHold_188 : decode cX6_mayHold 188 = .ok (.bipush 10, 2) := by decide +kernel
theorem dX6_mayHold_190 : decode cX6_mayHold 190 = .ok (.irem, 1) := by decide +kernel
theorem dX6_mayHold_191 : decode cX6_mayHold 191 = .ok (.iaload, 1) := by decide +kernel
theorem dX6_mayHold_192 : decode cX6_mayHold 192 = .ok (.aload_n 0, 1) := by decide +kernel
theorem dX6_mayHold_193 : decode cX6_mayHold 193 = .ok (.getfield 73, 3) := by decide +kernel
theorem dX6_mayHold_196 : decode cX6_mayHold 196 = .ok (.iload 6, 2) := by decide +kernel
theorem dX6_mayHold_198 : decode cX6_mayHold 198 = .ok (.bipush 10, 2) := by decide +kernel
theorem dX6_mayHold_200 : decode cX6_mayHold 200 = .ok (.idiv, 1) := by decide +kernel
theorem dX6_mayHold_201 : decode cX6_mayHold 201 = .ok (.iaload, 1) := by decide +kernel
theorem dX6_mayHold_202 : decode cX6_mayHold 202 = .ok (.iconst 1, 1) := by decide +kernel
theorem dX6_mayHold_203 : decode cX6_mayHold 203 = .ok (.iadd, 1) := by decide +kernel
theorem dX6_mayHold_204 : decode cX6_mayHold 204 = .ok (.if_icmp .ge 25, 3) := by decide +kernel
theorem dX6_mayHold_207 : decode cX6_mayHold 207 = .ok (.aload_n 0, 1) := by decide +kernel
theorem dX6_mayHold_208 : decode cX6_mayHold 208 = .ok (.getfield 73, 3) := by decide +kernel
theorem dX6_mayHold_211 : decode cX6_mayHold 211 = .ok (.iload 6, 2) := by decide +kernel
theorem dX6_mayHold_213 : decode cX6_mayHold 213 = .ok (.bipush 10, 2) := by decide +kernel
theorem dX6_mayHold_215 : decode cX6_mayHold 215 = .ok (.irem, 1) := by decide +kernel
theorem dX6_mayHold_216 : decode cX6_mayHold 216 = .ok (.aload_n 0, 1) := by decide +kernel
theorem dX6_mayHold_217 : decode cX6_mayHold 217 = .ok (.getfield 73, 3) := by decide +kernel
theorem dX6_mayHold_220 : decode cX6_mayHold 220 = .ok (.iload 6, 2) := by decide +kernel
theorem dX6_mayHold_222 : decode cX6_mayHold 222 = .ok (.bipush 10, 2) := by decide +kernel
theorem dX6_mayHold_224 : decode cX6_mayHold 224 = .ok (.idiv, 1) := by decide +kernel
theorem dX6_mayHold_225 : decode cX6_mayHold 225 = .ok (.iaload, 1) := by decide +kernel
theorem dX6_mayHold_226 : decode cX6_mayHold 226 = .ok (.iconst 1, 1) := by decide +kernel
theorem dX6_mayHold_227 : decode cX6_mayHold 227 = .ok (.iadd, 1) := by decide +kernel
theorem dX6_mayHold_228 : decode cX6_mayHold 228 = .ok (.iastore, 1) := by decide +kernel
theorem dX6_mayHold_229 : decode cX6_mayHold 229 = .ok (.iinc 6 1, 3) := by decide +kernel
theorem dX6_mayHold_232 : decode cX6_mayHold 232 = .ok (.goto (-80), 3) := by decide +kernel
theorem dX6_mayHold_235 : decode cX6_mayHold 235 = .ok (.iinc 5 1, 3) := by decide +kernel
theorem dX6_mayHold_238 : decode cX6_mayHold 238 = .ok (.goto (-96), 3) := by decide +kernel
theorem dX6_mayHold_241 : decode cX6_mayHold 241 = .ok (.iconst 0, 1) := by decide +kernel
theorem dX6_mayHold_242 : decode cX6_mayHold 242 = .ok (.istore 5, 2) := by decide +kernel
theorem dX6_mayHold_244 : decode cX6_mayHold 244 = .ok (.iload 5, 2) := by decide +kernel
theorem dX6_mayHold_246 : decode cX6_mayHold 246 = .ok (.bipush 10, 2) := by decide +kernel
theorem dX6_mayHold_248 : decode cX6_mayHold 248 = .ok (.if_icmp .ge 40, 3) := by decide +kernel
theorem dX6_mayHold_251 : decode cX6_mayHold 251 = .ok (.iload_n 3, 1) := by decide +kernel
theorem dX6_mayHold_252 : decode cX6_mayHold 252 = .ok (.ifCond .eq 28, 3) := by decide +kernel
theorem dX6_mayHold_255 : decode cX6_mayHold 255 = .ok (.aload_n 0, 1) := by decide +kernel
theorem dX6_mayHold_256 : decode cX6_mayHold 256 = .ok (.getfield 73, 3) := by decide +kernel
theorem dX6_mayHold_259 : decode cX6_mayHold 259 = .ok (.iload 5, 2) := by decide +kernel
theorem dX6_mayHold_261 : decode cX6_mayHold 261 = .ok (.iaload, 1) := by decide +kernel
theorem dX6_mayHold_262 : decode cX6_mayHold 262 = .ok (.iload 4, 2) := by decide +kernel
theorem dX6_mayHold_264 : decode cX6_mayHold 264 = .ok (.ifCond .ne 8, 3) := by decide +kernel
theorem dX6_mayHold_267 : decode cX6_mayHold 267 = .ok (.bipush 9, 2) := by decide +kernel
theorem dX6_mayHold_269 : decode cX6_mayHold 269 = .ok (.goto 4, 3) := by decide +kernel
theorem dX6_mayHold_272 : decode cX6_mayHold 272 = .ok (.iconst 3, 1) := by decide +kernel
theorem dX6_mayHold_273 : decode cX6_mayHold 273 = .ok (.if_icmp .gt 7, 3) := by decide +kernel
theorem dX6_mayHold_276 : decode cX6_mayHold 276 = .ok (.iconst 1, 1) := by decide +kernel
theorem dX6_mayHold_277 : decode cX6_mayHold 277 = .ok (.goto 4, 3) := by decide +kernel
theorem dX6_mayHold_280 : decode cX6_mayHold 280 = .ok (.iconst 0, 1) := by decide +kernel
theorem dX6_mayHold_281 : decode cX6_mayHold 281 = .ok (.istore_n 3, 1) := by decide +kernel
theorem dX6_mayHold_282 : decode cX6_mayHold 282 = .ok (.iinc 5 1, 3) := by decide +kernel
theorem dX6_mayHold_285 : decode cX6_mayHold 285 = .ok (.goto (-41), 3) := by decide +kernel
theorem dX6_mayHold_288 : decode cX6_mayHold 288 = .ok (.iinc 4 1, 3) := by decide +kernel
theorem dX6_mayHold_291 : decode cX6_mayHold 291 = .ok (.goto (-197), 3) := by decide +kernel
theorem dX6_mayHold_294 : decode cX6_mayHold 294 = .ok (.iload_n 3, 1) := by decide +kernel
theorem dX6_mayHold_295 : decode cX6_mayHold 295 = .ok (.ireturn, 1) := by decide +kernel
set_option maxRecDepth 20000 in
theorem ggX6_hold_X6_noUnit : GoodIn wsX6_hold wsX6_noUnit := goodIn_r _ [13, 14, 15, 16, 12, 17, 32, 33, 34, 35, 36, 37, 38, 39, 40, 41, 42, 43, 44, 45, 46, 47, 48, 49, 50, 51, 52, 53, 54, 55, 56, 57] (by decide +kernel) (by decide +kernel)
set_option maxRecDepth 20000 in
theorem gX6_hold_X6_noUnit : GoodIn wsX6_hold (wsV RX6 106 RX6 yX6_noUnit wsX6_noUnit) := goodIn_app (goodIn_of _ (by decide +kernel)) ggX6_hold_X6_noUnit
set_option maxRecDepth 20000 in
theorem ggX6_hold_X6_in : GoodIn wsX6_hold wsX6_in := goodIn_r _ [17] (by decide +kernel) (by decide +kernel)
set_option maxRecDepth 20000 in
theorem gX6_hold_X6_in : GoodIn wsX6_hold (va_wsS RX6 79 yX6_in wsX6_in) := goodIn_app (goodIn_of _ (by decide +kernel)) ggX6_hold_X6_in
set_option maxRecDepth 20000 in
theorem ggX6_hold_X6_noDay : GoodIn wsX6_hold wsX6_noDay := goodIn_r _ [20, 21, 15, 16, 12, 17] (by decide +kernel) (by decide +kernel)
set_option maxRecDepth 20000 in
theorem gX6_hold_X6_noDay : GoodIn wsX6_hold (va_wsS RX6 110 yX6_noDay wsX6_noDay) := goodIn_app (goodIn_of _ (by decide +kernel)) ggX6_hold_X6_noDay
set_option maxRecDepth 20000 in
theorem ggX6_hold_X6_mayHold : GoodIn wsX6_hold wsX6_mayHold := goodIn_r _ [25, 26, 4, 5, 6, 8, 27, 32, 33, 34, 35, 36, 37, 38, 39, 40, 41, 42, 43, 44, 45, 46, 47, 48, 49, 50, 51, 52, 53, 54, 55, 56, 57] (by decide +kernel) (by decide +kernel)
set_option maxRecDepth 20000 in
theorem gX6_hold_X6_mayHold : GoodIn wsX6_hold (wsV RX6 113 RX6 yX6_mayHold wsX6_mayHold) := goodIn_app (goodIn_of _ (by decide +kernel)) ggX6_hold_X6_mayHold
set_option maxRecDepth 20000 in
theorem ggX6_hold_X6_lay : GoodIn wsX6_hold wsX6_lay := goodIn_r _ [31, 3, 27, 26, 4, 5, 6, 7, 8, 32, 33, 34, 35, 36, 37, 38, 39, 40, 41, 42, 43, 44, 45, 46, 47, 48, 49, 50, 51, 52, 53, 54, 55, 56, 57] (by decide +kernel) (by decide +kernel)
set_option maxRecDepth 20000 in
theorem gX6_hold_X6_lay : GoodIn wsX6_hold (wsV RX6 96 RX6 yX6_lay wsX6_lay) := goodIn_app (goodIn_of _ (by decide +kernel)) ggX6_hold_X6_lay
theorem dX6_hold_0 : decode cX6_hold 0 = .ok (.aload_n 0, 1) := by decide +kernel
theorem dX6_hold_1 : decode cX6_hold 1 = .ok (.iconst 0, 1) := by decide +kernel
theorem dX6_hold_2 : decode cX6_hold 2 = .ok (.putfield 76, 3) := by decide +kernel
theorem dX6_hold_5 : decode cX6_hold 5 = .ok (.aload_n 0, 1) := by decide +kernel
theorem dX6_hold_6 : decode cX6_hold 6 = .ok (.iload_n 1, 1) := by decide +kernel
theorem dX6_hold_7 : decode cX6_hold 7 = .ok (.invokevirtual 106, 3) := by decide +kernel
theorem dX6_hold_10 : decode cX6_hold 10 = .ok (.ifCond .ne 11, 3) := by decide +kernel
theorem dX6_hold_13 : decode cX6_hold 13 = .ok (.aload_n 0, 1) := by decide +kernel
theorem dX6_hold_14 : decode cX6_hold 14 = .ok (.iload_n 2, 1) := by decide +kernel
theorem dX6_hold_15 : decode cX6_hold 15 = .ok (.invokevirtual 106, 3) := by decide +kernel
theorem dX6_hold_18 : decode cX6_hold 18 = .ok (.ifCond .eq 5, 3) := by decide +kernel
theorem dX6_hold_21 : decode cX6_hold 21 = .ok (.iconst (-1), 1) := by decide +kernel
theorem dX6_hold_22 : decode cX6_hold 22 = .ok (.ireturn, 1) := by decide +kernel
theorem dX6_hold_23 : decode cX6_hold 23 = .ok (.iload_n 3, 1) := by decide +kernel
theorem dX6_hold_24 : decode cX6_hold 24 = .ok (.i2l, 1) := by decide +kernel
theorem dX6_hold_25 : decode cX6_hold 25 = .ok (.lconst 0, 1) := by decide +kernel
theorem dX6_hold_26 : decode cX6_hold 26 = .ok (.ldc2_w 104, 3) := by decide +kernel
theorem dX6_hold_29 : decode cX6_hold 29 = .ok (.invokestatic 79, 3) := by decide +kernel
theorem dX6_hold_32 : decode cX6_hold 32 = .ok (.ifCond .eq 11, 3) := by decide +kernel
theorem dX6_hold_35 : decode cX6_hold 35 = .ok (.iload 4, 2) := by decide +kernel
theorem dX6_hold_37 : decode cX6_hold 37 = .ok (.invokestatic 110, 3) := by decide +kernel
theorem dX6_hold_40 : decode cX6_hold 40 = .ok (.ifCond .eq 6, 3) := by decide +kernel
theorem dX6_hold_43 : decode cX6_hold 43 = .ok (.bipush (-2), 2) := by decide +kernel
theorem dX6_hold_45 : decode cX6_hold 45 = .ok (.ireturn, 1) := by decide +kernel
theorem dX6_hold_46 : decode cX6_hold 46 = .ok (.iload_n 1, 1) := by decide +kernel
theorem dX6_hold_47 : decode cX6_hold 47 = .ok (.iload_n 2, 1) := by decide +kernel
theorem dX6_hold_48 : decode cX6_hold 48 = .ok (.if_icmp .eq 16, 3) := by decide +kernel
theorem dX6_hold_51 : decode cX6_hold 51 = .ok (.iload_n 3, 1) := by decide +kernel
theorem dX6_hold_52 : decode cX6_hold 52 = .ok (.ifCond .le 15, 3) := by decide +kernel
theorem dX6_hold_55 : decode cX6_hold 55 = .ok (.aload_n 0, 1) := by decide +kernel
theorem dX6_hold_56 : decode cX6_hold 56 = .ok (.iload_n 1, 1) := by decide +kernel
theorem dX6_hold_57 : decode cX6_hold 57 = .ok (.iload_n 2, 1) := by decide +kernel
theorem dX6_hold_58 : decode cX6_hold 58 = .ok (.invokevirtual 113, 3) := by decide +kernel
theorem dX6_hold_61 : decode cX6_hold 61 = .ok (.ifCond .ne 6, 3) := by decide +kernel
theorem dX6_hold_64 : decode cX6_hold 64 = .ok (.bipush (-3), 2) := by decide +kernel
theorem dX6_hold_66 : decode cX6_hold 66 = .ok (.ireturn, 1) := by decide +kernel
theorem dX6_hold_67 : decode cX6_hold 67 = .ok (.aload_n 0, 1) := by decide +kernel
theorem dX6_hold_68 : decode cX6_hold 68 = .ok (.iload 4, 2) := by decide +kernel
theorem dX6_hold_70 : decode cX6_hold 70 = .ok (.invokevirtual 96, 3) := by decide +kernel
theorem dX6_hold_73 : decode cX6_hold 73 = .ok (.aload_n 0, 1) := by decide +kernel
theorem dX6_hold_74 : decode cX6_hold 74 = .ok (.getfield 62, 3) := by decide +kernel
theorem dX6_hold_77 : decode cX6_hold 77 = .ok (.bipush 10, 2) := by decide +kernel
theorem dX6_hold_79 : decode cX6_hold 79 = .ok (.iload_n 1, 1) := by decide +kernel
theorem dX6_hold_80 : decode cX6_hold 80 = .ok (.imul, 1) := by decide +kernel
theorem dX6_hold_81 : decode cX6_hold 81 = .ok (.iload_n 2, 1) := by decide +kernel
theorem dX6_hold_82 : decode cX6_hold 82 = .ok (.iadd, 1) := by decide +kernel
theorem dX6_hold_83 : decode cX6_hold 83 = .ok (.iaload, 1) := by decide +kernel
theorem dX6_hold_84 : decode cX6_hold 84 = .ok (.istore 5, 2) := by decide +kernel
theorem dX6_hold_86 : decode cX6_hold 86 = .ok (.aload_n 0, 1) := by decide +kernel
theorem dX6_hold_87 : decode cX6_hold 87 = .ok (.getfield 93, 3) := by decide +kernel
theorem dX6_hold_90 : decode cX6_hold 90 = .ok (.istore 6, 2) := by decide +kernel
theorem dX6_hold_92 : decode cX6_hold 92 = .ok (.iconst 0, 1) := by decide +kernel
theorem dX6_hold_93 : decode cX6_hold 93 = .ok (.istore 7, 2) := by decide +kernel
theorem dX6_hold_95 : decode cX6_hold 95 = .ok (.iload 7, 2) := by decide +kernel
theorem dX6_hold_97 : decode cX6_hold 97 = .ok (.aload_n 0, 1) := by decide +kernel
theorem dX6_hold_98 : decode cX6_hold 98 = .ok (.getfield 93, 3) := by decide +kernel
theorem dX6_hold_101 : decode cX6_hold 101 = .ok (.if_icmp .ge 52, 3) := by decide +kernel
theorem dX6_hold_104 : decode cX6_hold 104 = .ok (.aload_n 0, 1) := by decide +kernel
theorem dX6_hold_105 : decode cX6_hold 105 = .ok (.getfield 13, 3) := by decide +kernel
theorem dX6_hold_108 : decode cX6_hold 108 = .ok (.iload 7, 2) := by decide +kernel
theorem dX6_hold_110 : decode cX6_hold 110 = .ok (.iaload, 1) := by decide +kernel
theorem dX6_hold_111 : decode cX6_hold 111 = .ok (.iload_n 1, 1) := by decide +kernel
theorem dX6_hold_112 : decode cX6_hold 112 = .ok (.if_icmp .ne 31, 3) := by decide +kernel
theorem dX6_hold_115 : decode cX6_hold 115 = .ok (.aload_n 0, 1) := by decide +kernel
theorem dX6_hold_116 : decode cX6_hold 116 = .ok (.getfield 17, 3) := by decide +kernel
theorem dX6_hold_119 : decode cX6_hold 119 = .ok (.iload 7, 2) := by decide +kernel
theorem dX6_hold_121 : decode cX6_hold 121 = .ok (.iaload, 1) := by decide +kernel
theorem dX6_hold_122 : decode cX6_hold 122 = .ok (.iload_n 2, 1) := by decide +kernel
theorem dX6_hold_123 : decode cX6_hold 123 = .ok (.if_icmp .ne 20, 3) := by decide +kernel
theorem dX6_hold_126 : decode cX6_hold 126 = .ok (.aload_n 0, 1) := by decide +kernel
theorem dX6_hold_127 : decode cX6_hold 127 = .ok (.getfield 23, 3) := by decide +kernel
theorem dX6_hold_130 : decode cX6_hold 130 = .ok (.iload 7, 2) := by decide +kernel
theorem dX6_hold_132 : decode cX6_hold 132 = .ok (.iaload, 1) := by decide +kernel
theorem dX6_hold_133 : decode cX6_hold 133 = .ok (.iload 4, 2) := by decide +kernel
theorem dX6_hold_135 : decode cX6_hold 135 = .ok (.if_icmp .ne 8, 3) := by decide +kernel
theorem dX6_hold_138 : decode cX6_hold 138 = .ok (.iload 7, 2) := by decide +kernel
theorem dX6_hold_140 : decode cX6_hold 140 = .ok (.goto 5, 3) := by decide +kernel
theorem dX6_hold_143 : decode cX6_hold 143 = .ok (.iload 6, 2) := by decide +kernel
theorem dX6_hold_145 : decode cX6_hold 145 = .ok (.istore 6, 2) := by decide +kernel
theorem dX6_hold_147 : decode cX6_hold 147 = .ok (.iinc 7 1, 3) := by decide +kernel
theorem dX6_hold_150 : decode cX6_hold 150 = .ok (.goto (-55), 3) := by decide +kernel
theorem dX6_hold_153 : decode cX6_hold 153 = .ok (.iload 6, 2) := by decide +kernel
theorem dX6_hold_155 : decode cX6_hold 155 = .ok (.bipush 100, 2) := by decide +kernel
theorem dX6_hold_157 : decode cX6_hold 157 = .ok (.if_icmp .ne 6, 3) := by decide +kernel
theorem dX6_hold_160 : decode cX6_hold 160 = .ok (.bipush (-4), 2) := by decide +kernel
theorem dX6_hold_162 : decode cX6_hold 162 = .ok (.ireturn, 1) := by decide +kernel
theorem dX6_hold_163 : decode cX6_hold 163 = .ok (.aload_n 0, 1) := by decide +kernel
theorem dX6_hold_164 : decode cX6_hold 164 = .ok (.getfield 13, 3) := by decide +kernel
theorem dX6_hold_167 : decode cX6_hold 167 = .ok (.iload 6, 2) := by decide +kernel
theorem dX6_hold_169 : decode cX6_hold 169 = .ok (.iload_n 1, 1) := by decide +kernel
theorem dX6_hold_170 : decode cX6_hold 170 = .ok (.iastore, 1) := by decide +kernel
theorem dX6_hold_171 : decode cX6_hold 171 = .ok (.aload_n 0, 1) := by decide +kernel
theorem dX6_hold_172 : decode cX6_hold 172 = .ok (.getfield 17, 3) := by decide +kernel
theorem dX6_hold_175 : decode cX6_hold 175 = .ok (.iload 6, 2) := by decide +kernel
theorem dX6_hold_177 : decode cX6_hold 177 = .ok (.iload_n 2, 1) := by decide +kernel
theorem dX6_hold_178 : decode cX6_hold 178 = .ok (.iastore, 1) := by decide +kernel
theorem dX6_hold_179 : decode cX6_hold 179 = .ok (.aload_n 0, 1) := by decide +kernel
theorem dX6_hold_180 : decode cX6_hold 180 = .ok (.getfield 20, 3) := by decide +kernel
theorem dX6_hold_183 : decode cX6_hold 183 = .ok (.iload 6, 2) := by decide +kernel
theorem dX6_hold_185 : decode cX6_hold 185 = .ok (.iload_n 3, 1) := by decide +kernel
theorem dX6_hold_186 : decode cX6_hold 186 = .ok (.iastore, 1) := by decide +kernel
theorem dX6_hold_187 : decode cX6_hold 187 = .ok (.aload_n 0, 1) := by decide +kernel
theorem dX6_hold_188 : decode cX6_hold 188 = .ok (.getfield 23, 3) := by decide +kernel
theorem dX6_hold_191 : decode cX6_hold 191 = .ok (.iload 6, 2) := by decide +kernel
theorem dX6_hold_193 : decode cX6_hold 193 = .ok (.iload 4, 2) := by decide +kernel
theorem dX6_hold_195 : decode cX6_hold 195 = .ok (.iastore, 1) := by decide +kernel
theorem dX6_hold_196 : decode cX6_hold 196 = .ok (.aload_n 0, 1) := by decide +kernel
theorem dX6_hold_197 : decode cX6_hold 197 = .ok (.iload 6, 2) := by decide +kernel
theorem dX6_hold_199 : decode cX6_hold 199 = .ok (.aload_n 0, 1) := by decide +kernel
theorem dX6_hold_200 : decode cX6_hold 200 = .ok (.getfield 93, 3) := by decide +kernel
theorem dX6_hold_203 : decode cX6_hold 203 = .ok (.if_icmp .ne 12, 3) := by decide +kernel
theorem dX6_hold_206 : decode cX6_hold 206 = .ok (.aload_n 0, 1) := by decide +kernel
theorem dX6_hold_207 : decode cX6_hold 207 = .ok (.getfield 93, 3) := by decide +kernel
theorem dX6_hold_210 : decode cX6_hold 210 = .ok (.iconst 1, 1) := by decide +kernel
theorem dX6_hold_211 : decode cX6_hold 211 = .ok (.iadd, 1) := by decide +kernel
theorem dX6_hold_212 : decode cX6_hold 212 = .ok (.goto 7, 3) := by decide +kernel
theorem dX6_hold_215 : decode cX6_hold 215 = .ok (.aload_n 0, 1) := by decide +kernel
theorem dX6_hold_216 : decode cX6_hold 216 = .ok (.getfield 93, 3) := by decide +kernel
theorem dX6_hold_219 : decode cX6_hold 219 = .ok (.putfield 93, 3) := by decide +kernel
theorem dX6_hold_222 : decode cX6_hold 222 = .ok (.iload 5, 2) := by decide +kernel
theorem dX6_hold_224 : decode cX6_hold 224 = .ok (.ireturn, 1) := by decide +kernel
set_option maxRecDepth 20000 in
theorem ggX6_holds_X6_noUnit : GoodIn wsX6_holds wsX6_noUnit := goodIn_r _ [7, 8, 9, 10, 6, 11, 27, 28, 29, 30, 31, 32, 33, 34, 35, 36, 37, 38, 39, 40, 41, 42, 43, 44, 45, 46, 47, 48, 49, 50, 51, 52] (by decide +kernel) (by decide +kernel)
set_option maxRecDepth 20000 in
theorem gX6_holds_X6_noUnit : GoodIn wsX6_holds (wsV RX6 106 RX6 yX6_noUnit wsX6_noUnit) := goodIn_app (goodIn_of _ (by decide +kernel)) ggX6_holds_X6_noUnit
set_option maxRecDepth 20000 in
theorem ggX6_holds_X6_noDay : GoodIn wsX6_holds wsX6_noDay := goodIn_r _ [14, 15, 9, 10, 6, 11] (by decide +kernel) (by decide +kernel)
set_option maxRecDepth 20000 in
theorem gX6_holds_X6_noDay : GoodIn wsX6_holds (va_wsS RX6 110 yX6_noDay wsX6_noDay) := goodIn_app (goodIn_of _ (by decide +kernel)) ggX6_holds_X6_noDay
set_option maxRecDepth 20000 in
theorem ggX6_holds_X6_lay : GoodIn wsX6_holds wsX6_lay := goodIn_r _ [19, 2, 20, 21, 22, 23, 24, 25, 26, 27, 28, 29, 30, 31, 32, 33, 34, 35, 36, 37, 38, 39, 40, 41, 42, 43, 44, 45, 46, 47, 48, 49, 50, 51, 52] (by decide +kernel) (by decide +kernel)
set_option maxRecDepth 20000 in
theorem gX6_holds_X6_lay : GoodIn wsX6_holds (wsV RX6 96 RX6 yX6_lay wsX6_lay) := goodIn_app (goodIn_of _ (by decide +kernel)) ggX6_holds_X6_lay
theorem dX6_holds_0 : decode cX6_holds 0 = .ok (.aload_n 0, 1) := by decide +kernel
theorem dX6_holds_1 : decode cX6_holds 1 = .ok (.iconst 0, 1) := by decide +kernel
theorem dX6_holds_2 : decode cX6_holds 2 = .ok (.putfield 76, 3) := by decide +kernel
theorem dX6_holds_5 : decode cX6_holds 5 = .ok (.aload_n 0, 1) := by decide +kernel
theorem dX6_holds_6 : decode cX6_holds 6 = .ok (.iload_n 1, 1) := by decide +kernel
theorem dX6_holds_7 : decode cX6_holds 7 = .ok (.invokevirtual 106, 3) := by decide +kernel
theorem dX6_holds_10 : decode cX6_holds 10 = .ok (.ifCond .ne 11, 3) := by decide +kernel
theorem dX6_holds_13 : decode cX6_holds 13 = .ok (.aload_n 0, 1) := by decide +kernel
theorem dX6_holds_14 : decode cX6_holds 14 = .ok (.iload_n 2, 1) := by decide +kernel
theorem dX6_holds_15 : decode cX6_holds 15 = .ok (.invokevirtual 106, 3) := by decide +kernel
theorem dX6_holds_18 : decode cX6_holds 18 = .ok (.ifCond .eq 5, 3) := by decide +kernel
theorem dX6_holds_21 : decode cX6_holds 21 = .ok (.iconst (-1), 1) := by decide +kernel
theorem dX6_holds_22 : decode cX6_holds 22 = .ok (.ireturn, 1) := by decide +kernel
theorem dX6_holds_23 : decode cX6_holds 23 = .ok (.iload_n 3, 1) := by decide +kernel
theorem dX6_holds_24 : decode cX6_holds 24 = .ok (.invokestatic 110, 3) := by decide +kernel
theorem dX6_holds_27 : decode cX6_holds 27 = .ok (.ifCond .eq 6, 3) := by decide +kernel
theorem dX6_holds_30 : decode cX6_holds 30 = .ok (.bipush (-2), 2) := by decide +kernel
theorem dX6_holds_32 : decode cX6_holds 32 = .ok (.ireturn, 1) := by decide +kernel
theorem dX6_holds_33 : decode cX6_holds 33 = .ok (.aload_n 0, 1) := by decide +kernel
theorem dX6_holds_34 : decode cX6_holds 34 = .ok (.iload_n 3, 1) := by decide +kernel
theorem dX6_holds_35 : decode cX6_holds 35 = .ok (.invokevirtual 96, 3) := by decide +kernel
theorem dX6_holds_38 : decode cX6_holds 38 = .ok (.aload_n 0, 1) := by decide +kernel
theorem dX6_holds_39 : decode cX6_holds 39 = .ok (.getfield 62, 3) := by decide +kernel
theorem dX6_holds_42 : decode cX6_holds 42 = .ok (.bipush 10, 2) := by decide +kernel
theorem dX6_holds_44 : decode cX6_holds 44 = .ok (.iload_n 1, 1) := by decide +kernel
theorem dX6_holds_45 : decode cX6_holds 45 = .ok (.imul, 1) := by decide +kernel
theorem dX6_holds_46 : decode cX6_holds 46 = .ok (.iload_n 2, 1) := by decide +kernel
theorem dX6_holds_47 : decode cX6_holds 47 = .ok (.iadd, 1) := by decide +kernel
theorem dX6_holds_48 : decode cX6_holds 48 = .ok (.iaload, 1) := by decide +kernel
theorem dX6_holds_49 : decode cX6_holds 49 = .ok (.ireturn, 1) := by decide +kernel
set_option maxRecDepth 20000 in
theorem ggX6_share_X6_noUnit : GoodIn wsX6_share wsX6_noUnit := goodIn_r _ [9, 10, 11, 12, 8, 13, 37, 38, 39, 40, 41, 42, 43, 44, 45, 46, 47, 48, 49, 50, 51, 52, 53, 54, 55, 56, 57, 58, 59, 60, 61, 62] (by decide +kernel) (by decide +kernel)
set_option maxRecDepth 20000 in
theorem gX6_share_X6_noUnit : GoodIn wsX6_share (wsV RX6 106 RX6 yX6_noUnit wsX6_noUnit) := goodIn_app (goodIn_of _ (by decide +kernel)) ggX6_share_X6_noUnit
set_option maxRecDepth 20000 in
theorem ggX6_share_X6_noDay : GoodIn wsX6_share wsX6_noDay := goodIn_r _ [16, 17, 11, 12, 8, 13] (by decide +kernel) (by decide +kernel)
set_option maxRecDepth 20000 in
theorem gX6_share_X6_noDay : GoodIn wsX6_share (va_wsS RX6 110 yX6_noDay wsX6_noDay) := goodIn_app (goodIn_of _ (by decide +kernel)) ggX6_share_X6_noDay
set_option maxRecDepth 20000 in
theorem ggX6_share_X6_shares : GoodIn wsX6_share wsX6_shares := goodIn_r _ [21, 4, 22, 23, 24, 25, 26, 27, 28, 8, 29, 30, 31, 32, 33, 34, 35, 36, 37, 38, 39, 40, 41, 42, 43, 44, 45, 46, 47, 48, 49, 50, 51, 52, 53, 54, 55, 56, 57, 58, 59, 60, 61, 62] (by decide +kernel) (by decide +kernel)
set_option maxRecDepth 20000 in
theorem gX6_share_X6_shares : GoodIn wsX6_share (wsV RX6 121 RX6 yX6_shares wsX6_shares) := goodIn_app (goodIn_of _ (by decide +kernel)) ggX6_share_X6_shares
theorem dX6_share_0 : decode cX6_share 0 = .ok (.aload_n 0, 1) := by decide +kernel
theorem dX6_share_1 : decode cX6_share 1 = .ok (.iconst 0, 1) := by decide +kernel
theorem dX6_share_2 : decode cX6_share 2 = .ok (.putfield 76, 3) := by decide +kernel
theorem dX6_share_5 : decode cX6_share 5 = .ok (.aload_n 0, 1) := by decide +kernel
theorem dX6_share_6 : decode cX6_share 6 = .ok (.iload_n 1, 1) := by decide +kernel
theorem dX6_share_7 : decode cX6_share 7 = .ok (.invokevirtual 106, 3) := by decide +kernel
theorem dX6_share_10 : decode cX6_share 10 = .ok (.ifCond .eq 7, 3) := by decide +kernel
theorem dX6_share_13 : decode cX6_share 13 = .ok (.ldc2_w 117, 3) := by decide +kernel
theorem dX6_share_16 : decode cX6_share 16 = .ok (.lreturn, 1) := by decide +kernel
theorem dX6_share_17 : decode cX6_share 17 = .ok (.iload_n 2, 1) := by decide +kernel
theorem dX6_share_18 : decode cX6_share 18 = .ok (.invokestatic 110, 3) := by decide +kernel
theorem dX6_share_21 : decode cX6_share 21 = .ok (.ifCond .eq 7, 3) := by decide +kernel
theorem dX6_share_24 : decode cX6_share 24 = .ok (.ldc2_w 119, 3) := by decide +kernel
theorem dX6_share_27 : decode cX6_share 27 = .ok (.lreturn, 1) := by decide +kernel
theorem dX6_share_28 : decode cX6_share 28 = .ok (.aload_n 0, 1) := by decide +kernel
theorem dX6_share_29 : decode cX6_share 29 = .ok (.iload_n 2, 1) := by decide +kernel
theorem dX6_share_30 : decode cX6_share 30 = .ok (.invokevirtual 121, 3) := by decide +kernel
theorem dX6_share_33 : decode cX6_share 33 = .ok (.aload_n 0, 1) := by decide +kernel
theorem dX6_share_34 : decode cX6_share 34 = .ok (.getfield 65, 3) := by decide +kernel
theorem dX6_share_37 : decode cX6_share 37 = .ok (.iload_n 1, 1) := by decide +kernel
theorem dX6_share_38 : decode cX6_share 38 = .ok (.laload, 1) := by decide +kernel
theorem dX6_share_39 : decode cX6_share 39 = .ok (.lreturn, 1) := by decide +kernel
set_option maxRecDepth 20000 in
theorem ggX6_days_X6_noUnit : GoodIn wsX6_days wsX6_noUnit := goodIn_r _ [11, 12, 13, 14, 10, 15, 37, 38, 39, 40, 41, 42, 43, 44, 45, 46, 47, 48, 49, 50, 51, 52, 53, 54, 55, 56, 57, 58, 59, 60, 61, 62] (by decide +kernel) (by decide +kernel)
set_option maxRecDepth 20000 in
theorem gX6_days_X6_noUnit : GoodIn wsX6_days (wsV RX6 106 RX6 yX6_noUnit wsX6_noUnit) := goodIn_app (goodIn_of _ (by decide +kernel)) ggX6_days_X6_noUnit
set_option maxRecDepth 20000 in
theorem ggX6_days_X6_noDay : GoodIn wsX6_days wsX6_noDay := goodIn_r _ [18, 19, 13, 14, 10, 15] (by decide +kernel) (by decide +kernel)
set_option maxRecDepth 20000 in
theorem gX6_days_X6_noDay : GoodIn wsX6_days (va_wsS RX6 110 yX6_noDay wsX6_noDay) := goodIn_app (goodIn_of _ (by decide +kernel)) ggX6_days_X6_noDay
set_option maxRecDepth 20000 in
theorem ggX6_days_X6_shares : GoodIn wsX6_days wsX6_shares := goodIn_r _ [23, 6, 24, 25, 26, 27, 28, 29, 30, 10, 31, 32, 33, 4, 34, 35, 5, 36, 37, 38, 39, 40, 41, 42, 43, 44, 45, 46, 47, 48, 49, 50, 51, 52, 53, 54, 55, 56, 57, 58, 59, 60, 61, 62] (by decide +kernel) (by decide +kernel)
set_option maxRecDepth 20000 in
theorem gX6_days_X6_shares : GoodIn wsX6_days (wsV RX6 121 RX6 yX6_shares wsX6_shares) := goodIn_app (goodIn_of _ (by decide +kernel)) ggX6_days_X6_shares
theorem dX6_days_0 : decode cX6_days 0 = .ok (.aload_n 0, 1) := by decide +kernel
theorem dX6_days_1 : decode cX6_days 1 = .ok (.iconst 0, 1) := by decide +kernel
theorem dX6_days_2 : decode cX6_days 2 = .ok (.putfield 76, 3) := by decide +kernel
theorem dX6_days_5 : decode cX6_days 5 = .ok (.aload_n 0, 1) := by decide +kernel
theorem dX6_days_6 : decode cX6_days 6 = .ok (.iload_n 1, 1) := by decide +kernel
theorem dX6_days_7 : decode cX6_days 7 = .ok (.invokevirtual 106, 3) := by decide +kernel
theorem dX6_days_10 : decode cX6_days 10 = .ok (.ifCond .eq 7, 3) := by decide +kernel
theorem dX6_days_13 : decode cX6_days 13 = .ok (.ldc2_w 117, 3) := by decide +kernel
theorem dX6_days_16 : decode cX6_days 16 = .ok (.lreturn, 1) := by decide +kernel
theorem dX6_days_17 : decode cX6_days 17 = .ok (.iload_n 2, 1) := by decide +kernel
theorem dX6_days_18 : decode cX6_days 18 = .ok (.invokestatic 110, 3) := by decide +kernel
theorem dX6_days_21 : decode cX6_days 21 = .ok (.ifCond .ne 15, 3) := by decide +kernel
theorem dX6_days_24 : decode cX6_days 24 = .ok (.iload_n 3, 1) := by decide +kernel
theorem dX6_days_25 : decode cX6_days 25 = .ok (.invokestatic 110, 3) := by decide +kernel
theorem dX6_days_28 : decode cX6_days 28 = .ok (.ifCond .ne 8, 3) := by decide +kernel
theorem dX6_days_31 : decode cX6_days 31 = .ok (.iload_n 3, 1) := by decide +kernel
theorem dX6_days_32 : decode cX6_days 32 = .ok (.iload_n 2, 1) := by decide +kernel
theorem dX6_days_33 : decode cX6_days 33 = .ok (.if_icmp .ge 7, 3) := by decide +kernel
theorem dX6_days_36 : decode cX6_days 36 = .ok (.ldc2_w 119, 3) := by decide +kernel
theorem dX6_days_39 : decode cX6_days 39 = .ok (.lreturn, 1) := by decide +kernel
theorem dX6_days_40 : decode cX6_days 40 = .ok (.lconst 0, 1) := by decide +kernel
theorem dX6_days_41 : decode cX6_days 41 = .ok (.lstore 4, 2) := by decide +kernel
theorem dX6_days_43 : decode cX6_days 43 = .ok (.iload_n 2, 1) := by decide +kernel
theorem dX6_days_44 : decode cX6_days 44 = .ok (.istore 6, 2) := by decide +kernel
theorem dX6_days_46 : decode cX6_days 46 = .ok (.iload 6, 2) := by decide +kernel
theorem dX6_days_48 : decode cX6_days 48 = .ok (.iload_n 3, 1) := by decide +kernel
theorem dX6_days_49 : decode cX6_days 49 = .ok (.if_icmp .gt 95, 3) := by decide +kernel
theorem dX6_days_52 : decode cX6_days 52 = .ok (.iload_n 3, 1) := by decide +kernel
theorem dX6_days_53 : decode cX6_days 53 = .ok (.iconst 1, 1) := by decide +kernel
theorem dX6_days_54 : decode cX6_days 54 = .ok (.iadd, 1) := by decide +kernel
theorem dX6_days_55 : decode cX6_days 55 = .ok (.istore 7, 2) := by decide +kernel
theorem dX6_days_57 : decode cX6_days 57 = .ok (.iconst 0, 1) := by decide +kernel
theorem dX6_days_58 : decode cX6_days 58 = .ok (.istore 8, 2) := by decide +kernel
theorem dX6_days_60 : decode cX6_days 60 = .ok (.iload 8, 2) := by decide +kernel
theorem dX6_days_62 : decode cX6_days 62 = .ok (.aload_n 0, 1) := by decide +kernel
theorem dX6_days_63 : decode cX6_days 63 = .ok (.getfield 93, 3) := by decide +kernel
theorem dX6_days_66 : decode cX6_days 66 = .ok (.if_icmp .ge 47, 3) := by decide +kernel
theorem dX6_days_69 : decode cX6_days 69 = .ok (.aload_n 0, 1) := by decide +kernel
theorem dX6_days_70 : decode cX6_days 70 = .ok (.getfield 23, 3) := by decide +kernel
theorem dX6_days_73 : decode cX6_days 73 = .ok (.iload 8, 2) := by decide +kernel
theorem dX6_days_75 : decode cX6_days 75 = .ok (.iaload, 1) := by decide +kernel
theorem dX6_days_76 : decode cX6_days 76 = .ok (.iload 6, 2) := by decide +kernel
theorem dX6_days_78 : decode cX6_days 78 = .ok (.if_icmp .le 25, 3) := by decide +kernel
theorem dX6_days_81 : decode cX6_days 81 = .ok (.aload_n 0, 1) := by decide +kernel
theorem dX6_days_82 : decode cX6_days 82 = .ok (.getfield 23, 3) := by decide +kernel
theorem dX6_days_85 : decode cX6_days 85 = .ok (.iload 8, 2) := by decide +kernel
theorem dX6_days_87 : decode cX6_days 87 = .ok (.iaload, 1) := by decide +kernel
theorem dX6_days_88 : decode cX6_days 88 = .ok (.iload 7, 2) := by decide +kernel
theorem dX6_days_90 : decode cX6_days 90 = .ok (.if_icmp .ge 13, 3) := by decide +kernel
theorem dX6_days_93 : decode cX6_days 93 = .ok (.aload_n 0, 1) := by decide +kernel
theorem dX6_days_94 : decode cX6_days 94 = .ok (.getfield 23, 3) := by decide +kernel
theorem dX6_days_97 : decode cX6_days 97 = .ok (.iload 8, 2) := by decide +kernel
theorem dX6_days_99 : decode cX6_days 99 = .ok (.iaload, 1) := by decide +kernel
theorem dX6_days_100 : decode cX6_days 100 = .ok (.goto 5, 3) := by decide +kernel
theorem dX6_days_103 : decode cX6_days 103 = .ok (.iload 7, 2) := by decide +kernel
theorem dX6_days_105 : decode cX6_days 105 = .ok (.istore 7, 2) := by decide +kernel
theorem dX6_days_107 : decode cX6_days 107 = .ok (.iinc 8 1, 3) := by decide +kernel
theorem dX6_days_110 : decode cX6_days 110 = .ok (.goto (-50), 3) := by decide +kernel
theorem dX6_days_113 : decode cX6_days 113 = .ok (.aload_n 0, 1) := by decide +kernel
theorem dX6_days_114 : decode cX6_days 114 = .ok (.iload 6, 2) := by decide +kernel
theorem dX6_days_116 : decode cX6_days 116 = .ok (.invokevirtual 121, 3) := by decide +kernel
theorem dX6_days_119 : decode cX6_days 119 = .ok (.lload 4, 2) := by decide +kernel
theorem dX6_days_121 : decode cX6_days 121 = .ok (.aload_n 0, 1) := by decide +kernel
theorem dX6_days_122 : decode cX6_days 122 = .ok (.getfield 65, 3) := by decide +kernel
theorem dX6_days_125 : decode cX6_days 125 = .ok (.iload_n 1, 1) := by decide +kernel
theorem dX6_days_126 : decode cX6_days 126 = .ok (.laload, 1) := by decide +kernel
theorem dX6_days_127 : decode cX6_days 127 = .ok (.iload 7, 2) := by decide +kernel
theorem dX6_days_129 : decode cX6_days 129 = .ok (.iload 6, 2) := by decide +kernel
theorem dX6_days_131 : decode cX6_days 131 = .ok (.isub, 1) := by decide +kernel
theorem dX6_days_132 : decode cX6_days 132 = .ok (.i2l, 1) := by decide +kernel
theorem dX6_days_133 : decode cX6_days 133 = .ok (.lmul, 1) := by decide +kernel
theorem dX6_days_134 : decode cX6_days 134 = .ok (.ladd, 1) := by decide +kernel
theorem dX6_days_135 : decode cX6_days 135 = .ok (.lstore 4, 2) := by decide +kernel
theorem dX6_days_137 : decode cX6_days 137 = .ok (.iload 7, 2) := by decide +kernel
theorem dX6_days_139 : decode cX6_days 139 = .ok (.istore 6, 2) := by decide +kernel
theorem dX6_days_141 : decode cX6_days 141 = .ok (.goto (-95), 3) := by decide +kernel
theorem dX6_days_144 : decode cX6_days 144 = .ok (.lload 4, 2) := by decide +kernel
theorem dX6_days_146 : decode cX6_days 146 = .ok (.lreturn, 1) := by decide +kernel
set_option maxRecDepth 20000 in
theorem ggX6_row_X6_noUnit : GoodIn wsX6_row wsX6_noUnit := goodIn_r _ [14, 15, 16, 17, 13, 18, 23, 24, 25, 26, 27, 28, 29, 30, 31, 32, 33, 34, 35, 36, 37, 38, 39, 40, 41, 42, 43, 44, 45, 46, 47, 48] (by decide +kernel) (by decide +kernel)
set_option maxRecDepth 20000 in
theorem gX6_row_X6_noUnit : GoodIn wsX6_row (wsV RX6 106 RX6 yX6_noUnit wsX6_noUnit) := goodIn_app (goodIn_of _ (by decide +kernel)) ggX6_row_X6_noUnit
set_option maxRecDepth 20000 in
theorem ggX6_row_X6_in : GoodIn wsX6_row wsX6_in := goodIn_r _ [18] (by decide +kernel) (by decide +kernel)
set_option maxRecDepth 20000 in
theorem gX6_row_X6_in : GoodIn wsX6_row (va_wsS RX6 79 yX6_in wsX6_in) := goodIn_app (goodIn_of _ (by decide +kernel)) ggX6_row_X6_in
set_option maxRecDepth 20000 in
theorem ggX6_row_X6_noDay : GoodIn wsX6_row wsX6_noDay := goodIn_r _ [21, 22, 16, 17, 13, 18] (by decide +kernel) (by decide +kernel)
set_option maxRecDepth 20000 in
theorem gX6_row_X6_noDay : GoodIn wsX6_row (va_wsS RX6 110 yX6_noDay wsX6_noDay) := goodIn_app (goodIn_of _ (by decide +kernel)) ggX6_row_X6_noDay
theorem dX6_row_0 : decode cX6_row 0 = .ok (.aload_n 0, 1) := by decide +kernel
theorem dX6_row_1 : decode cX6_row 1 = .ok (.iconst 0, 1) := by decide +kernel
theorem dX6_row_2 : decode cX6_row 2 = .ok (.putfield 76, 3) := by decide +kernel
theorem dX6_row_5 : decode cX6_row 5 = .ok (.aload_n 0, 1) := by decide +kernel
theorem dX6_row_6 : decode cX6_row 6 = .ok (.iload_n 1, 1) := by decide +kernel
theorem dX6_row_7 : decode cX6_row 7 = .ok (.invokevirtual 106, 3) := by decide +kernel
theorem dX6_row_10 : decode cX6_row 10 = .ok (.ifCond .ne 19, 3) := by decide +kernel
theorem dX6_row_13 : decode cX6_row 13 = .ok (.iload 5, 2) := by decide +kernel
theorem dX6_row_15 : decode cX6_row 15 = .ok (.bipush (-9), 2) := by decide +kernel
theorem dX6_row_17 : decode cX6_row 17 = .ok (.if_icmp .eq 14, 3) := by decide +kernel
theorem dX6_row_20 : decode cX6_row 20 = .ok (.aload_n 0, 1) := by decide +kernel
theorem dX6_row_21 : decode cX6_row 21 = .ok (.iload 5, 2) := by decide +kernel
theorem dX6_row_23 : decode cX6_row 23 = .ok (.invokevirtual 106, 3) := by decide +kernel
theorem dX6_row_26 : decode cX6_row 26 = .ok (.ifCond .eq 5, 3) := by decide +kernel
theorem dX6_row_29 : decode cX6_row 29 = .ok (.iconst (-1), 1) := by decide +kernel
theorem dX6_row_30 : decode cX6_row 30 = .ok (.ireturn, 1) := by decide +kernel
theorem dX6_row_31 : decode cX6_row 31 = .ok (.iload_n 2, 1) := by decide +kernel
theorem dX6_row_32 : decode cX6_row 32 = .ok (.i2l, 1) := by decide +kernel
theorem dX6_row_33 : decode cX6_row 33 = .ok (.lconst 0, 1) := by decide +kernel
theorem dX6_row_34 : decode cX6_row 34 = .ok (.ldc2_w 124, 3) := by decide +kernel
theorem dX6_row_37 : decode cX6_row 37 = .ok (.invokestatic 79, 3) := by decide +kernel
theorem dX6_row_40 : decode cX6_row 40 = .ok (.ifCond .eq 23, 3) := by decide +kernel
theorem dX6_row_43 : decode cX6_row 43 = .ok (.iload_n 3, 1) := by decide +kernel
theorem dX6_row_44 : decode cX6_row 44 = .ok (.i2l, 1) := by decide +kernel
theorem dX6_row_45 : decode cX6_row 45 = .ok (.lconst 1, 1) := by decide +kernel
theorem dX6_row_46 : decode cX6_row 46 = .ok (.ldc2_w 126, 3) := by decide +kernel
theorem dX6_row_49 : decode cX6_row 49 = .ok (.invokestatic 79, 3) := by decide +kernel
theorem dX6_row_52 : decode cX6_row 52 = .ok (.ifCond .eq 11, 3) := by decide +kernel
theorem dX6_row_55 : decode cX6_row 55 = .ok (.iload 4, 2) := by decide +kernel
theorem dX6_row_57 : decode cX6_row 57 = .ok (.invokestatic 110, 3) := by decide +kernel
theorem dX6_row_60 : decode cX6_row 60 = .ok (.ifCond .eq 6, 3) := by decide +kernel
theorem dX6_row_63 : decode cX6_row 63 = .ok (.bipush (-2), 2) := by decide +kernel
theorem dX6_row_65 : decode cX6_row 65 = .ok (.ireturn, 1) := by decide +kernel
theorem dX6_row_66 : decode cX6_row 66 = .ok (.iload 5, 2) := by decide +kernel
theorem dX6_row_68 : decode cX6_row 68 = .ok (.iload_n 1, 1) := by decide +kernel
theorem dX6_row_69 : decode cX6_row 69 = .ok (.if_icmp .ne 6, 3) := by decide +kernel
theorem dX6_row_72 : decode cX6_row 72 = .ok (.bipush (-3), 2) := by decide +kernel
theorem dX6_row_74 : decode cX6_row 74 = .ok (.ireturn, 1) := by decide +kernel
theorem dX6_row_75 : decode cX6_row 75 = .ok (.aload_n 0, 1) := by decide +kernel
theorem dX6_row_76 : decode cX6_row 76 = .ok (.getfield 90, 3) := by decide +kernel
theorem dX6_row_79 : decode cX6_row 79 = .ok (.sipush 200, 3) := by decide +kernel
theorem dX6_row_82 : decode cX6_row 82 = .ok (.if_icmp .ne 6, 3) := by decide +kernel
theorem dX6_row_85 : decode cX6_row 85 = .ok (.bipush (-4), 2) := by decide +kernel
theorem dX6_row_87 : decode cX6_row 87 = .ok (.ireturn, 1) := by decide +kernel
theorem dX6_row_88 : decode cX6_row 88 = .ok (.aload_n 0, 1) := by decide +kernel
theorem dX6_row_89 : decode cX6_row 89 = .ok (.getfield 26, 3) := by decide +kernel
theorem dX6_row_92 : decode cX6_row 92 = .ok (.aload_n 0, 1) := by decide +kernel
theorem dX6_row_93 : decode cX6_row 93 = .ok (.getfield 90, 3) := by decide +kernel
theorem dX6_row_96 : decode cX6_row 96 = .ok (.iload_n 1, 1) := by decide +kernel
theorem dX6_row_97 : decode cX6_row 97 = .ok (.iastore, 1) := by decide +kernel
theorem dX6_row_98 : decode cX6_row 98 = .ok (.aload_n 0, 1) := by decide +kernel
theorem dX6_row_99 : decode cX6_row 99 = .ok (.getfield 29, 3) := by decide +kernel
theorem dX6_row_102 : decode cX6_row 102 = .ok (.aload_n 0, 1) := by decide +kernel
theorem dX6_row_103 : decode cX6_row 103 = .ok (.getfield 90, 3) := by decide +kernel
theorem dX6_row_106 : decode cX6_row 106 = .ok (.iload_n 2, 1) := by decide +kernel
theorem dX6_row_107 : decode cX6_row 107 = .ok (.iastore, 1) := by decide +kernel
theorem dX6_row_108 : decode cX6_row 108 = .ok (.aload_n 0, 1) := by decide +kernel
theorem dX6_row_109 : decode cX6_row 109 = .ok (.getfield 32, 3) := by decide +kernel
theorem dX6_row_112 : decode cX6_row 112 = .ok (.aload_n 0, 1) := by decide +kernel
theorem dX6_row_113 : decode cX6_row 113 = .ok (.getfield 90, 3) := by decide +kernel
theorem dX6_row_116 : decode cX6_row 116 = .ok (.iload_n 3, 1) := by decide +kernel
theorem dX6_row_117 : decode cX6_row 117 = .ok (.iastore, 1) := by decide +kernel
theorem dX6_row_118 : decode cX6_row 118 = .ok (.aload_n 0, 1) := by decide +kernel
theorem dX6_row_119 : decode cX6_row 119 = .ok (.getfield 35, 3) := by decide +kernel
theorem dX6_row_122 : decode cX6_row 122 = .ok (.aload_n 0, 1) := by decide +kernel
theorem dX6_row_123 : decode cX6_row 123 = .ok (.getfield 90, 3) := by decide +kernel
theorem dX6_row_126 : decode cX6_row 126 = .ok (.iload 4, 2) := by decide +kernel
theorem dX6_row_128 : decode cX6_row 128 = .ok (.iastore, 1) := by decide +kernel
theorem dX6_row_129 : decode cX6_row 129 = .ok (.aload_n 0, 1) := by decide +kernel
theorem dX6_row_130 : decode cX6_row 130 = .ok (.getfield 38, 3) := by decide +kernel
theorem dX6_row_133 : decode cX6_row 133 = .ok (.aload_n 0, 1) := by decide +kernel
theorem dX6_row_134 : decode cX6_row 134 = .ok (.getfield 90, 3) := by decide +kernel
theorem dX6_row_137 : decode cX6_row 137 = .ok (.iload 5, 2) := by decide +kernel
theorem dX6_row_139 : decode cX6_row 139 = .ok (.iastore, 1) := by decide +kernel
theorem dX6_row_140 : decode cX6_row 140 = .ok (.aload_n 0, 1) := by decide +kernel
theorem dX6_row_141 : decode cX6_row 141 = .ok (.dup, 1) := by decide +kernel
theorem dX6_row_142 : decode cX6_row 142 = .ok (.getfield 90, 3) := by decide +kernel
theorem dX6_row_145 : decode cX6_row 145 = .ok (.iconst 1, 1) := by decide +kernel
theorem dX6_row_146 : decode cX6_row 146 = .ok (.iadd, 1) := by decide +kernel
theorem dX6_row_147 : decode cX6_row 147 = .ok (.putfield 90, 3) := by decide +kernel
theorem dX6_row_150 : decode cX6_row 150 = .ok (.aload_n 0, 1) := by decide +kernel
theorem dX6_row_151 : decode cX6_row 151 = .ok (.getfield 90, 3) := by decide +kernel
theorem dX6_row_154 : decode cX6_row 154 = .ok (.iconst 1, 1) := by decide +kernel
theorem dX6_row_155 : decode cX6_row 155 = .ok (.isub, 1) := by decide +kernel
theorem dX6_row_156 : decode cX6_row 156 = .ok (.ireturn, 1) := by decide +kernel
set_option maxRecDepth 20000 in
theorem ggX6_isDouble_X6_shares : GoodIn wsX6_isDouble wsX6_shares := goodIn_r _ [8, 2, 9, 10, 11, 12, 13, 14, 15, 7, 16, 17, 18, 19, 20, 21, 22, 23, 24, 25, 26, 27, 28, 29, 30, 31, 32, 33, 34, 35, 36, 37, 38, 39, 40, 41, 42, 43, 44, 45, 46, 47, 48, 49] (by decide +kernel) (by decide +kernel)
set_option maxRecDepth 20000 in
theorem gX6_isDouble_X6_shares : GoodIn wsX6_isDouble (wsV RX6 121 RX6 yX6_shares wsX6_shares) := goodIn_app (goodIn_of _ (by decide +kernel)) ggX6_isDouble_X6_shares
theorem dX6_isDouble_0 : decode cX6_isDouble 0 = .ok (.aload_n 0, 1) := by decide +kernel
theorem dX6_isDouble_1 : decode cX6_isDouble 1 = .ok (.getfield 38, 3) := by decide +kernel
theorem dX6_isDouble_4 : decode cX6_isDouble 4 = .ok (.iload_n 1, 1) := by decide +kernel
theorem dX6_isDouble_5 : decode cX6_isDouble 5 = .ok (.iaload, 1) := by decide +kernel
theorem dX6_isDouble_6 : decode cX6_isDouble 6 = .ok (.bipush (-9), 2) := by decide +kernel
theorem dX6_isDouble_8 : decode cX6_isDouble 8 = .ok (.if_icmp .ne 5, 3) := by decide +kernel
theorem dX6_isDouble_11 : decode cX6_isDouble 11 = .ok (.iconst 0, 1) := by decide +kernel
theorem dX6_isDouble_12 : decode cX6_isDouble 12 = .ok (.ireturn, 1) := by decide +kernel
theorem dX6_isDouble_13 : decode cX6_isDouble 13 = .ok (.aload_n 0, 1) := by decide +kernel
theorem dX6_isDouble_14 : decode cX6_isDouble 14 = .ok (.iload_n 2, 1) := by decide +kernel
theorem dX6_isDouble_15 : decode cX6_isDouble 15 = .ok (.invokevirtual 121, 3) := by decide +kernel
theorem dX6_isDouble_18 : decode cX6_isDouble 18 = .ok (.aload_n 0, 1) := by decide +kernel
theorem dX6_isDouble_19 : decode cX6_isDouble 19 = .ok (.getfield 65, 3) := by decide +kernel
theorem dX6_isDouble_22 : decode cX6_isDouble 22 = .ok (.aload_n 0, 1) := by decide +kernel
theorem dX6_isDouble_23 : decode cX6_isDouble 23 = .ok (.getfield 26, 3) := by decide +kernel
theorem dX6_isDouble_26 : decode cX6_isDouble 26 = .ok (.iload_n 1, 1) := by decide +kernel
theorem dX6_isDouble_27 : decode cX6_isDouble 27 = .ok (.iaload, 1) := by decide +kernel
theorem dX6_isDouble_28 : decode cX6_isDouble 28 = .ok (.laload, 1) := by decide +kernel
theorem dX6_isDouble_29 : decode cX6_isDouble 29 = .ok (.lconst 0, 1) := by decide +kernel
theorem dX6_isDouble_30 : decode cX6_isDouble 30 = .ok (.lcmp, 1) := by decide +kernel
theorem dX6_isDouble_31 : decode cX6_isDouble 31 = .ok (.ifCond .le 23, 3) := by decide +kernel
theorem dX6_isDouble_34 : decode cX6_isDouble 34 = .ok (.aload_n 0, 1) := by decide +kernel
theorem dX6_isDouble_35 : decode cX6_isDouble 35 = .ok (.getfield 65, 3) := by decide +kernel
theorem dX6_isDouble_38 : decode cX6_isDouble 38 = .ok (.aload_n 0, 1) := by decide +kernel
theorem dX6_isDouble_39 : decode cX6_isDouble 39 = .ok (.getfield 38, 3) := by decide +kernel
theorem dX6_isDouble_42 : decode cX6_isDouble 42 = .ok (.iload_n 1, 1) := by decide +kernel
theorem dX6_isDouble_43 : decode cX6_isDouble 43 = .ok (.iaload, 1) := by decide +kernel
theorem dX6_isDouble_44 : decode cX6_isDouble 44 = .ok (.laload, 1) := by decide +kernel
theorem dX6_isDouble_45 : decode cX6_isDouble 45 = .ok (.lconst 0, 1) := by decide +kernel
theorem dX6_isDouble_46 : decode cX6_isDouble 46 = .ok (.lcmp, 1) := by decide +kernel
theorem dX6_isDouble_47 : decode cX6_isDouble 47 = .ok (.ifCond .le 7, 3) := by decide +kernel
theorem dX6_isDouble_50 : decode cX6_isDouble 50 = .ok (.iconst 1, 1) := by decide +kernel
theorem dX6_isDouble_51 : decode cX6_isDouble 51 = .ok (.goto 4, 3) := by decide +kernel
theorem dX6_isDouble_54 : decode cX6_isDouble 54 = .ok (.iconst 0, 1) := by decide +kernel
theorem dX6_isDouble_55 : decode cX6_isDouble 55 = .ok (.ireturn, 1) := by decide +kernel
set_option maxRecDepth 20000 in
theorem ggX6_told_X6_noRow : GoodIn wsX6_told wsX6_noRow := goodIn_r _ [12, 13, 14, 15, 11, 16, 41, 42, 43, 44, 45, 46, 47, 48, 49, 50, 51, 52, 53, 54, 55, 56, 57, 58, 59, 60, 61, 62, 63, 64, 65, 66] (by decide +kernel) (by decide +kernel)
set_option maxRecDepth 20000 in
theorem gX6_told_X6_noRow : GoodIn wsX6_told (wsV RX6 128 RX6 yX6_noRow wsX6_noRow) := goodIn_app (goodIn_of _ (by decide +kernel)) ggX6_told_X6_noRow
set_option maxRecDepth 20000 in
theorem ggX6_told_X6_isDouble : GoodIn wsX6_told wsX6_isDouble := goodIn_r _ [20, 6, 21, 2, 22, 23, 24, 11, 25, 26, 27, 28, 29, 30, 31, 32, 33, 34, 35, 36, 37, 38, 39, 40, 41, 42, 43, 44, 45, 46, 47, 48, 49, 50, 51, 52, 53, 54, 55, 56, 57, 58, 59, 60, 61, 62, 63, 64, 65, 66] (by decide +kernel) (by decide +kernel)
set_option maxRecDepth 20000 in
theorem gX6_told_X6_isDouble : GoodIn wsX6_told (wsV RX6 131 RX6 yX6_isDouble wsX6_isDouble) := goodIn_app (goodIn_of _ (by decide +kernel)) ggX6_told_X6_isDouble
theorem dX6_told_0 : decode cX6_told 0 = .ok (.aload_n 0, 1) := by decide +kernel
theorem dX6_told_1 : decode cX6_told 1 = .ok (.iconst 0, 1) := by decide +kernel
theorem dX6_told_2 : decode cX6_told 2 = .ok (.putfield 76, 3) := by decide +kernel
theorem dX6_told_5 : decode cX6_told 5 = .ok (.aload_n 0, 1) := by decide +kernel
theorem dX6_told_6 : decode cX6_told 6 = .ok (.iload_n 1, 1) := by decide +kernel
theorem dX6_told_7 : decode cX6_told 7 = .ok (.invokevirtual 128, 3) := by decide +kernel
theorem dX6_told_10 : decode cX6_told 10 = .ok (.ifCond .eq 5, 3) := by decide +kernel
theorem dX6_told_13 : decode cX6_told 13 = .ok (.iconst (-1), 1) := by decide +kernel
theorem dX6_told_14 : decode cX6_told 14 = .ok (.ireturn, 1) := by decide +kernel
theorem dX6_told_15 : decode cX6_told 15 = .ok (.iload_n 2, 1) := by decide +kernel
theorem dX6_told_16 : decode cX6_told 16 = .ok (.tableswitch 106 0 6 #[44, 51, 58, 65, 72, 79, 99], 44) := by decide +kernel
theorem dX6_told_60 : decode cX6_told 60 = .ok (.aload_n 0, 1) := by decide +kernel
theorem dX6_told_61 : decode cX6_told 61 = .ok (.getfield 26, 3) := by decide +kernel
theorem dX6_told_64 : decode cX6_told 64 = .ok (.iload_n 1, 1) := by decide +kernel
theorem dX6_told_65 : decode cX6_told 65 = .ok (.iaload, 1) := by decide +kernel
theorem dX6_told_66 : decode cX6_told 66 = .ok (.ireturn, 1) := by decide +kernel
theorem dX6_told_67 : decode cX6_told 67 = .ok (.aload_n 0, 1) := by decide +kernel
theorem dX6_told_68 : decode cX6_told 68 = .ok (.getfield 29, 3) := by decide +kernel
theorem dX6_told_71 : decode cX6_told 71 = .ok (.iload_n 1, 1) := by decide +kernel
theorem dX6_told_72 : decode cX6_told 72 = .ok (.iaload, 1) := by decide +kernel
theorem dX6_told_73 : decode cX6_told 73 = .ok (.ireturn, 1) := by decide +kernel
theorem dX6_told_74 : decode cX6_told 74 = .ok (.aload_n 0, 1) := by decide +kernel
theorem dX6_told_75 : decode cX6_told 75 = .ok (.getfield 32, 3) := by decide +kernel
theorem dX6_told_78 : decode cX6_told 78 = .ok (.iload_n 1, 1) := by decide +kernel
theorem dX6_told_79 : decode cX6_told 79 = .ok (.iaload, 1) := by decide +kernel
theorem dX6_told_80 : decode cX6_told 80 = .ok (.ireturn, 1) := by decide +kernel
theorem dX6_told_81 : decode cX6_told 81 = .ok (.aload_n 0, 1) := by decide +kernel
theorem dX6_told_82 : decode cX6_told 82 = .ok (.getfield 35, 3) := by decide +kernel
theorem dX6_told_85 : decode cX6_told 85 = .ok (.iload_n 1, 1) := by decide +kernel
theorem dX6_told_86 : decode cX6_told 86 = .ok (.iaload, 1) := by decide +kernel
theorem dX6_told_87 : decode cX6_told 87 = .ok (.ireturn, 1) := by decide +kernel
theorem dX6_told_88 : decode cX6_told 88 = .ok (.aload_n 0, 1) := by decide +kernel
theorem dX6_told_89 : decode cX6_told 89 = .ok (.getfield 38, 3) := by decide +kernel
theorem dX6_told_92 : decode cX6_told 92 = .ok (.iload_n 1, 1) := by decide +kernel
theorem dX6_told_93 : decode cX6_told 93 = .ok (.iaload, 1) := by decide +kernel
theorem dX6_told_94 : decode cX6_told 94 = .ok (.ireturn, 1) := by decide +kernel
theorem dX6_told_95 : decode cX6_told 95 = .ok (.aload_n 0, 1) := by decide +kernel
theorem dX6_told_96 : decode cX6_told 96 = .ok (.iload_n 1, 1) := by decide +kernel
theorem dX6_told_97 : decode cX6_told 97 = .ok (.aload_n 0, 1) := by decide +kernel
theorem dX6_told_98 : decode cX6_told 98 = .ok (.getfield 35, 3) := by decide +kernel
theorem dX6_told_101 : decode cX6_told 101 = .ok (.iload_n 1, 1) := by decide +kernel
theorem dX6_told_102 : decode cX6_told 102 = .ok (.iaload, 1) := by decide +kernel
theorem dX6_told_103 : decode cX6_told 103 = .ok (.invokevirtual 131, 3) := by decide +kernel
theorem dX6_told_106 : decode cX6_told 106 = .ok (.ifCond .eq 7, 3) := by decide +kernel
theorem dX6_told_109 : decode cX6_told 109 = .ok (.iconst 1, 1) := by decide +kernel
theorem dX6_told_110 : decode cX6_told 110 = .ok (.goto 4, 3) := by decide +kernel
theorem dX6_told_113 : decode cX6_told 113 = .ok (.iconst 0, 1) := by decide +kernel
theorem dX6_told_114 : decode cX6_told 114 = .ok (.ireturn, 1) := by decide +kernel
theorem dX6_told_115 : decode cX6_told 115 = .ok (.aload_n 0, 1) := by decide +kernel
theorem dX6_told_116 : decode cX6_told 116 = .ok (.getfield 41, 3) := by decide +kernel
theorem dX6_told_119 : decode cX6_told 119 = .ok (.iload_n 1, 1) := by decide +kernel
theorem dX6_told_120 : decode cX6_told 120 = .ok (.iaload, 1) := by decide +kernel
theorem dX6_told_121 : decode cX6_told 121 = .ok (.ireturn, 1) := by decide +kernel
theorem dX6_told_122 : decode cX6_told 122 = .ok (.bipush (-2), 2) := by decide +kernel
theorem dX6_told_124 : decode cX6_told 124 = .ok (.ireturn, 1) := by decide +kernel
set_option maxRecDepth 20000 in
theorem ggX6_factor_X6_in : GoodIn wsX6_factor wsX6_in := goodIn_r _ [11] (by decide +kernel) (by decide +kernel)
set_option maxRecDepth 20000 in
theorem gX6_factor_X6_in : GoodIn wsX6_factor (va_wsS RX6 79 yX6_in wsX6_in) := goodIn_app (goodIn_of _ (by decide +kernel)) ggX6_factor_X6_in
set_option maxRecDepth 20000 in
theorem ggX6_factor_X6_noYear : GoodIn wsX6_factor wsX6_noYear := goodIn_r _ [14, 15, 8, 9, 10, 11] (by decide +kernel) (by decide +kernel)
set_option maxRecDepth 20000 in
theorem gX6_factor_X6_noYear : GoodIn wsX6_factor (va_wsS RX6 134 yX6_noYear wsX6_noYear) := goodIn_app (goodIn_of _ (by decide +kernel)) ggX6_factor_X6_noYear
theorem dX6_factor_0 : decode cX6_factor 0 = .ok (.aload_n 0, 1) := by decide +kernel
theorem dX6_factor_1 : decode cX6_factor 1 = .ok (.iconst 0, 1) := by decide +kernel
theorem dX6_factor_2 : decode cX6_factor 2 = .ok (.putfield 76, 3) := by decide +kernel
theorem dX6_factor_5 : decode cX6_factor 5 = .ok (.iload_n 1, 1) := by decide +kernel
theorem dX6_factor_6 : decode cX6_factor 6 = .ok (.i2l, 1) := by decide +kernel
theorem dX6_factor_7 : decode cX6_factor 7 = .ok (.lconst 0, 1) := by decide +kernel
theorem dX6_factor_8 : decode cX6_factor 8 = .ok (.ldc2_w 124, 3) := by decide +kernel
theorem dX6_factor_11 : decode cX6_factor 11 = .ok (.invokestatic 79, 3) := by decide +kernel
theorem dX6_factor_14 : decode cX6_factor 14 = .ok (.ifCond .eq 30, 3) := by decide +kernel
theorem dX6_factor_17 : decode cX6_factor 17 = .ok (.iload_n 2, 1) := by decide +kernel
theorem dX6_factor_18 : decode cX6_factor 18 = .ok (.invokestatic 134, 3) := by decide +kernel
theorem dX6_factor_21 : decode cX6_factor 21 = .ok (.ifCond .ne 23, 3) := by decide +kernel
theorem dX6_factor_24 : decode cX6_factor 24 = .ok (.iload_n 3, 1) := by decide +kernel
theorem dX6_factor_25 : decode cX6_factor 25 = .ok (.i2l, 1) := by decide +kernel
theorem dX6_factor_26 : decode cX6_factor 26 = .ok (.lconst 0, 1) := by decide +kernel
theorem dX6_factor_27 : decode cX6_factor 27 = .ok (.iload 4, 2) := by decide +kernel
theorem dX6_factor_29 : decode cX6_factor 29 = .ok (.i2l, 1) := by decide +kernel
theorem dX6_factor_30 : decode cX6_factor 30 = .ok (.invokestatic 79, 3) := by decide +kernel
theorem dX6_factor_33 : decode cX6_factor 33 = .ok (.ifCond .eq 11, 3) := by decide +kernel
theorem dX6_factor_36 : decode cX6_factor 36 = .ok (.iload 4, 2) := by decide +kernel
theorem dX6_factor_38 : decode cX6_factor 38 = .ok (.sipush 1000, 3) := by decide +kernel
theorem dX6_factor_41 : decode cX6_factor 41 = .ok (.if_icmp .le 6, 3) := by decide +kernel
theorem dX6_factor_44 : decode cX6_factor 44 = .ok (.bipush (-2), 2) := by decide +kernel
theorem dX6_factor_46 : decode cX6_factor 46 = .ok (.ireturn, 1) := by decide +kernel
theorem dX6_factor_47 : decode cX6_factor 47 = .ok (.aload_n 0, 1) := by decide +kernel
theorem dX6_factor_48 : decode cX6_factor 48 = .ok (.getfield 87, 3) := by decide +kernel
theorem dX6_factor_51 : decode cX6_factor 51 = .ok (.bipush 80, 2) := by decide +kernel
theorem dX6_factor_53 : decode cX6_factor 53 = .ok (.if_icmp .ne 6, 3) := by decide +kernel
theorem dX6_factor_56 : decode cX6_factor 56 = .ok (.bipush (-4), 2) := by decide +kernel
theorem dX6_factor_58 : decode cX6_factor 58 = .ok (.ireturn, 1) := by decide +kernel
theorem dX6_factor_59 : decode cX6_factor 59 = .ok (.aload_n 0, 1) := by decide +kernel
theorem dX6_factor_60 : decode cX6_factor 60 = .ok (.getfield 44, 3) := by decide +kernel
theorem dX6_factor_63 : decode cX6_factor 63 = .ok (.aload_n 0, 1) := by decide +kernel
theorem dX6_factor_64 : decode cX6_factor 64 = .ok (.getfield 87, 3) := by decide +kernel
theorem dX6_factor_67 : decode cX6_factor 67 = .ok (.iload_n 1, 1) := by decide +kernel
theorem dX6_factor_68 : decode cX6_factor 68 = .ok (.iastore, 1) := by decide +kernel
theorem dX6_factor_69 : decode cX6_factor 69 = .ok (.aload_n 0, 1) := by decide +kernel
theorem dX6_factor_70 : decode cX6_factor 70 = .ok (.getfield 47, 3) := by decide +kernel
theorem dX6_factor_73 : decode cX6_factor 73 = .ok (.aload_n 0, 1) := by decide +kernel
theorem dX6_factor_74 : decode cX6_factor 74 = .ok (.getfield 87, 3) := by decide +kernel
theorem dX6_factor_77 : decode cX6_factor 77 = .ok (.iload_n 2, 1) := by decide +kernel
theorem dX6_factor_78 : decode cX6_factor 78 = .ok (.iastore, 1) := by decide +kernel
theorem dX6_factor_79 : decode cX6_factor 79 = .ok (.aload_n 0, 1) := by decide +kernel
theorem dX6_factor_80 : decode cX6_factor 80 = .ok (.getfield 50, 3) := by decide +kernel
theorem dX6_factor_83 : decode cX6_factor 83 = .ok (.aload_n 0, 1) := by decide +kernel
theorem dX6_factor_84 : decode cX6_factor 84 = .ok (.getfield 87, 3) := by decide +kernel
theorem dX6_factor_87 : decode cX6_factor 87 = .ok (.iload_n 3, 1) := by decide +kernel
theorem dX6_factor_88 : decode cX6_factor 88 = .ok (.iastore, 1) := by decide +kernel
theorem dX6_factor_89 : decode cX6_factor 89 = .ok (.aload_n 0, 1) := by decide +kernel
theorem dX6_factor_90 : decode cX6_factor 90 = .ok (.getfield 53, 3) := by decide +kernel
theorem dX6_factor_93 : decode cX6_factor 93 = .ok (.aload_n 0, 1) := by decide +kernel
theorem dX6_factor_94 : decode cX6_factor 94 = .ok (.getfield 87, 3) := by decide +kernel
theorem dX6_factor_97 : decode cX6_factor 97 = .ok (.iload 4, 2) := by decide +kernel
theorem dX6_factor_99 : decode cX6_factor 99 = .ok (.iastore, 1) := by decide +kernel
theorem dX6_factor_100 : decode cX6_factor 100 = .ok (.aload_n 0, 1) := by decide +kernel
theorem dX6_factor_101 : decode cX6_factor 101 = .ok (.dup, 1) := by decide +kernel
theorem dX6_factor_102 : decode cX6_factor 102 = .ok (.getfield 87, 3) := by decide +kernel
theorem dX6_factor_105 : decode cX6_factor 105 = .ok (.iconst 1, 1) := by decide +kernel
theorem dX6_factor_106 : decode cX6_factor 106 = .ok (.iadd, 1) := by decide +kernel
theorem dX6_factor_107 : decode cX6_factor 107 = .ok (.putfield 87, 3) := by decide +kernel
theorem dX6_factor_110 : decode cX6_factor 110 = .ok (.aload_n 0, 1) := by decide +kernel
theorem dX6_factor_111 : decode cX6_factor 111 = .ok (.getfield 87, 3) := by decide +kernel
theorem dX6_factor_114 : decode cX6_factor 114 = .ok (.iconst 1, 1) := by decide +kernel
theorem dX6_factor_115 : decode cX6_factor 115 = .ok (.isub, 1) := by decide +kernel
theorem dX6_factor_116 : decode cX6_factor 116 = .ok (.ireturn, 1) := by decide +kernel
theorem dX6_versionOf_0 : decode cX6_versionOf 0 = .ok (.bipush (-9), 2) := by decide +kernel
theorem dX6_versionOf_2 : decode cX6_versionOf 2 = .ok (.istore 4, 2) := by decide +kernel
theorem dX6_versionOf_4 : decode cX6_versionOf 4 = .ok (.iconst 0, 1) := by decide +kernel
theorem dX6_versionOf_5 : decode cX6_versionOf 5 = .ok (.istore 5, 2) := by decide +kernel
theorem dX6_versionOf_7 : decode cX6_versionOf 7 = .ok (.iload 5, 2) := by decide +kernel
theorem dX6_versionOf_9 : decode cX6_versionOf 9 = .ok (.aload_n 0, 1) := by decide +kernel
theorem dX6_versionOf_10 : decode cX6_versionOf 10 = .ok (.getfield 87, 3) := by decide +kernel
theorem dX6_versionOf_13 : decode cX6_versionOf 13 = .ok (.if_icmp .ge 76, 3) := by decide +kernel
theorem dX6_versionOf_16 : decode cX6_versionOf 16 = .ok (.iload_n 3, 1) := by decide +kernel
theorem dX6_versionOf_17 : decode cX6_versionOf 17 = .ok (.bipush (-9), 2) := by decide +kernel
theorem dX6_versionOf_19 : decode cX6_versionOf 19 = .ok (.if_icmp .eq 9, 3) := by decide +kernel
theorem dX6_versionOf_22 : decode cX6_versionOf 22 = .ok (.iload 5, 2) := by decide +kernel
theorem dX6_versionOf_24 : decode cX6_versionOf 24 = .ok (.iload_n 3, 1) := by decide +kernel
theorem dX6_versionOf_25 : decode cX6_versionOf 25 = .ok (.if_icmp .gt 64, 3) := by decide +kernel
theorem dX6_versionOf_28 : decode cX6_versionOf 28 = .ok (.aload_n 0, 1) := by decide +kernel
theorem dX6_versionOf_29 : decode cX6_versionOf 29 = .ok (.getfield 44, 3) := by decide +kernel
theorem dX6_versionOf_32 : decode cX6_versionOf 32 = .ok (.iload 5, 2) := by decide +kernel
theorem dX6_versionOf_34 : decode cX6_versionOf 34 = .ok (.iaload, 1) := by decide +kernel
theorem dX6_versionOf_35 : decode cX6_versionOf 35 = .ok (.iload_n 1, 1) := by decide +kernel
theorem dX6_versionOf_36 : decode cX6_versionOf 36 = .ok (.if_icmp .ne 43, 3) := by decide +kernel
theorem dX6_versionOf_39 : decode cX6_versionOf 39 = .ok (.aload_n 0, 1) := by decide +kernel
theorem dX6_versionOf_40 : decode cX6_versionOf 40 = .ok (.getfield 47, 3) := by decide +kernel
theorem dX6_versionOf_43 : decode cX6_versionOf 43 = .ok (.iload 5, 2) := by decide +kernel
theorem dX6_versionOf_45 : decode cX6_versionOf 45 = .ok (.iaload, 1) := by decide +kernel
theorem dX6_versionOf_46 : decode cX6_versionOf 46 = .ok (.iload_n 2, 1) := by decide +kernel
theorem dX6_versionOf_47 : decode cX6_versionOf 47 = .ok (.if_icmp .gt 32, 3) := by decide +kernel
theorem dX6_versionOf_50 : decode cX6_versionOf 50 = .ok (.iload 4, 2) := by decide +kernel
theorem dX6_versionOf_52 : decode cX6_versionOf 52 = .ok (.bipush (-9), 2) := by decide +kernel
theorem dX6_versionOf_54 : decode cX6_versionOf 54 = .ok (.if_icmp .eq 20, 3) := by decide +kernel
theorem dX6_versionOf_57 : decode cX6_versionOf 57 = .ok (.aload_n 0, 1) := by decide +kernel
theorem dX6_versionOf_58 : decode cX6_versionOf 58 = .ok (.getfield 47, 3) := by decide +kernel
theorem dX6_versionOf_61 : decode cX6_versionOf 61 = .ok (.iload 5, 2) := by decide +kernel
theorem dX6_versionOf_63 : decode cX6_versionOf 63 = .ok (.iaload, 1) := by decide +kernel
theorem dX6_versionOf_64 : decode cX6_versionOf 64 = .ok (.aload_n 0, 1) := by decide +kernel
theorem dX6_versionOf_65 : decode cX6_versionOf 65 = .ok (.getfield 47, 3) := by decide +kernel
theorem dX6_versionOf_68 : decode cX6_versionOf 68 = .ok (.iload 4, 2) := by decide +kernel
theorem dX6_versionOf_70 : decode cX6_versionOf 70 = .ok (.iaload, 1) := by decide +kernel
theorem dX6_versionOf_71 : decode cX6_versionOf 71 = .ok (.if_icmp .lt 8, 3) := by decide +kernel
theorem dX6_versionOf_74 : decode cX6_versionOf 74 = .ok (.iload 5, 2) := by decide +kernel
theorem dX6_versionOf_76 : decode cX6_versionOf 76 = .ok (.goto 5, 3) := by decide +kernel
theorem dX6_versionOf_79 : decode cX6_versionOf 79 = .ok (.iload 4, 2) := by decide +kernel
theorem dX6_versionOf_81 : decode cX6_versionOf 81 = .ok (.istore 4, 2) := by decide +kernel
theorem dX6_versionOf_83 : decode cX6_versionOf 83 = .ok (.iinc 5 1, 3) := by decide +kernel
theorem dX6_versionOf_86 : decode cX6_versionOf 86 = .ok (.goto (-79), 3) := by decide +kernel
theorem dX6_versionOf_89 : decode cX6_versionOf 89 = .ok (.iload 4, 2) := by decide +kernel
theorem dX6_versionOf_91 : decode cX6_versionOf 91 = .ok (.ireturn, 1) := by decide +kernel
set_option maxRecDepth 20000 in
theorem ggX6_factorOf_X6_versionOf : GoodIn wsX6_factorOf wsX6_versionOf := goodIn_r _ [7, 8, 9, 10, 11, 12, 13, 14, 15, 16, 17, 18, 19, 20, 21, 22, 23, 24, 25, 26, 27, 28, 29, 30, 31, 32, 33, 34, 35, 36] (by decide +kernel) (by decide +kernel)
set_option maxRecDepth 20000 in
theorem gX6_factorOf_X6_versionOf : GoodIn wsX6_factorOf (wsV RX6 137 RX6 yX6_versionOf wsX6_versionOf) := goodIn_app (goodIn_of _ (by decide +kernel)) ggX6_factorOf_X6_versionOf
theorem dX6_factorOf_0 : decode cX6_factorOf 0 = .ok (.aload_n 0, 1) := by decide +kernel
theorem dX6_factorOf_1 : decode cX6_factorOf 1 = .ok (.iload_n 1, 1) := by decide +kernel
theorem dX6_factorOf_2 : decode cX6_factorOf 2 = .ok (.iload_n 2, 1) := by decide +kernel
theorem dX6_factorOf_3 : decode cX6_factorOf 3 = .ok (.iload_n 3, 1) := by decide +kernel
theorem dX6_factorOf_4 : decode cX6_factorOf 4 = .ok (.invokevirtual 137, 3) := by decide +kernel
theorem dX6_factorOf_7 : decode cX6_factorOf 7 = .ok (.istore 5, 2) := by decide +kernel
theorem dX6_factorOf_9 : decode cX6_factorOf 9 = .ok (.iload 5, 2) := by decide +kernel
theorem dX6_factorOf_11 : decode cX6_factorOf 11 = .ok (.bipush (-9), 2) := by decide +kernel
theorem dX6_factorOf_13 : decode cX6_factorOf 13 = .ok (.if_icmp .ne 8, 3) := by decide +kernel
theorem dX6_factorOf_16 : decode cX6_factorOf 16 = .ok (.bipush (-9), 2) := by decide +kernel
theorem dX6_factorOf_18 : decode cX6_factorOf 18 = .ok (.goto 25, 3) := by decide +kernel
theorem dX6_factorOf_21 : decode cX6_factorOf 21 = .ok (.iload 4, 2) := by decide +kernel
theorem dX6_factorOf_23 : decode cX6_factorOf 23 = .ok (.ifCond .eq 13, 3) := by decide +kernel
theorem dX6_factorOf_26 : decode cX6_factorOf 26 = .ok (.aload_n 0, 1) := by decide +kernel
theorem dX6_factorOf_27 : decode cX6_factorOf 27 = .ok (.getfield 53, 3) := by decide +kernel
theorem dX6_factorOf_30 : decode cX6_factorOf 30 = .ok (.iload 5, 2) := by decide +kernel
theorem dX6_factorOf_32 : decode cX6_factorOf 32 = .ok (.iaload, 1) := by decide +kernel
theorem dX6_factorOf_33 : decode cX6_factorOf 33 = .ok (.goto 10, 3) := by decide +kernel
theorem dX6_factorOf_36 : decode cX6_factorOf 36 = .ok (.aload_n 0, 1) := by decide +kernel
theorem dX6_factorOf_37 : decode cX6_factorOf 37 = .ok (.getfield 50, 3) := by decide +kernel
theorem dX6_factorOf_40 : decode cX6_factorOf 40 = .ok (.iload 5, 2) := by decide +kernel
theorem dX6_factorOf_42 : decode cX6_factorOf 42 = .ok (.iaload, 1) := by decide +kernel
theorem dX6_factorOf_43 : decode cX6_factorOf 43 = .ok (.ireturn, 1) := by decide +kernel
set_option maxRecDepth 20000 in
theorem ggX6_factorAs_X6_noAs : GoodIn wsX6_factorAs wsX6_noAs := goodIn_r _ [7, 8, 9, 10, 6, 11, 28, 29, 30, 31, 32, 33, 34, 35, 36, 37, 38, 39, 40, 41, 42, 43, 44, 45, 46, 47, 48, 49, 50, 51, 52, 53] (by decide +kernel) (by decide +kernel)
set_option maxRecDepth 20000 in
theorem gX6_factorAs_X6_noAs : GoodIn wsX6_factorAs (wsV RX6 141 RX6 yX6_noAs wsX6_noAs) := goodIn_app (goodIn_of _ (by decide +kernel)) ggX6_factorAs_X6_noAs
set_option maxRecDepth 20000 in
theorem ggX6_factorAs_X6_in : GoodIn wsX6_factorAs wsX6_in := goodIn_r _ [11] (by decide +kernel) (by decide +kernel)
set_option maxRecDepth 20000 in
theorem gX6_factorAs_X6_in : GoodIn wsX6_factorAs (va_wsS RX6 79 yX6_in wsX6_in) := goodIn_app (goodIn_of _ (by decide +kernel)) ggX6_factorAs_X6_in
set_option maxRecDepth 20000 in
theorem ggX6_factorAs_X6_noYear : GoodIn wsX6_factorAs wsX6_noYear := goodIn_r _ [14, 15, 9, 10, 6, 11] (by decide +kernel) (by decide +kernel)
set_option maxRecDepth 20000 in
theorem gX6_factorAs_X6_noYear : GoodIn wsX6_factorAs (va_wsS RX6 134 yX6_noYear wsX6_noYear) := goodIn_app (goodIn_of _ (by decide +kernel)) ggX6_factorAs_X6_noYear
set_option maxRecDepth 20000 in
theorem ggX6_factorAs_X6_factorOf : GoodIn wsX6_factorAs wsX6_factorOf := goodIn_r _ [19, 20, 21, 22, 23, 24, 6, 25, 8, 26, 27, 28, 29, 30, 31, 32, 33, 34, 35, 36, 37, 38, 39, 40, 41, 42, 43, 44, 45, 46, 47, 48, 49, 50, 51, 52, 53] (by decide +kernel) (by decide +kernel)
set_option maxRecDepth 20000 in
theorem gX6_factorAs_X6_factorOf : GoodIn wsX6_factorAs (wsV RX6 144 RX6 yX6_factorOf wsX6_factorOf) := goodIn_app (goodIn_of _ (by decide +kernel)) ggX6_factorAs_X6_factorOf
theorem dX6_factorAs_0 : decode cX6_factorAs 0 = .ok (.aload_n 0, 1) := by decide +kernel
theorem dX6_factorAs_1 : decode cX6_factorAs 1 = .ok (.iconst 0, 1) := by decide +kernel
theorem dX6_factorAs_2 : decode cX6_factorAs 2 = .ok (.putfield 76, 3) := by decide +kernel
theorem dX6_factorAs_5 : decode cX6_factorAs 5 = .ok (.aload_n 0, 1) := by decide +kernel
theorem dX6_factorAs_6 : decode cX6_factorAs 6 = .ok (.iload_n 3, 1) := by decide +kernel
theorem dX6_factorAs_7 : decode cX6_factorAs 7 = .ok (.invokevirtual 141, 3) := by decide +kernel
theorem dX6_factorAs_10 : decode cX6_factorAs 10 = .ok (.ifCond .eq 5, 3) := by decide +kernel
theorem dX6_factorAs_13 : decode cX6_factorAs 13 = .ok (.iconst (-1), 1) := by decide +kernel
theorem dX6_factorAs_14 : decode cX6_factorAs 14 = .ok (.ireturn, 1) := by decide +kernel
theorem dX6_factorAs_15 : decode cX6_factorAs 15 = .ok (.iload_n 1, 1) := by decide +kernel
theorem dX6_factorAs_16 : decode cX6_factorAs 16 = .ok (.i2l, 1) := by decide +kernel
theorem dX6_factorAs_17 : decode cX6_factorAs 17 = .ok (.lconst 0, 1) := by decide +kernel
theorem dX6_factorAs_18 : decode cX6_factorAs 18 = .ok (.ldc2_w 124, 3) := by decide +kernel
theorem dX6_factorAs_21 : decode cX6_factorAs 21 = .ok (.invokestatic 79, 3) := by decide +kernel
theorem dX6_factorAs_24 : decode cX6_factorAs 24 = .ok (.ifCond .eq 10, 3) := by decide +kernel
theorem dX6_factorAs_27 : decode cX6_factorAs 27 = .ok (.iload_n 2, 1) := by decide +kernel
theorem dX6_factorAs_28 : decode cX6_factorAs 28 = .ok (.invokestatic 134, 3) := by decide +kernel
theorem dX6_factorAs_31 : decode cX6_factorAs 31 = .ok (.ifCond .eq 8, 3) := by decide +kernel
theorem dX6_factorAs_34 : decode cX6_factorAs 34 = .ok (.bipush (-2), 2) := by decide +kernel
theorem dX6_factorAs_36 : decode cX6_factorAs 36 = .ok (.goto 12, 3) := by decide +kernel
theorem dX6_factorAs_39 : decode cX6_factorAs 39 = .ok (.aload_n 0, 1) := by decide +kernel
theorem dX6_factorAs_40 : decode cX6_factorAs 40 = .ok (.iload_n 1, 1) := by decide +kernel
theorem dX6_factorAs_41 : decode cX6_factorAs 41 = .ok (.iload_n 2, 1) := by decide +kernel
theorem dX6_factorAs_42 : decode cX6_factorAs 42 = .ok (.iload_n 3, 1) := by decide +kernel
theorem dX6_factorAs_43 : decode cX6_factorAs 43 = .ok (.iload 4, 2) := by decide +kernel
theorem dX6_factorAs_45 : decode cX6_factorAs 45 = .ok (.invokevirtual 144, 3) := by decide +kernel
theorem dX6_factorAs_48 : decode cX6_factorAs 48 = .ok (.ireturn, 1) := by decide +kernel
set_option maxRecDepth 20000 in
theorem ggX6_tonsOf_X6_factorOf : GoodIn wsX6_tonsOf wsX6_factorOf := goodIn_r _ [10, 11, 12, 13, 14, 15, 9, 16, 17, 18, 19, 20, 21, 22, 23, 24, 25, 26, 27, 28, 29, 30, 31, 32, 33, 34, 35, 36, 37, 38, 39, 40, 41, 42, 43, 44, 45] (by decide +kernel) (by decide +kernel)
set_option maxRecDepth 20000 in
theorem gX6_tonsOf_X6_factorOf : GoodIn wsX6_tonsOf (wsV RX6 144 RX6 yX6_factorOf wsX6_factorOf) := goodIn_app (goodIn_of _ (by decide +kernel)) ggX6_tonsOf_X6_factorOf
theorem dX6_tonsOf_0 : decode cX6_tonsOf 0 = .ok (.aload_n 0, 1) := by decide +kernel
theorem dX6_tonsOf_1 : decode cX6_tonsOf 1 = .ok (.aload_n 0, 1) := by decide +kernel
theorem dX6_tonsOf_2 : decode cX6_tonsOf 2 = .ok (.getfield 29, 3) := by decide +kernel
theorem dX6_tonsOf_5 : decode cX6_tonsOf 5 = .ok (.iload_n 1, 1) := by decide +kernel
theorem dX6_tonsOf_6 : decode cX6_tonsOf 6 = .ok (.iaload, 1) := by decide +kernel
theorem dX6_tonsOf_7 : decode cX6_tonsOf 7 = .ok (.aload_n 0, 1) := by decide +kernel
theorem dX6_tonsOf_8 : decode cX6_tonsOf 8 = .ok (.getfield 35, 3) := by decide +kernel
theorem dX6_tonsOf_11 : decode cX6_tonsOf 11 = .ok (.iload_n 1, 1) := by decide +kernel
theorem dX6_tonsOf_12 : decode cX6_tonsOf 12 = .ok (.iaload, 1) := by decide +kernel
theorem dX6_tonsOf_13 : decode cX6_tonsOf 13 = .ok (.sipush 365, 3) := by decide +kernel
theorem dX6_tonsOf_16 : decode cX6_tonsOf 16 = .ok (.idiv, 1) := by decide +kernel
theorem dX6_tonsOf_17 : decode cX6_tonsOf 17 = .ok (.iload_n 2, 1) := by decide +kernel
theorem dX6_tonsOf_18 : decode cX6_tonsOf 18 = .ok (.iload 4, 2) := by decide +kernel
theorem dX6_tonsOf_20 : decode cX6_tonsOf 20 = .ok (.invokevirtual 144, 3) := by decide +kernel
theorem dX6_tonsOf_23 : decode cX6_tonsOf 23 = .ok (.istore 5, 2) := by decide +kernel
theorem dX6_tonsOf_25 : decode cX6_tonsOf 25 = .ok (.aload_n 0, 1) := by decide +kernel
theorem dX6_tonsOf_26 : decode cX6_tonsOf 26 = .ok (.getfield 32, 3) := by decide +kernel
theorem dX6_tonsOf_29 : decode cX6_tonsOf 29 = .ok (.iload_n 1, 1) := by decide +kernel
theorem dX6_tonsOf_30 : decode cX6_tonsOf 30 = .ok (.iaload, 1) := by decide +kernel
theorem dX6_tonsOf_31 : decode cX6_tonsOf 31 = .ok (.iload_n 3, 1) := by decide +kernel
theorem dX6_tonsOf_32 : decode cX6_tonsOf 32 = .ok (.ifCond .eq 22, 3) := by decide +kernel
theorem dX6_tonsOf_35 : decode cX6_tonsOf 35 = .ok (.aload_n 0, 1) := by decide +kernel
theorem dX6_tonsOf_36 : decode cX6_tonsOf 36 = .ok (.getfield 29, 3) := by decide +kernel
theorem dX6_tonsOf_39 : decode cX6_tonsOf 39 = .ok (.iload_n 1, 1) := by decide +kernel
theorem dX6_tonsOf_40 : decode cX6_tonsOf 40 = .ok (.iaload, 1) := by decide +kernel
theorem dX6_tonsOf_41 : decode cX6_tonsOf 41 = .ok (.iconst 1, 1) := by decide +kernel
theorem dX6_tonsOf_42 : decode cX6_tonsOf 42 = .ok (.if_icmp .ne 12, 3) := by decide +kernel
theorem dX6_tonsOf_45 : decode cX6_tonsOf 45 = .ok (.aload_n 0, 1) := by decide +kernel
theorem dX6_tonsOf_46 : decode cX6_tonsOf 46 = .ok (.getfield 41, 3) := by decide +kernel
theorem dX6_tonsOf_49 : decode cX6_tonsOf 49 = .ok (.iload_n 1, 1) := by decide +kernel
theorem dX6_tonsOf_50 : decode cX6_tonsOf 50 = .ok (.iaload, 1) := by decide +kernel
theorem dX6_tonsOf_51 : decode cX6_tonsOf 51 = .ok (.goto 4, 3) := by decide +kernel
theorem dX6_tonsOf_54 : decode cX6_tonsOf 54 = .ok (.iconst 0, 1) := by decide +kernel
theorem dX6_tonsOf_55 : decode cX6_tonsOf 55 = .ok (.isub, 1) := by decide +kernel
theorem dX6_tonsOf_56 : decode cX6_tonsOf 56 = .ok (.istore 6, 2) := by decide +kernel
theorem dX6_tonsOf_58 : decode cX6_tonsOf 58 = .ok (.iload 5, 2) := by decide +kernel
theorem dX6_tonsOf_60 : decode cX6_tonsOf 60 = .ok (.bipush (-9), 2) := by decide +kernel
theorem dX6_tonsOf_62 : decode cX6_tonsOf 62 = .ok (.if_icmp .ne 9, 3) := by decide +kernel
theorem dX6_tonsOf_65 : decode cX6_tonsOf 65 = .ok (.ldc2_w 148, 3) := by decide +kernel
theorem dX6_tonsOf_68 : decode cX6_tonsOf 68 = .ok (.goto 10, 3) := by decide +kernel
theorem dX6_tonsOf_71 : decode cX6_tonsOf 71 = .ok (.iload 6, 2) := by decide +kernel
theorem dX6_tonsOf_73 : decode cX6_tonsOf 73 = .ok (.i2l, 1) := by decide +kernel
theorem dX6_tonsOf_74 : decode cX6_tonsOf 74 = .ok (.iload 5, 2) := by decide +kernel
theorem dX6_tonsOf_76 : decode cX6_tonsOf 76 = .ok (.i2l, 1) := by decide +kernel
theorem dX6_tonsOf_77 : decode cX6_tonsOf 77 = .ok (.lmul, 1) := by decide +kernel
theorem dX6_tonsOf_78 : decode cX6_tonsOf 78 = .ok (.lreturn, 1) := by decide +kernel
set_option maxRecDepth 20000 in
theorem ggX6_tons_X6_noRow : GoodIn wsX6_tons wsX6_noRow := goodIn_r _ [7, 8, 9, 10, 6, 11, 38, 39, 40, 41, 42, 43, 44, 45, 46, 47, 48, 49, 50, 51, 52, 53, 54, 55, 56, 57, 58, 59, 60, 61, 62, 63] (by decide +kernel) (by decide +kernel)
set_option maxRecDepth 20000 in
theorem gX6_tons_X6_noRow : GoodIn wsX6_tons (wsV RX6 128 RX6 yX6_noRow wsX6_noRow) := goodIn_app (goodIn_of _ (by decide +kernel)) ggX6_tons_X6_noRow
set_option maxRecDepth 20000 in
theorem ggX6_tons_X6_noAs : GoodIn wsX6_tons wsX6_noAs := goodIn_r _ [15, 16, 9, 10, 6, 11, 38, 39, 40, 41, 42, 43, 44, 45, 46, 47, 48, 49, 50, 51, 52, 53, 54, 55, 56, 57, 58, 59, 60, 61, 62, 63] (by decide +kernel) (by decide +kernel)
set_option maxRecDepth 20000 in
theorem gX6_tons_X6_noAs : GoodIn wsX6_tons (wsV RX6 141 RX6 yX6_noAs wsX6_noAs) := goodIn_app (goodIn_of _ (by decide +kernel)) ggX6_tons_X6_noAs
set_option maxRecDepth 20000 in
theorem ggX6_tons_X6_tonsOf : GoodIn wsX6_tons wsX6_tonsOf := goodIn_r _ [20, 21, 22, 23, 24, 25, 26, 27, 28, 6, 29, 30, 31, 32, 33, 34, 35, 16, 36, 37, 38, 39, 40, 41, 42, 43, 44, 45, 46, 47, 48, 49, 50, 51, 52, 53, 54, 55, 56, 57, 58, 59, 60, 61, 62, 63] (by decide +kernel) (by decide +kernel)
set_option maxRecDepth 20000 in
theorem gX6_tons_X6_tonsOf : GoodIn wsX6_tons (wsV RX6 150 RX6 yX6_tonsOf wsX6_tonsOf) := goodIn_app (goodIn_of _ (by decide +kernel)) ggX6_tons_X6_tonsOf
theorem dX6_tons_0 : decode cX6_tons 0 = .ok (.aload_n 0, 1) := by decide +kernel
theorem dX6_tons_1 : decode cX6_tons 1 = .ok (.iconst 0, 1) := by decide +kernel
theorem dX6_tons_2 : decode cX6_tons 2 = .ok (.putfield 76, 3) := by decide +kernel
theorem dX6_tons_5 : decode cX6_tons 5 = .ok (.aload_n 0, 1) := by decide +kernel
theorem dX6_tons_6 : decode cX6_tons 6 = .ok (.iload_n 1, 1) := by decide +kernel
theorem dX6_tons_7 : decode cX6_tons 7 = .ok (.invokevirtual 128, 3) := by decide +kernel
theorem dX6_tons_10 : decode cX6_tons 10 = .ok (.ifCond .ne 11, 3) := by decide +kernel
theorem dX6_tons_13 : decode cX6_tons 13 = .ok (.aload_n 0, 1) := by decide +kernel
theorem dX6_tons_14 : decode cX6_tons 14 = .ok (.iload_n 2, 1) := by decide +kernel
theorem dX6_tons_15 : decode cX6_tons 15 = .ok (.invokevirtual 141, 3) := by decide +kernel
theorem dX6_tons_18 : decode cX6_tons 18 = .ok (.ifCond .eq 9, 3) := by decide +kernel
theorem dX6_tons_21 : decode cX6_tons 21 = .ok (.ldc2_w 117, 3) := by decide +kernel
theorem dX6_tons_24 : decode cX6_tons 24 = .ok (.goto 12, 3) := by decide +kernel
theorem dX6_tons_27 : decode cX6_tons 27 = .ok (.aload_n 0, 1) := by decide +kernel
theorem dX6_tons_28 : decode cX6_tons 28 = .ok (.iload_n 1, 1) := by decide +kernel
theorem dX6_tons_29 : decode cX6_tons 29 = .ok (.iload_n 2, 1) := by decide +kernel
theorem dX6_tons_30 : decode cX6_tons 30 = .ok (.iload_n 3, 1) := by decide +kernel
theorem dX6_tons_31 : decode cX6_tons 31 = .ok (.iload 4, 2) := by decide +kernel
theorem dX6_tons_33 : decode cX6_tons 33 = .ok (.invokevirtual 150, 3) := by decide +kernel
theorem dX6_tons_36 : decode cX6_tons 36 = .ok (.lreturn, 1) := by decide +kernel
set_option maxRecDepth 20000 in
theorem ggX6_isOther_X6_tonsOf : GoodIn wsX6_isOther wsX6_tonsOf := goodIn_r _ [5, 6, 7, 8, 9, 10, 11, 12, 13, 4, 14, 15, 16, 17, 18, 19, 20, 21, 22, 23, 24, 25, 26, 27, 28, 29, 30, 31, 32, 33, 34, 35, 36, 37, 38, 39, 40, 41, 42, 43, 44, 45, 46, 47, 48, 49] (by decide +kernel) (by decide +kernel)
set_option maxRecDepth 20000 in
theorem gX6_isOther_X6_tonsOf : GoodIn wsX6_isOther (wsV RX6 150 RX6 yX6_tonsOf wsX6_tonsOf) := goodIn_app (goodIn_of _ (by decide +kernel)) ggX6_isOther_X6_tonsOf
theorem dX6_isOther_0 : decode cX6_isOther 0 = .ok (.aload_n 0, 1) := by decide +kernel
theorem dX6_isOther_1 : decode cX6_isOther 1 = .ok (.iload_n 1, 1) := by decide +kernel
theorem dX6_isOther_2 : decode cX6_isOther 2 = .ok (.iload_n 2, 1) := by decide +kernel
theorem dX6_isOther_3 : decode cX6_isOther 3 = .ok (.iconst 0, 1) := by decide +kernel
theorem dX6_isOther_4 : decode cX6_isOther 4 = .ok (.iconst 0, 1) := by decide +kernel
theorem dX6_isOther_5 : decode cX6_isOther 5 = .ok (.invokevirtual 150, 3) := by decide +kernel
theorem dX6_isOther_8 : decode cX6_isOther 8 = .ok (.aload_n 0, 1) := by decide +kernel
theorem dX6_isOther_9 : decode cX6_isOther 9 = .ok (.iload_n 1, 1) := by decide +kernel
theorem dX6_isOther_10 : decode cX6_isOther 10 = .ok (.iload_n 3, 1) := by decide +kernel
theorem dX6_isOther_11 : decode cX6_isOther 11 = .ok (.iconst 0, 1) := by decide +kernel
theorem dX6_isOther_12 : decode cX6_isOther 12 = .ok (.iconst 0, 1) := by decide +kernel
theorem dX6_isOther_13 : decode cX6_isOther 13 = .ok (.invokevirtual 150, 3) := by decide +kernel
theorem dX6_isOther_16 : decode cX6_isOther 16 = .ok (.lcmp, 1) := by decide +kernel
theorem dX6_isOther_17 : decode cX6_isOther 17 = .ok (.ifCond .ne 23, 3) := by decide +kernel
theorem dX6_isOther_20 : decode cX6_isOther 20 = .ok (.aload_n 0, 1) := by decide +kernel
theorem dX6_isOther_21 : decode cX6_isOther 21 = .ok (.iload_n 1, 1) := by decide +kernel
theorem dX6_isOther_22 : decode cX6_isOther 22 = .ok (.iload_n 2, 1) := by decide +kernel
theorem dX6_isOther_23 : decode cX6_isOther 23 = .ok (.iconst 0, 1) := by decide +kernel
theorem dX6_isOther_24 : decode cX6_isOther 24 = .ok (.iconst 1, 1) := by decide +kernel
theorem dX6_isOther_25 : decode cX6_isOther 25 = .ok (.invokevirtual 150, 3) := by decide +kernel
theorem dX6_isOther_28 : decode cX6_isOther 28 = .ok (.aload_n 0, 1) := by decide +kernel
theorem dX6_isOther_29 : decode cX6_isOther 29 = .ok (.iload_n 1, 1) := by decide +kernel
theorem dX6_isOther_30 : decode cX6_isOther 30 = .ok (.iload_n 3, 1) := by decide +kernel
theorem dX6_isOther_31 : decode cX6_isOther 31 = .ok (.iconst 0, 1) := by decide +kernel
theorem dX6_isOther_32 : decode cX6_isOther 32 = .ok (.iconst 1, 1) := by decide +kernel
theorem dX6_isOther_33 : decode cX6_isOther 33 = .ok (.invokevirtual 150, 3) := by decide +kernel
theorem dX6_isOther_36 : decode cX6_isOther 36 = .ok (.lcmp, 1) := by decide +kernel
theorem dX6_isOther_37 : decode cX6_isOther 37 = .ok (.ifCond .eq 7, 3) := by decide +kernel
theorem dX6_isOther_40 : decode cX6_isOther 40 = .ok (.iconst 1, 1) := by decide +kernel
theorem dX6_isOther_41 : decode cX6_isOther 41 = .ok (.goto 4, 3) := by decide +kernel
theorem dX6_isOther_44 : decode cX6_isOther 44 = .ok (.iconst 0, 1) := by decide +kernel
theorem dX6_isOther_45 : decode cX6_isOther 45 = .ok (.ireturn, 1) := by decide +kernel
set_option maxRecDepth 20000 in
theorem ggX6_changed_X6_noAs : GoodIn wsX6_changed wsX6_noAs := goodIn_r _ [8, 9, 10, 11, 7, 12, 41, 42, 43, 44, 45, 46, 47, 48, 49, 50, 51, 52, 53, 54, 55, 56, 57, 58, 59, 60, 61, 62, 63, 64, 65, 66] (by decide +kernel) (by decide +kernel)
set_option maxRecDepth 20000 in
theorem gX6_changed_X6_noAs : GoodIn wsX6_changed (wsV RX6 141 RX6 yX6_noAs wsX6_noAs) := goodIn_app (goodIn_of _ (by decide +kernel)) ggX6_changed_X6_noAs
set_option maxRecDepth 20000 in
theorem ggX6_changed_X6_noYear : GoodIn wsX6_changed wsX6_noYear := goodIn_r _ [15, 16, 10, 11, 7, 12] (by decide +kernel) (by decide +kernel)
set_option maxRecDepth 20000 in
theorem gX6_changed_X6_noYear : GoodIn wsX6_changed (va_wsS RX6 134 yX6_noYear wsX6_noYear) := goodIn_app (goodIn_of _ (by decide +kernel)) ggX6_changed_X6_noYear
set_option maxRecDepth 20000 in
theorem ggX6_changed_X6_isOther : GoodIn wsX6_changed wsX6_isOther := goodIn_r _ [20, 21, 22, 23, 7, 24, 25, 3, 26, 27, 28, 29, 30, 31, 32, 33, 34, 35, 36, 37, 38, 9, 39, 40, 41, 42, 43, 44, 45, 46, 47, 48, 49, 50, 51, 52, 53, 54, 55, 56, 57, 58, 59, 60, 61, 62, 63, 64, 65, 66] (by decide +kernel) (by decide +kernel)
set_option maxRecDepth 20000 in
theorem gX6_changed_X6_isOther : GoodIn wsX6_changed (wsV RX6 154 RX6 yX6_isOther wsX6_isOther) := goodIn_app (goodIn_of _ (by decide +kernel)) ggX6_changed_X6_isOther
theorem dX6_changed_0 : decode cX6_changed 0 = .ok (.aload_n 0, 1) := by decide +kernel
theorem dX6_changed_1 : decode cX6_changed 1 = .ok (.iconst 0, 1) := by decide +kernel
theorem dX6_changed_2 : decode cX6_changed 2 = .ok (.putfield 76, 3) := by decide +kernel
theorem dX6_changed_5 : decode cX6_changed 5 = .ok (.aload_n 0, 1) := by decide +kernel
theorem dX6_changed_6 : decode cX6_changed 6 = .ok (.iload_n 2, 1) := by decide +kernel
theorem dX6_changed_7 : decode cX6_changed 7 = .ok (.invokevirtual 141, 3) := by decide +kernel
theorem dX6_changed_10 : decode cX6_changed 10 = .ok (.ifCond .ne 11, 3) := by decide +kernel
theorem dX6_changed_13 : decode cX6_changed 13 = .ok (.aload_n 0, 1) := by decide +kernel
theorem dX6_changed_14 : decode cX6_changed 14 = .ok (.iload_n 3, 1) := by decide +kernel
theorem dX6_changed_15 : decode cX6_changed 15 = .ok (.invokevirtual 141, 3) := by decide +kernel
theorem dX6_changed_18 : decode cX6_changed 18 = .ok (.ifCond .eq 5, 3) := by decide +kernel
theorem dX6_changed_21 : decode cX6_changed 21 = .ok (.iconst (-1), 1) := by decide +kernel
theorem dX6_changed_22 : decode cX6_changed 22 = .ok (.ireturn, 1) := by decide +kernel
theorem dX6_changed_23 : decode cX6_changed 23 = .ok (.iload_n 1, 1) := by decide +kernel
theorem dX6_changed_24 : decode cX6_changed 24 = .ok (.invokestatic 134, 3) := by decide +kernel
theorem dX6_changed_27 : decode cX6_changed 27 = .ok (.ifCond .eq 6, 3) := by decide +kernel
theorem dX6_changed_30 : decode cX6_changed 30 = .ok (.bipush (-2), 2) := by decide +kernel
theorem dX6_changed_32 : decode cX6_changed 32 = .ok (.ireturn, 1) := by decide +kernel
theorem dX6_changed_33 : decode cX6_changed 33 = .ok (.iconst 0, 1) := by decide +kernel
theorem dX6_changed_34 : decode cX6_changed 34 = .ok (.istore 4, 2) := by decide +kernel
theorem dX6_changed_36 : decode cX6_changed 36 = .ok (.iconst 0, 1) := by decide +kernel
theorem dX6_changed_37 : decode cX6_changed 37 = .ok (.istore 5, 2) := by decide +kernel
theorem dX6_changed_39 : decode cX6_changed 39 = .ok (.iload 5, 2) := by decide +kernel
theorem dX6_changed_41 : decode cX6_changed 41 = .ok (.aload_n 0, 1) := by decide +kernel
theorem dX6_changed_42 : decode cX6_changed 42 = .ok (.getfield 90, 3) := by decide +kernel
theorem dX6_changed_45 : decode cX6_changed 45 = .ok (.if_icmp .ge 45, 3) := by decide +kernel
theorem dX6_changed_48 : decode cX6_changed 48 = .ok (.iload 4, 2) := by decide +kernel
theorem dX6_changed_50 : decode cX6_changed 50 = .ok (.aload_n 0, 1) := by decide +kernel
theorem dX6_changed_51 : decode cX6_changed 51 = .ok (.getfield 35, 3) := by decide +kernel
theorem dX6_changed_54 : decode cX6_changed 54 = .ok (.iload 5, 2) := by decide +kernel
theorem dX6_changed_56 : decode cX6_changed 56 = .ok (.iaload, 1) := by decide +kernel
theorem dX6_changed_57 : decode cX6_changed 57 = .ok (.sipush 365, 3) := by decide +kernel
theorem dX6_changed_60 : decode cX6_changed 60 = .ok (.idiv, 1) := by decide +kernel
theorem dX6_changed_61 : decode cX6_changed 61 = .ok (.iload_n 1, 1) := by decide +kernel
theorem dX6_changed_62 : decode cX6_changed 62 = .ok (.if_icmp .ne 18, 3) := by decide +kernel
theorem dX6_changed_65 : decode cX6_changed 65 = .ok (.aload_n 0, 1) := by decide +kernel
theorem dX6_changed_66 : decode cX6_changed 66 = .ok (.iload 5, 2) := by decide +kernel
theorem dX6_changed_68 : decode cX6_changed 68 = .ok (.iload_n 2, 1) := by decide +kernel
theorem dX6_changed_69 : decode cX6_changed 69 = .ok (.iload_n 3, 1) := by decide +kernel
theorem dX6_changed_70 : decode cX6_changed 70 = .ok (.invokevirtual 154, 3) := by decide +kernel
theorem dX6_changed_73 : decode cX6_changed 73 = .ok (.ifCond .eq 7, 3) := by decide +kernel
theorem dX6_changed_76 : decode cX6_changed 76 = .ok (.iconst 1, 1) := by decide +kernel
theorem dX6_changed_77 : decode cX6_changed 77 = .ok (.goto 4, 3) := by decide +kernel
theorem dX6_changed_80 : decode cX6_changed 80 = .ok (.iconst 0, 1) := by decide +kernel
theorem dX6_changed_81 : decode cX6_changed 81 = .ok (.iadd, 1) := by decide +kernel
theorem dX6_changed_82 : decode cX6_changed 82 = .ok (.istore 4, 2) := by decide +kernel
theorem dX6_changed_84 : decode cX6_changed 84 = .ok (.iinc 5 1, 3) := by decide +kernel
theorem dX6_changed_87 : decode cX6_changed 87 = .ok (.goto (-48), 3) := by decide +kernel
theorem dX6_changed_90 : decode cX6_changed 90 = .ok (.iload 4, 2) := by decide +kernel
theorem dX6_changed_92 : decode cX6_changed 92 = .ok (.ireturn, 1) := by decide +kernel
set_option maxRecDepth 20000 in
theorem ggX6_change_X6_noAs : GoodIn wsX6_change wsX6_noAs := goodIn_r _ [8, 9, 10, 11, 7, 12, 41, 42, 43, 44, 45, 46, 47, 48, 49, 50, 51, 52, 53, 54, 55, 56, 57, 58, 59, 60, 61, 62, 63, 64, 65, 66] (by decide +kernel) (by decide +kernel)
set_option maxRecDepth 20000 in
theorem gX6_change_X6_noAs : GoodIn wsX6_change (wsV RX6 141 RX6 yX6_noAs wsX6_noAs) := goodIn_app (goodIn_of _ (by decide +kernel)) ggX6_change_X6_noAs
set_option maxRecDepth 20000 in
theorem ggX6_change_X6_noYear : GoodIn wsX6_change wsX6_noYear := goodIn_r _ [15, 16, 10, 11, 7, 12] (by decide +kernel) (by decide +kernel)
set_option maxRecDepth 20000 in
theorem gX6_change_X6_noYear : GoodIn wsX6_change (va_wsS RX6 134 yX6_noYear wsX6_noYear) := goodIn_app (goodIn_of _ (by decide +kernel)) ggX6_change_X6_noYear
set_option maxRecDepth 20000 in
theorem ggX6_change_X6_isOther : GoodIn wsX6_change wsX6_isOther := goodIn_r _ [20, 21, 22, 23, 7, 24, 25, 3, 26, 27, 28, 29, 30, 31, 32, 33, 34, 35, 36, 37, 38, 9, 39, 40, 41, 42, 43, 44, 45, 46, 47, 48, 49, 50, 51, 52, 53, 54, 55, 56, 57, 58, 59, 60, 61, 62, 63, 64, 65, 66] (by decide +kernel) (by decide +kernel)
set_option maxRecDepth 20000 in
theorem gX6_change_X6_isOther : GoodIn wsX6_change (wsV RX6 154 RX6 yX6_isOther wsX6_isOther) := goodIn_app (goodIn_of _ (by decide +kernel)) ggX6_change_X6_isOther
theorem dX6_change_0 : decode cX6_change 0 = .ok (.aload_n 0, 1) := by decide +kernel
theorem dX6_change_1 : decode cX6_change 1 = .ok (.iconst 0, 1) := by decide +kernel
theorem dX6_change_2 : decode cX6_change 2 = .ok (.putfield 76, 3) := by decide +kernel
theorem dX6_change_5 : decode cX6_change 5 = .ok (.aload_n 0, 1) := by decide +kernel
theorem dX6_change_6 : decode cX6_change 6 = .ok (.iload_n 3, 1) := by decide +kernel
theorem dX6_change_7 : decode cX6_change 7 = .ok (.invokevirtual 141, 3) := by decide +kernel
theorem dX6_change_10 : decode cX6_change 10 = .ok (.ifCond .ne 12, 3) := by decide +kernel
theorem dX6_change_13 : decode cX6_change 13 = .ok (.aload_n 0, 1) := by decide +kernel
theorem dX6_change_14 : decode cX6_change 14 = .ok (.iload 4, 2) := by decide +kernel
theorem dX6_change_16 : decode cX6_change 16 = .ok (.invokevirtual 141, 3) := by decide +kernel
theorem dX6_change_19 : decode cX6_change 19 = .ok (.ifCond .eq 5, 3) := by decide +kernel
theorem dX6_change_22 : decode cX6_change 22 = .ok (.iconst (-1), 1) := by decide +kernel
theorem dX6_change_23 : decode cX6_change 23 = .ok (.ireturn, 1) := by decide +kernel
theorem dX6_change_24 : decode cX6_change 24 = .ok (.iload_n 2, 1) := by decide +kernel
theorem dX6_change_25 : decode cX6_change 25 = .ok (.invokestatic 134, 3) := by decide +kernel
theorem dX6_change_28 : decode cX6_change 28 = .ok (.ifCond .eq 6, 3) := by decide +kernel
theorem dX6_change_31 : decode cX6_change 31 = .ok (.bipush (-2), 2) := by decide +kernel
theorem dX6_change_33 : decode cX6_change 33 = .ok (.ireturn, 1) := by decide +kernel
theorem dX6_change_34 : decode cX6_change 34 = .ok (.iconst 0, 1) := by decide +kernel
theorem dX6_change_35 : decode cX6_change 35 = .ok (.istore 5, 2) := by decide +kernel
theorem dX6_change_37 : decode cX6_change 37 = .ok (.iconst 0, 1) := by decide +kernel
theorem dX6_change_38 : decode cX6_change 38 = .ok (.istore 6, 2) := by decide +kernel
theorem dX6_change_40 : decode cX6_change 40 = .ok (.iload 6, 2) := by decide +kernel
theorem dX6_change_42 : decode cX6_change 42 = .ok (.aload_n 0, 1) := by decide +kernel
theorem dX6_change_43 : decode cX6_change 43 = .ok (.getfield 90, 3) := by decide +kernel
theorem dX6_change_46 : decode cX6_change 46 = .ok (.if_icmp .ge 48, 3) := by decide +kernel
theorem dX6_change_49 : decode cX6_change 49 = .ok (.aload_n 0, 1) := by decide +kernel
theorem dX6_change_50 : decode cX6_change 50 = .ok (.getfield 35, 3) := by decide +kernel
theorem dX6_change_53 : decode cX6_change 53 = .ok (.iload 6, 2) := by decide +kernel
theorem dX6_change_55 : decode cX6_change 55 = .ok (.iaload, 1) := by decide +kernel
theorem dX6_change_56 : decode cX6_change 56 = .ok (.sipush 365, 3) := by decide +kernel
theorem dX6_change_59 : decode cX6_change 59 = .ok (.idiv, 1) := by decide +kernel
theorem dX6_change_60 : decode cX6_change 60 = .ok (.iload_n 2, 1) := by decide +kernel
theorem dX6_change_61 : decode cX6_change 61 = .ok (.if_icmp .ne 27, 3) := by decide +kernel
theorem dX6_change_64 : decode cX6_change 64 = .ok (.aload_n 0, 1) := by decide +kernel
theorem dX6_change_65 : decode cX6_change 65 = .ok (.iload 6, 2) := by decide +kernel
theorem dX6_change_67 : decode cX6_change 67 = .ok (.iload_n 3, 1) := by decide +kernel
theorem dX6_change_68 : decode cX6_change 68 = .ok (.iload 4, 2) := by decide +kernel
theorem dX6_change_70 : decode cX6_change 70 = .ok (.invokevirtual 154, 3) := by decide +kernel
theorem dX6_change_73 : decode cX6_change 73 = .ok (.ifCond .eq 15, 3) := by decide +kernel
theorem dX6_change_76 : decode cX6_change 76 = .ok (.iload 5, 2) := by decide +kernel
theorem dX6_change_78 : decode cX6_change 78 = .ok (.iload_n 1, 1) := by decide +kernel
theorem dX6_change_79 : decode cX6_change 79 = .ok (.if_icmp .ne 6, 3) := by decide +kernel
theorem dX6_change_82 : decode cX6_change 82 = .ok (.iload 6, 2) := by decide +kernel
theorem dX6_change_84 : decode cX6_change 84 = .ok (.ireturn, 1) := by decide +kernel
theorem dX6_change_85 : decode cX6_change 85 = .ok (.iinc 5 1, 3) := by decide +kernel
theorem dX6_change_88 : decode cX6_change 88 = .ok (.iinc 6 1, 3) := by decide +kernel
theorem dX6_change_91 : decode cX6_change 91 = .ok (.goto (-51), 3) := by decide +kernel
theorem dX6_change_94 : decode cX6_change 94 = .ok (.bipush (-9), 2) := by decide +kernel
theorem dX6_change_96 : decode cX6_change 96 = .ok (.ireturn, 1) := by decide +kernel
set_option maxRecDepth 20000 in
theorem ggX6_totalOf_X6_isDouble : GoodIn wsX6_totalOf wsX6_isDouble := goodIn_r _ [10, 11, 4, 3, 12, 13, 14, 9, 15, 16, 17, 18, 19, 20, 21, 22, 23, 24, 25, 26, 27, 28, 29, 30, 51, 52, 53, 54, 55, 56, 57, 58, 59, 60, 61, 62, 63, 64, 65, 66, 67, 68, 69, 70, 71, 72, 73, 74, 75, 76] (by decide +kernel) (by decide +kernel)
set_option maxRecDepth 20000 in
theorem gX6_totalOf_X6_isDouble : GoodIn wsX6_totalOf (wsV RX6 131 RX6 yX6_isDouble wsX6_isDouble) := goodIn_app (goodIn_of _ (by decide +kernel)) ggX6_totalOf_X6_isDouble
set_option maxRecDepth 20000 in
theorem ggX6_totalOf_X6_shares : GoodIn wsX6_totalOf wsX6_shares := goodIn_r _ [15, 4, 16, 17, 18, 19, 20, 21, 22, 9, 23, 24, 25, 26, 27, 28, 29, 30, 51, 52, 53, 54, 55, 56, 57, 58, 59, 60, 61, 62, 63, 64, 65, 66, 67, 68, 69, 70, 71, 72, 73, 74, 75, 76] (by decide +kernel) (by decide +kernel)
set_option maxRecDepth 20000 in
theorem gX6_totalOf_X6_shares : GoodIn wsX6_totalOf (wsV RX6 121 RX6 yX6_shares wsX6_shares) := goodIn_app (goodIn_of _ (by decide +kernel)) ggX6_totalOf_X6_shares
set_option maxRecDepth 20000 in
theorem ggX6_totalOf_X6_tonsOf : GoodIn wsX6_totalOf wsX6_tonsOf := goodIn_r _ [34, 35, 2, 36, 37, 5, 38, 39, 40, 9, 41, 42, 43, 44, 45, 46, 47, 48, 49, 50, 51, 52, 53, 54, 55, 56, 57, 58, 59, 60, 61, 62, 63, 64, 65, 66, 67, 68, 69, 70, 71, 72, 73, 74, 75, 76] (by decide +kernel) (by decide +kernel)
set_option maxRecDepth 20000 in
theorem gX6_totalOf_X6_tonsOf : GoodIn wsX6_totalOf (wsV RX6 150 RX6 yX6_tonsOf wsX6_tonsOf) := goodIn_app (goodIn_of _ (by decide +kernel)) ggX6_totalOf_X6_tonsOf
theorem dX6_totalOf_0 : decode cX6_totalOf 0 = .ok (.lconst 0, 1) := by decide +kernel
theorem dX6_totalOf_1 : decode cX6_totalOf 1 = .ok (.lstore 8, 2) := by decide +kernel
theorem dX6_totalOf_3 : decode cX6_totalOf 3 = .ok (.iconst 0, 1) := by decide +kernel
theorem dX6_totalOf_4 : decode cX6_totalOf 4 = .ok (.istore 10, 2) := by decide +kernel
theorem dX6_totalOf_6 : decode cX6_totalOf 6 = .ok (.iload 10, 2) := by decide +kernel
theorem dX6_totalOf_8 : decode cX6_totalOf 8 = .ok (.aload_n 0, 1) := by decide +kernel
theorem dX6_totalOf_9 : decode cX6_totalOf 9 = .ok (.getfield 90, 3) := by decide +kernel
theorem dX6_totalOf_12 : decode cX6_totalOf 12 = .ok (.if_icmp .ge 167, 3) := by decide +kernel
theorem dX6_totalOf_15 : decode cX6_totalOf 15 = .ok (.iload_n 3, 1) := by decide +kernel
theorem dX6_totalOf_16 : decode cX6_totalOf 16 = .ok (.bipush (-9), 2) := by decide +kernel
theorem dX6_totalOf_18 : decode cX6_totalOf 18 = .ok (.if_icmp .ne 13, 3) := by decide +kernel
theorem dX6_totalOf_21 : decode cX6_totalOf 21 = .ok (.aload_n 0, 1) := by decide +kernel
theorem dX6_totalOf_22 : decode cX6_totalOf 22 = .ok (.getfield 35, 3) := by decide +kernel
theorem dX6_totalOf_25 : decode cX6_totalOf 25 = .ok (.iload 10, 2) := by decide +kernel
theorem dX6_totalOf_27 : decode cX6_totalOf 27 = .ok (.iaload, 1) := by decide +kernel
theorem dX6_totalOf_28 : decode cX6_totalOf 28 = .ok (.goto 4, 3) := by decide +kernel
theorem dX6_totalOf_31 : decode cX6_totalOf 31 = .ok (.iload_n 3, 1) := by decide +kernel
theorem dX6_totalOf_32 : decode cX6_totalOf 32 = .ok (.istore 11, 2) := by decide +kernel
theorem dX6_totalOf_34 : decode cX6_totalOf 34 = .ok (.aload_n 0, 1) := by decide +kernel
theorem dX6_totalOf_35 : decode cX6_totalOf 35 = .ok (.getfield 35, 3) := by decide +kernel
theorem dX6_totalOf_38 : decode cX6_totalOf 38 = .ok (.iload 10, 2) := by decide +kernel
theorem dX6_totalOf_40 : decode cX6_totalOf 40 = .ok (.iaload, 1) := by decide +kernel
theorem dX6_totalOf_41 : decode cX6_totalOf 41 = .ok (.sipush 365, 3) := by decide +kernel
theorem dX6_totalOf_44 : decode cX6_totalOf 44 = .ok (.idiv, 1) := by decide +kernel
theorem dX6_totalOf_45 : decode cX6_totalOf 45 = .ok (.iload_n 2, 1) := by decide +kernel
theorem dX6_totalOf_46 : decode cX6_totalOf 46 = .ok (.if_icmp .ne 127, 3) := by decide +kernel
theorem dX6_totalOf_49 : decode cX6_totalOf 49 = .ok (.iload_n 1, 1) := by decide +kernel
theorem dX6_totalOf_50 : decode cX6_totalOf 50 = .ok (.bipush (-9), 2) := by decide +kernel
theorem dX6_totalOf_52 : decode cX6_totalOf 52 = .ok (.if_icmp .eq 14, 3) := by decide +kernel
theorem dX6_totalOf_55 : decode cX6_totalOf 55 = .ok (.aload_n 0, 1) := by decide +kernel
theorem dX6_totalOf_56 : decode cX6_totalOf 56 = .ok (.getfield 26, 3) := by decide +kernel
theorem dX6_totalOf_59 : decode cX6_totalOf 59 = .ok (.iload 10, 2) := by decide +kernel
theorem dX6_totalOf_61 : decode cX6_totalOf 61 = .ok (.iaload, 1) := by decide +kernel
theorem dX6_totalOf_62 : decode cX6_totalOf 62 = .ok (.iload_n 1, 1) := by decide +kernel
theorem dX6_totalOf_63 : decode cX6_totalOf 63 = .ok (.if_icmp .ne 110, 3) := by decide +kernel
theorem dX6_totalOf_66 : decode cX6_totalOf 66 = .ok (.iload 6, 2) := by decide +kernel
theorem dX6_totalOf_68 : decode cX6_totalOf 68 = .ok (.ifCond .eq 14, 3) := by decide +kernel
theorem dX6_totalOf_71 : decode cX6_totalOf 71 = .ok (.aload_n 0, 1) := by decide +kernel
theorem dX6_totalOf_72 : decode cX6_totalOf 72 = .ok (.iload 10, 2) := by decide +kernel
theorem dX6_totalOf_74 : decode cX6_totalOf 74 = .ok (.iload 11, 2) := by decide +kernel
theorem dX6_totalOf_76 : decode cX6_totalOf 76 = .ok (.invokevirtual 131, 3) := by decide +kernel
theorem dX6_totalOf_79 : decode cX6_totalOf 79 = .ok (.ifCond .ne 94, 3) := by decide +kernel
theorem dX6_totalOf_82 : decode cX6_totalOf 82 = .ok (.aload_n 0, 1) := by decide +kernel
theorem dX6_totalOf_83 : decode cX6_totalOf 83 = .ok (.iload 11, 2) := by decide +kernel
theorem dX6_totalOf_85 : decode cX6_totalOf 85 = .ok (.invokevirtual 121, 3) := by decide +kernel
theorem dX6_totalOf_88 : decode cX6_totalOf 88 = .ok (.aload_n 0, 1) := by decide +kernel
theorem dX6_totalOf_89 : decode cX6_totalOf 89 = .ok (.iload 10, 2) := by decide +kernel
theorem dX6_totalOf_91 : decode cX6_totalOf 91 = .ok (.iload 4, 2) := by decide +kernel
theorem dX6_totalOf_93 : decode cX6_totalOf 93 = .ok (.iload 5, 2) := by decide +kernel
theorem dX6_totalOf_95 : decode cX6_totalOf 95 = .ok (.iload 7, 2) := by decide +kernel
theorem dX6_totalOf_97 : decode cX6_totalOf 97 = .ok (.invokevirtual 150, 3) := by decide +kernel
theorem dX6_totalOf_100 : decode cX6_totalOf 100 = .ok (.lstore 12, 2) := by decide +kernel
theorem dX6_totalOf_102 : decode cX6_totalOf 102 = .ok (.aload_n 0, 1) := by decide +kernel
theorem dX6_totalOf_103 : decode cX6_totalOf 103 = .ok (.getfield 65, 3) := by decide +kernel
theorem dX6_totalOf_106 : decode cX6_totalOf 106 = .ok (.aload_n 0, 1) := by decide +kernel
theorem dX6_totalOf_107 : decode cX6_totalOf 107 = .ok (.getfield 26, 3) := by decide +kernel
theorem dX6_totalOf_110 : decode cX6_totalOf 110 = .ok (.iload 10, 2) := by decide +kernel
theorem dX6_totalOf_112 : decode cX6_totalOf 112 = .ok (.iaload, 1) := by decide +kernel
theorem dX6_totalOf_113 : decode cX6_totalOf 113 = .ok (.laload, 1) := by decide +kernel
theorem dX6_totalOf_114 : decode cX6_totalOf 114 = .ok (.lconst 0, 1) := by decide +kernel
theorem dX6_totalOf_115 : decode cX6_totalOf 115 = .ok (.lcmp, 1) := by decide +kernel
theorem dX6_totalOf_116 : decode cX6_totalOf 116 = .ok (.ifCond .le 16, 3) := by decide +kernel
theorem dX6_totalOf_119 : decode cX6_totalOf 119 = .ok (.lload 12, 2) := by decide +kernel
theorem dX6_totalOf_121 : decode cX6_totalOf 121 = .ok (.ldc2_w 148, 3) := by decide +kernel
theorem dX6_totalOf_124 : decode cX6_totalOf 124 = .ok (.lcmp, 1) := by decide +kernel
theorem dX6_totalOf_125 : decode cX6_totalOf 125 = .ok (.ifCond .ne 7, 3) := by decide +kernel
theorem dX6_totalOf_128 : decode cX6_totalOf 128 = .ok (.ldc2_w 148, 3) := by decide +kernel
theorem dX6_totalOf_131 : decode cX6_totalOf 131 = .ok (.lreturn, 1) := by decide +kernel
theorem dX6_totalOf_132 : decode cX6_totalOf 132 = .ok (.lload 8, 2) := by decide +kernel
theorem dX6_totalOf_134 : decode cX6_totalOf 134 = .ok (.aload_n 0, 1) := by decide +kernel
theorem dX6_totalOf_135 : decode cX6_totalOf 135 = .ok (.getfield 65, 3) := by decide +kernel
theorem dX6_totalOf_138 : decode cX6_totalOf 138 = .ok (.aload_n 0, 1) := by decide +kernel
theorem dX6_totalOf_139 : decode cX6_totalOf 139 = .ok (.getfield 26, 3) := by decide +kernel
theorem dX6_totalOf_142 : decode cX6_totalOf 142 = .ok (.iload 10, 2) := by decide +kernel
theorem dX6_totalOf_144 : decode cX6_totalOf 144 = .ok (.iaload, 1) := by decide +kernel
theorem dX6_totalOf_145 : decode cX6_totalOf 145 = .ok (.laload, 1) := by decide +kernel
theorem dX6_totalOf_146 : decode cX6_totalOf 146 = .ok (.lconst 0, 1) := by decide +kernel
theorem dX6_totalOf_147 : decode cX6_totalOf 147 = .ok (.lcmp, 1) := by decide +kernel
theorem dX6_totalOf_148 : decode cX6_totalOf 148 = .ok (.ifCond .le 21, 3) := by decide +kernel
theorem dX6_totalOf_151 : decode cX6_totalOf 151 = .ok (.lload 12, 2) := by decide +kernel
theorem dX6_totalOf_153 : decode cX6_totalOf 153 = .ok (.aload_n 0, 1) := by decide +kernel
theorem dX6_totalOf_154 : decode cX6_totalOf 154 = .ok (.getfield 65, 3) := by decide +kernel
theorem dX6_totalOf_157 : decode cX6_totalOf 157 = .ok (.aload_n 0, 1) := by decide +kernel
theorem dX6_totalOf_158 : decode cX6_totalOf 158 = .ok (.getfield 26, 3) := by decide +kernel
theorem dX6_totalOf_161 : decode cX6_totalOf 161 = .ok (.iload 10, 2) := by decide +kernel
theorem dX6_totalOf_163 : decode cX6_totalOf 163 = .ok (.iaload, 1) := by decide +kernel
theorem dX6_totalOf_164 : decode cX6_totalOf 164 = .ok (.laload, 1) := by decide +kernel
theorem dX6_totalOf_165 : decode cX6_totalOf 165 = .ok (.lmul, 1) := by decide +kernel
theorem dX6_totalOf_166 : decode cX6_totalOf 166 = .ok (.goto 4, 3) := by decide +kernel
theorem dX6_totalOf_169 : decode cX6_totalOf 169 = .ok (.lconst 0, 1) := by decide +kernel
theorem dX6_totalOf_170 : decode cX6_totalOf 170 = .ok (.ladd, 1) := by decide +kernel
theorem dX6_totalOf_171 : decode cX6_totalOf 171 = .ok (.lstore 8, 2) := by decide +kernel
theorem dX6_totalOf_173 : decode cX6_totalOf 173 = .ok (.iinc 10 1, 3) := by decide +kernel
theorem dX6_totalOf_176 : decode cX6_totalOf 176 = .ok (.goto (-170), 3) := by decide +kernel
theorem dX6_totalOf_179 : decode cX6_totalOf 179 = .ok (.lload 8, 2) := by decide +kernel
theorem dX6_totalOf_181 : decode cX6_totalOf 181 = .ok (.lreturn, 1) := by decide +kernel
set_option maxRecDepth 20000 in
theorem ggX6_total_X6_noYear : GoodIn wsX6_total wsX6_noYear := goodIn_r _ [7, 8, 9, 10, 6, 11] (by decide +kernel) (by decide +kernel)
set_option maxRecDepth 20000 in
theorem gX6_total_X6_noYear : GoodIn wsX6_total (va_wsS RX6 134 yX6_noYear wsX6_noYear) := goodIn_app (goodIn_of _ (by decide +kernel)) ggX6_total_X6_noYear
set_option maxRecDepth 20000 in
theorem ggX6_total_X6_noAs : GoodIn wsX6_total wsX6_noAs := goodIn_r _ [15, 16, 9, 10, 6, 11, 69, 70, 71, 72, 73, 74, 75, 76, 77, 78, 79, 80, 81, 82, 83, 84, 85, 86, 87, 88, 89, 90, 91, 92, 93, 94] (by decide +kernel) (by decide +kernel)
set_option maxRecDepth 20000 in
theorem gX6_total_X6_noAs : GoodIn wsX6_total (wsV RX6 141 RX6 yX6_noAs wsX6_noAs) := goodIn_app (goodIn_of _ (by decide +kernel)) ggX6_total_X6_noAs
set_option maxRecDepth 20000 in
theorem ggX6_total_X6_totalOf : GoodIn wsX6_total wsX6_totalOf := goodIn_r _ [20, 21, 22, 23, 24, 25, 26, 27, 28, 6, 29, 30, 31, 32, 33, 34, 35, 36, 37, 38, 39, 40, 41, 42, 43, 44, 45, 46, 47, 48, 49, 50, 51, 52, 53, 54, 55, 56, 57, 58, 59, 60, 61, 62, 63, 64, 65, 66, 16, 67, 68, 69, 70, 71, 72, 73, 74, 75, 76, 77, 78, 79, 80, 81, 82, 83, 84, 85, 86, 87, 88, 89, 90, 91, 92, 93, 94] (by decide +kernel) (by decide +kernel)
set_option maxRecDepth 20000 in
theorem gX6_total_X6_totalOf : GoodIn wsX6_total (wsV RX6 158 RX6 yX6_totalOf wsX6_totalOf) := goodIn_app (goodIn_of _ (by decide +kernel)) ggX6_total_X6_totalOf
theorem dX6_total_0 : decode cX6_total 0 = .ok (.aload_n 0, 1) := by decide +kernel
theorem dX6_total_1 : decode cX6_total 1 = .ok (.iconst 0, 1) := by decide +kernel
theorem dX6_total_2 : decode cX6_total 2 = .ok (.putfield 76, 3) := by decide +kernel
theorem dX6_total_5 : decode cX6_total 5 = .ok (.iload_n 1, 1) := by decide +kernel
theorem dX6_total_6 : decode cX6_total 6 = .ok (.invokestatic 134, 3) := by decide +kernel
theorem dX6_total_9 : decode cX6_total 9 = .ok (.ifCond .eq 9, 3) := by decide +kernel
theorem dX6_total_12 : decode cX6_total 12 = .ok (.ldc2_w 119, 3) := by decide +kernel
theorem dX6_total_15 : decode cX6_total 15 = .ok (.goto 32, 3) := by decide +kernel
theorem dX6_total_18 : decode cX6_total 18 = .ok (.aload_n 0, 1) := by decide +kernel
theorem dX6_total_19 : decode cX6_total 19 = .ok (.iload_n 2, 1) := by decide +kernel
theorem dX6_total_20 : decode cX6_total 20 = .ok (.invokevirtual 141, 3) := by decide +kernel
theorem dX6_total_23 : decode cX6_total 23 = .ok (.ifCond .eq 9, 3) := by decide +kernel
theorem dX6_total_26 : decode cX6_total 26 = .ok (.ldc2_w 117, 3) := by decide +kernel
theorem dX6_total_29 : decode cX6_total 29 = .ok (.goto 18, 3) := by decide +kernel
theorem dX6_total_32 : decode cX6_total 32 = .ok (.aload_n 0, 1) := by decide +kernel
theorem dX6_total_33 : decode cX6_total 33 = .ok (.bipush (-9), 2) := by decide +kernel
theorem dX6_total_35 : decode cX6_total 35 = .ok (.iload_n 1, 1) := by decide +kernel
theorem dX6_total_36 : decode cX6_total 36 = .ok (.bipush (-9), 2) := by decide +kernel
theorem dX6_total_38 : decode cX6_total 38 = .ok (.iload_n 2, 1) := by decide +kernel
theorem dX6_total_39 : decode cX6_total 39 = .ok (.iload_n 3, 1) := by decide +kernel
theorem dX6_total_40 : decode cX6_total 40 = .ok (.iload 4, 2) := by decide +kernel
theorem dX6_total_42 : decode cX6_total 42 = .ok (.iload 5, 2) := by decide +kernel
theorem dX6_total_44 : decode cX6_total 44 = .ok (.invokevirtual 158, 3) := by decide +kernel
theorem dX6_total_47 : decode cX6_total 47 = .ok (.lreturn, 1) := by decide +kernel
set_option maxRecDepth 20000 in
theorem ggX6_anew_X6_noYear : GoodIn wsX6_anew wsX6_noYear := goodIn_r _ [7, 8, 9, 10, 6, 11] (by decide +kernel) (by decide +kernel)
set_option maxRecDepth 20000 in
theorem gX6_anew_X6_noYear : GoodIn wsX6_anew (va_wsS RX6 134 yX6_noYear wsX6_noYear) := goodIn_app (goodIn_of _ (by decide +kernel)) ggX6_anew_X6_noYear
set_option maxRecDepth 20000 in
theorem ggX6_anew_X6_noDay : GoodIn wsX6_anew wsX6_noDay := goodIn_r _ [14, 15, 9, 10, 6, 11] (by decide +kernel) (by decide +kernel)
set_option maxRecDepth 20000 in
theorem gX6_anew_X6_noDay : GoodIn wsX6_anew (va_wsS RX6 110 yX6_noDay wsX6_noDay) := goodIn_app (goodIn_of _ (by decide +kernel)) ggX6_anew_X6_noDay
set_option maxRecDepth 20000 in
theorem ggX6_anew_X6_noAs : GoodIn wsX6_anew wsX6_noAs := goodIn_r _ [19, 20, 9, 10, 6, 11, 73, 74, 75, 76, 77, 78, 79, 80, 81, 82, 83, 84, 85, 86, 87, 88, 89, 90, 91, 92, 93, 94, 95, 96, 97, 98] (by decide +kernel) (by decide +kernel)
set_option maxRecDepth 20000 in
theorem gX6_anew_X6_noAs : GoodIn wsX6_anew (wsV RX6 141 RX6 yX6_noAs wsX6_noAs) := goodIn_app (goodIn_of _ (by decide +kernel)) ggX6_anew_X6_noAs
set_option maxRecDepth 20000 in
theorem ggX6_anew_X6_totalOf : GoodIn wsX6_anew wsX6_totalOf := goodIn_r _ [24, 25, 26, 27, 28, 29, 30, 31, 32, 6, 33, 34, 35, 36, 37, 38, 39, 40, 41, 42, 43, 44, 45, 46, 47, 48, 49, 50, 51, 52, 53, 54, 55, 56, 57, 58, 59, 60, 61, 62, 63, 64, 65, 66, 67, 68, 69, 70, 20, 71, 72, 73, 74, 75, 76, 77, 78, 79, 80, 81, 82, 83, 84, 85, 86, 87, 88, 89, 90, 91, 92, 93, 94, 95, 96, 97, 98] (by decide +kernel) (by decide +kernel)
set_option maxRecDepth 20000 in
theorem gX6_anew_X6_totalOf : GoodIn wsX6_anew (wsV RX6 158 RX6 yX6_totalOf wsX6_totalOf) := goodIn_app (goodIn_of _ (by decide +kernel)) ggX6_anew_X6_totalOf
theorem dX6_anew_0 : decode cX6_anew 0 = .ok (.aload_n 0, 1) := by decide +kernel
theorem dX6_anew_1 : decode cX6_anew 1 = .ok (.iconst 0, 1) := by decide +kernel
theorem dX6_anew_2 : decode cX6_anew 2 = .ok (.putfield 76, 3) := by decide +kernel
theorem dX6_anew_5 : decode cX6_anew 5 = .ok (.iload_n 1, 1) := by decide +kernel
theorem dX6_anew_6 : decode cX6_anew 6 = .ok (.invokestatic 134, 3) := by decide +kernel
theorem dX6_anew_9 : decode cX6_anew 9 = .ok (.ifCond .ne 10, 3) := by decide +kernel
theorem dX6_anew_12 : decode cX6_anew 12 = .ok (.iload_n 2, 1) := by decide +kernel
theorem dX6_anew_13 : decode cX6_anew 13 = .ok (.invokestatic 110, 3) := by decide +kernel
theorem dX6_anew_16 : decode cX6_anew 16 = .ok (.ifCond .eq 9, 3) := by decide +kernel
theorem dX6_anew_19 : decode cX6_anew 19 = .ok (.ldc2_w 119, 3) := by decide +kernel
theorem dX6_anew_22 : decode cX6_anew 22 = .ok (.goto 32, 3) := by decide +kernel
theorem dX6_anew_25 : decode cX6_anew 25 = .ok (.aload_n 0, 1) := by decide +kernel
theorem dX6_anew_26 : decode cX6_anew 26 = .ok (.iload_n 3, 1) := by decide +kernel
theorem dX6_anew_27 : decode cX6_anew 27 = .ok (.invokevirtual 141, 3) := by decide +kernel
theorem dX6_anew_30 : decode cX6_anew 30 = .ok (.ifCond .eq 9, 3) := by decide +kernel
theorem dX6_anew_33 : decode cX6_anew 33 = .ok (.ldc2_w 117, 3) := by decide +kernel
theorem dX6_anew_36 : decode cX6_anew 36 = .ok (.goto 18, 3) := by decide +kernel
theorem dX6_anew_39 : decode cX6_anew 39 = .ok (.aload_n 0, 1) := by decide +kernel
theorem dX6_anew_40 : decode cX6_anew 40 = .ok (.bipush (-9), 2) := by decide +kernel
theorem dX6_anew_42 : decode cX6_anew 42 = .ok (.iload_n 1, 1) := by decide +kernel
theorem dX6_anew_43 : decode cX6_anew 43 = .ok (.iload_n 2, 1) := by decide +kernel
theorem dX6_anew_44 : decode cX6_anew 44 = .ok (.iload_n 3, 1) := by decide +kernel
theorem dX6_anew_45 : decode cX6_anew 45 = .ok (.iload 4, 2) := by decide +kernel
theorem dX6_anew_47 : decode cX6_anew 47 = .ok (.iload 5, 2) := by decide +kernel
theorem dX6_anew_49 : decode cX6_anew 49 = .ok (.iload 6, 2) := by decide +kernel
theorem dX6_anew_51 : decode cX6_anew 51 = .ok (.invokevirtual 158, 3) := by decide +kernel
theorem dX6_anew_54 : decode cX6_anew 54 = .ok (.lreturn, 1) := by decide +kernel
set_option maxRecDepth 20000 in
theorem ggX6_part_X6_noUnit : GoodIn wsX6_part wsX6_noUnit := goodIn_r _ [8, 9, 10, 11, 7, 12, 74, 75, 76, 77, 78, 79, 80, 81, 82, 83, 84, 85, 86, 87, 88, 89, 90, 91, 92, 93, 94, 95, 96, 97, 98, 99] (by decide +kernel) (by decide +kernel)
set_option maxRecDepth 20000 in
theorem gX6_part_X6_noUnit : GoodIn wsX6_part (wsV RX6 106 RX6 yX6_noUnit wsX6_noUnit) := goodIn_app (goodIn_of _ (by decide +kernel)) ggX6_part_X6_noUnit
set_option maxRecDepth 20000 in
theorem ggX6_part_X6_noYear : GoodIn wsX6_part wsX6_noYear := goodIn_r _ [15, 16, 10, 11, 7, 12] (by decide +kernel) (by decide +kernel)
set_option maxRecDepth 20000 in
theorem gX6_part_X6_noYear : GoodIn wsX6_part (va_wsS RX6 134 yX6_noYear wsX6_noYear) := goodIn_app (goodIn_of _ (by decide +kernel)) ggX6_part_X6_noYear
set_option maxRecDepth 20000 in
theorem ggX6_part_X6_noAs : GoodIn wsX6_part wsX6_noAs := goodIn_r _ [20, 21, 10, 11, 7, 12, 74, 75, 76, 77, 78, 79, 80, 81, 82, 83, 84, 85, 86, 87, 88, 89, 90, 91, 92, 93, 94, 95, 96, 97, 98, 99] (by decide +kernel) (by decide +kernel)
set_option maxRecDepth 20000 in
theorem gX6_part_X6_noAs : GoodIn wsX6_part (wsV RX6 141 RX6 yX6_noAs wsX6_noAs) := goodIn_app (goodIn_of _ (by decide +kernel)) ggX6_part_X6_noAs
set_option maxRecDepth 20000 in
theorem ggX6_part_X6_totalOf : GoodIn wsX6_part wsX6_totalOf := goodIn_r _ [25, 26, 27, 28, 29, 30, 31, 32, 33, 7, 34, 35, 36, 37, 38, 39, 40, 41, 42, 43, 44, 45, 46, 47, 48, 49, 50, 51, 52, 53, 54, 55, 56, 57, 58, 59, 60, 61, 62, 63, 64, 65, 66, 67, 68, 69, 70, 71, 21, 72, 73, 74, 75, 76, 77, 78, 79, 80, 81, 82, 83, 84, 85, 86, 87, 88, 89, 90, 91, 92, 93, 94, 95, 96, 97, 98, 99] (by decide +kernel) (by decide +kernel)
set_option maxRecDepth 20000 in
theorem gX6_part_X6_totalOf : GoodIn wsX6_part (wsV RX6 158 RX6 yX6_totalOf wsX6_totalOf) := goodIn_app (goodIn_of _ (by decide +kernel)) ggX6_part_X6_totalOf
theorem dX6_part_0 : decode cX6_part 0 = .ok (.aload_n 0, 1) := by decide +kernel
theorem dX6_part_1 : decode cX6_part 1 = .ok (.iconst 0, 1) := by decide +kernel
theorem dX6_part_2 : decode cX6_part 2 = .ok (.putfield 76, 3) := by decide +kernel
theorem dX6_part_5 : decode cX6_part 5 = .ok (.aload_n 0, 1) := by decide +kernel
theorem dX6_part_6 : decode cX6_part 6 = .ok (.iload_n 1, 1) := by decide +kernel
theorem dX6_part_7 : decode cX6_part 7 = .ok (.invokevirtual 106, 3) := by decide +kernel
theorem dX6_part_10 : decode cX6_part 10 = .ok (.ifCond .eq 9, 3) := by decide +kernel
theorem dX6_part_13 : decode cX6_part 13 = .ok (.ldc2_w 117, 3) := by decide +kernel
theorem dX6_part_16 : decode cX6_part 16 = .ok (.goto 45, 3) := by decide +kernel
theorem dX6_part_19 : decode cX6_part 19 = .ok (.iload_n 2, 1) := by decide +kernel
theorem dX6_part_20 : decode cX6_part 20 = .ok (.invokestatic 134, 3) := by decide +kernel
theorem dX6_part_23 : decode cX6_part 23 = .ok (.ifCond .eq 9, 3) := by decide +kernel
theorem dX6_part_26 : decode cX6_part 26 = .ok (.ldc2_w 119, 3) := by decide +kernel
theorem dX6_part_29 : decode cX6_part 29 = .ok (.goto 32, 3) := by decide +kernel
theorem dX6_part_32 : decode cX6_part 32 = .ok (.aload_n 0, 1) := by decide +kernel
theorem dX6_part_33 : decode cX6_part 33 = .ok (.iload_n 3, 1) := by decide +kernel
theorem dX6_part_34 : decode cX6_part 34 = .ok (.invokevirtual 141, 3) := by decide +kernel
theorem dX6_part_37 : decode cX6_part 37 = .ok (.ifCond .eq 9, 3) := by decide +kernel
theorem dX6_part_40 : decode cX6_part 40 = .ok (.ldc2_w 117, 3) := by decide +kernel
theorem dX6_part_43 : decode cX6_part 43 = .ok (.goto 18, 3) := by decide +kernel
theorem dX6_part_46 : decode cX6_part 46 = .ok (.aload_n 0, 1) := by decide +kernel
theorem dX6_part_47 : decode cX6_part 47 = .ok (.iload_n 1, 1) := by decide +kernel
theorem dX6_part_48 : decode cX6_part 48 = .ok (.iload_n 2, 1) := by decide +kernel
theorem dX6_part_49 : decode cX6_part 49 = .ok (.bipush (-9), 2) := by decide +kernel
theorem dX6_part_51 : decode cX6_part 51 = .ok (.iload_n 3, 1) := by decide +kernel
theorem dX6_part_52 : decode cX6_part 52 = .ok (.iload 4, 2) := by decide +kernel
theorem dX6_part_54 : decode cX6_part 54 = .ok (.iload 5, 2) := by decide +kernel
theorem dX6_part_56 : decode cX6_part 56 = .ok (.iload 6, 2) := by decide +kernel
theorem dX6_part_58 : decode cX6_part 58 = .ok (.invokevirtual 158, 3) := by decide +kernel
theorem dX6_part_61 : decode cX6_part 61 = .ok (.lreturn, 1) := by decide +kernel
set_option maxRecDepth 20000 in
theorem ggX6_doubles_X6_noYear : GoodIn wsX6_doubles wsX6_noYear := goodIn_r _ [7, 8, 9, 10, 6, 11] (by decide +kernel) (by decide +kernel)
set_option maxRecDepth 20000 in
theorem gX6_doubles_X6_noYear : GoodIn wsX6_doubles (va_wsS RX6 134 yX6_noYear wsX6_noYear) := goodIn_app (goodIn_of _ (by decide +kernel)) ggX6_doubles_X6_noYear
set_option maxRecDepth 20000 in
theorem ggX6_doubles_X6_isDouble : GoodIn wsX6_doubles wsX6_isDouble := goodIn_r _ [15, 16, 17, 18, 19, 20, 21, 6, 22, 23, 24, 25, 26, 27, 28, 29, 30, 31, 32, 33, 34, 35, 36, 37, 38, 39, 40, 41, 42, 43, 44, 45, 46, 47, 48, 49, 50, 51, 52, 53, 54, 55, 56, 57, 58, 59, 60, 61, 62, 63] (by decide +kernel) (by decide +kernel)
set_option maxRecDepth 20000 in
theorem gX6_doubles_X6_isDouble : GoodIn wsX6_doubles (wsV RX6 131 RX6 yX6_isDouble wsX6_isDouble) := goodIn_app (goodIn_of _ (by decide +kernel)) ggX6_doubles_X6_isDouble
theorem dX6_doubles_0 : decode cX6_doubles 0 = .ok (.aload_n 0, 1) := by decide +kernel
theorem dX6_doubles_1 : decode cX6_doubles 1 = .ok (.iconst 0, 1) := by decide +kernel
theorem dX6_doubles_2 : decode cX6_doubles 2 = .ok (.putfield 76, 3) := by decide +kernel
theorem dX6_doubles_5 : decode cX6_doubles 5 = .ok (.iload_n 1, 1) := by decide +kernel
theorem dX6_doubles_6 : decode cX6_doubles 6 = .ok (.invokestatic 134, 3) := by decide +kernel
theorem dX6_doubles_9 : decode cX6_doubles 9 = .ok (.ifCond .eq 6, 3) := by decide +kernel
theorem dX6_doubles_12 : decode cX6_doubles 12 = .ok (.bipush (-2), 2) := by decide +kernel
theorem dX6_doubles_14 : decode cX6_doubles 14 = .ok (.ireturn, 1) := by decide +kernel
theorem dX6_doubles_15 : decode cX6_doubles 15 = .ok (.iconst 0, 1) := by decide +kernel
theorem dX6_doubles_16 : decode cX6_doubles 16 = .ok (.istore_n 2, 1) := by decide +kernel
theorem dX6_doubles_17 : decode cX6_doubles 17 = .ok (.iconst 0, 1) := by decide +kernel
theorem dX6_doubles_18 : decode cX6_doubles 18 = .ok (.istore_n 3, 1) := by decide +kernel
theorem dX6_doubles_19 : decode cX6_doubles 19 = .ok (.iload_n 3, 1) := by decide +kernel
theorem dX6_doubles_20 : decode cX6_doubles 20 = .ok (.aload_n 0, 1) := by decide +kernel
theorem dX6_doubles_21 : decode cX6_doubles 21 = .ok (.getfield 90, 3) := by decide +kernel
theorem dX6_doubles_24 : decode cX6_doubles 24 = .ok (.if_icmp .ge 45, 3) := by decide +kernel
theorem dX6_doubles_27 : decode cX6_doubles 27 = .ok (.iload_n 2, 1) := by decide +kernel
theorem dX6_doubles_28 : decode cX6_doubles 28 = .ok (.aload_n 0, 1) := by decide +kernel
theorem dX6_doubles_29 : decode cX6_doubles 29 = .ok (.getfield 35, 3) := by decide +kernel
theorem dX6_doubles_32 : decode cX6_doubles 32 = .ok (.iload_n 3, 1) := by decide +kernel
theorem dX6_doubles_33 : decode cX6_doubles 33 = .ok (.iaload, 1) := by decide +kernel
theorem dX6_doubles_34 : decode cX6_doubles 34 = .ok (.sipush 365, 3) := by decide +kernel
theorem dX6_doubles_37 : decode cX6_doubles 37 = .ok (.idiv, 1) := by decide +kernel
theorem dX6_doubles_38 : decode cX6_doubles 38 = .ok (.iload_n 1, 1) := by decide +kernel
theorem dX6_doubles_39 : decode cX6_doubles 39 = .ok (.if_icmp .ne 21, 3) := by decide +kernel
theorem dX6_doubles_42 : decode cX6_doubles 42 = .ok (.aload_n 0, 1) := by decide +kernel
theorem dX6_doubles_43 : decode cX6_doubles 43 = .ok (.iload_n 3, 1) := by decide +kernel
theorem dX6_doubles_44 : decode cX6_doubles 44 = .ok (.aload_n 0, 1) := by decide +kernel
theorem dX6_doubles_45 : decode cX6_doubles 45 = .ok (.getfield 35, 3) := by decide +kernel
theorem dX6_doubles_48 : decode cX6_doubles 48 = .ok (.iload_n 3, 1) := by decide +kernel
theorem dX6_doubles_49 : decode cX6_doubles 49 = .ok (.iaload, 1) := by decide +kernel
theorem dX6_doubles_50 : decode cX6_doubles 50 = .ok (.invokevirtual 131, 3) := by decide +kernel
theorem dX6_doubles_53 : decode cX6_doubles 53 = .ok (.ifCond .eq 7, 3) := by decide +kernel
theorem dX6_doubles_56 : decode cX6_doubles 56 = .ok (.iconst 1, 1) := by decide +kernel
theorem dX6_doubles_57 : decode cX6_doubles 57 = .ok (.goto 4, 3) := by decide +kernel
theorem dX6_doubles_60 : decode cX6_doubles 60 = .ok (.iconst 0, 1) := by decide +kernel
theorem dX6_doubles_61 : decode cX6_doubles 61 = .ok (.iadd, 1) := by decide +kernel
theorem dX6_doubles_62 : decode cX6_doubles 62 = .ok (.istore_n 2, 1) := by decide +kernel
theorem dX6_doubles_63 : decode cX6_doubles 63 = .ok (.iinc 3 1, 3) := by decide +kernel
theorem dX6_doubles_66 : decode cX6_doubles 66 = .ok (.goto (-47), 3) := by decide +kernel
theorem dX6_doubles_69 : decode cX6_doubles 69 = .ok (.iload_n 2, 1) := by decide +kernel
theorem dX6_doubles_70 : decode cX6_doubles 70 = .ok (.ireturn, 1) := by decide +kernel
set_option maxRecDepth 20000 in
theorem ggX6_onPath_X6_noYear : GoodIn wsX6_onPath wsX6_noYear := goodIn_r _ [7, 8, 9, 10, 6, 11] (by decide +kernel) (by decide +kernel)
set_option maxRecDepth 20000 in
theorem gX6_onPath_X6_noYear : GoodIn wsX6_onPath (va_wsS RX6 134 yX6_noYear wsX6_noYear) := goodIn_app (goodIn_of _ (by decide +kernel)) ggX6_onPath_X6_noYear
set_option maxRecDepth 20000 in
theorem ggX6_onPath_X6_in : GoodIn wsX6_onPath wsX6_in := goodIn_r _ [11] (by decide +kernel) (by decide +kernel)
set_option maxRecDepth 20000 in
theorem gX6_onPath_X6_in : GoodIn wsX6_onPath (va_wsS RX6 79 yX6_in wsX6_in) := goodIn_app (goodIn_of _ (by decide +kernel)) ggX6_onPath_X6_in
set_option maxRecDepth 20000 in
theorem ggX6_onPath_X6_totalOf : GoodIn wsX6_onPath wsX6_totalOf := goodIn_r _ [15, 16, 17, 18, 19, 3, 20, 21, 22, 6, 23, 24, 25, 26, 27, 28, 29, 30, 31, 2, 32, 33, 34, 35, 36, 37, 38, 39, 40, 41, 42, 43, 44, 45, 46, 47, 48, 49, 50, 51, 52, 53, 54, 55, 56, 57, 58, 59, 60, 61, 62, 63, 64, 65, 66, 67, 68, 69, 70, 71, 72, 73, 74, 75, 76, 77, 78, 79, 80, 81, 82, 83, 84, 85, 86, 87, 88] (by decide +kernel) (by decide +kernel)
set_option maxRecDepth 20000 in
theorem gX6_onPath_X6_totalOf : GoodIn wsX6_onPath (wsV RX6 158 RX6 yX6_totalOf wsX6_totalOf) := goodIn_app (goodIn_of _ (by decide +kernel)) ggX6_onPath_X6_totalOf
theorem dX6_onPath_0 : decode cX6_onPath 0 = .ok (.aload_n 0, 1) := by decide +kernel
theorem dX6_onPath_1 : decode cX6_onPath 1 = .ok (.iconst 0, 1) := by decide +kernel
theorem dX6_onPath_2 : decode cX6_onPath 2 = .ok (.putfield 76, 3) := by decide +kernel
theorem dX6_onPath_5 : decode cX6_onPath 5 = .ok (.iload_n 1, 1) := by decide +kernel
theorem dX6_onPath_6 : decode cX6_onPath 6 = .ok (.invokestatic 134, 3) := by decide +kernel
theorem dX6_onPath_9 : decode cX6_onPath 9 = .ok (.ifCond .ne 47, 3) := by decide +kernel
theorem dX6_onPath_12 : decode cX6_onPath 12 = .ok (.iload_n 2, 1) := by decide +kernel
theorem dX6_onPath_13 : decode cX6_onPath 13 = .ok (.invokestatic 134, 3) := by decide +kernel
theorem dX6_onPath_16 : decode cX6_onPath 16 = .ok (.ifCond .ne 40, 3) := by decide +kernel
theorem dX6_onPath_19 : decode cX6_onPath 19 = .ok (.iload_n 3, 1) := by decide +kernel
theorem dX6_onPath_20 : decode cX6_onPath 20 = .ok (.invokestatic 134, 3) := by decide +kernel
theorem dX6_onPath_23 : decode cX6_onPath 23 = .ok (.ifCond .ne 33, 3) := by decide +kernel
theorem dX6_onPath_26 : decode cX6_onPath 26 = .ok (.iload 4, 2) := by decide +kernel
theorem dX6_onPath_28 : decode cX6_onPath 28 = .ok (.i2l, 1) := by decide +kernel
theorem dX6_onPath_29 : decode cX6_onPath 29 = .ok (.lconst 0, 1) := by decide +kernel
theorem dX6_onPath_30 : decode cX6_onPath 30 = .ok (.ldc2_w 104, 3) := by decide +kernel
theorem dX6_onPath_33 : decode cX6_onPath 33 = .ok (.invokestatic 79, 3) := by decide +kernel
theorem dX6_onPath_36 : decode cX6_onPath 36 = .ok (.ifCond .eq 20, 3) := by decide +kernel
theorem dX6_onPath_39 : decode cX6_onPath 39 = .ok (.iload_n 3, 1) := by decide +kernel
theorem dX6_onPath_40 : decode cX6_onPath 40 = .ok (.iload_n 2, 1) := by decide +kernel
theorem dX6_onPath_41 : decode cX6_onPath 41 = .ok (.if_icmp .le 15, 3) := by decide +kernel
theorem dX6_onPath_44 : decode cX6_onPath 44 = .ok (.iload_n 1, 1) := by decide +kernel
theorem dX6_onPath_45 : decode cX6_onPath 45 = .ok (.i2l, 1) := by decide +kernel
theorem dX6_onPath_46 : decode cX6_onPath 46 = .ok (.iload_n 2, 1) := by decide +kernel
theorem dX6_onPath_47 : decode cX6_onPath 47 = .ok (.i2l, 1) := by decide +kernel
theorem dX6_onPath_48 : decode cX6_onPath 48 = .ok (.iload_n 3, 1) := by decide +kernel
theorem dX6_onPath_49 : decode cX6_onPath 49 = .ok (.i2l, 1) := by decide +kernel
theorem dX6_onPath_50 : decode cX6_onPath 50 = .ok (.invokestatic 79, 3) := by decide +kernel
theorem dX6_onPath_53 : decode cX6_onPath 53 = .ok (.ifCond .ne 6, 3) := by decide +kernel
theorem dX6_onPath_56 : decode cX6_onPath 56 = .ok (.bipush (-2), 2) := by decide +kernel
theorem dX6_onPath_58 : decode cX6_onPath 58 = .ok (.ireturn, 1) := by decide +kernel
theorem dX6_onPath_59 : decode cX6_onPath 59 = .ok (.aload_n 0, 1) := by decide +kernel
theorem dX6_onPath_60 : decode cX6_onPath 60 = .ok (.bipush (-9), 2) := by decide +kernel
theorem dX6_onPath_62 : decode cX6_onPath 62 = .ok (.iload_n 1, 1) := by decide +kernel
theorem dX6_onPath_63 : decode cX6_onPath 63 = .ok (.bipush (-9), 2) := by decide +kernel
theorem dX6_onPath_65 : decode cX6_onPath 65 = .ok (.bipush (-9), 2) := by decide +kernel
theorem dX6_onPath_67 : decode cX6_onPath 67 = .ok (.iconst 1, 1) := by decide +kernel
theorem dX6_onPath_68 : decode cX6_onPath 68 = .ok (.iconst 1, 1) := by decide +kernel
theorem dX6_onPath_69 : decode cX6_onPath 69 = .ok (.iconst 0, 1) := by decide +kernel
theorem dX6_onPath_70 : decode cX6_onPath 70 = .ok (.invokevirtual 158, 3) := by decide +kernel
theorem dX6_onPath_73 : decode cX6_onPath 73 = .ok (.lstore 5, 2) := by decide +kernel
theorem dX6_onPath_75 : decode cX6_onPath 75 = .ok (.aload_n 0, 1) := by decide +kernel
theorem dX6_onPath_76 : decode cX6_onPath 76 = .ok (.bipush (-9), 2) := by decide +kernel
theorem dX6_onPath_78 : decode cX6_onPath 78 = .ok (.iload_n 2, 1) := by decide +kernel
theorem dX6_onPath_79 : decode cX6_onPath 79 = .ok (.bipush (-9), 2) := by decide +kernel
theorem dX6_onPath_81 : decode cX6_onPath 81 = .ok (.bipush (-9), 2) := by decide +kernel
theorem dX6_onPath_83 : decode cX6_onPath 83 = .ok (.iconst 1, 1) := by decide +kernel
theorem dX6_onPath_84 : decode cX6_onPath 84 = .ok (.iconst 1, 1) := by decide +kernel
theorem dX6_onPath_85 : decode cX6_onPath 85 = .ok (.iconst 1, 1) := by decide +kernel
theorem dX6_onPath_86 : decode cX6_onPath 86 = .ok (.invokevirtual 158, 3) := by decide +kernel
theorem dX6_onPath_89 : decode cX6_onPath 89 = .ok (.lstore 7, 2) := by decide +kernel
theorem dX6_onPath_91 : decode cX6_onPath 91 = .ok (.lload 5, 2) := by decide +kernel
theorem dX6_onPath_93 : decode cX6_onPath 93 = .ok (.ldc2_w 148, 3) := by decide +kernel
theorem dX6_onPath_96 : decode cX6_onPath 96 = .ok (.lcmp, 1) := by decide +kernel
theorem dX6_onPath_97 : decode cX6_onPath 97 = .ok (.ifCond .eq 12, 3) := by decide +kernel
theorem dX6_onPath_100 : decode cX6_onPath 100 = .ok (.lload 7, 2) := by decide +kernel
theorem dX6_onPath_102 : decode cX6_onPath 102 = .ok (.ldc2_w 148, 3) := by decide +kernel
theorem dX6_onPath_105 : decode cX6_onPath 105 = .ok (.lcmp, 1) := by decide +kernel
theorem dX6_onPath_106 : decode cX6_onPath 106 = .ok (.ifCond .ne 6, 3) := by decide +kernel
theorem dX6_onPath_109 : decode cX6_onPath 109 = .ok (.bipush (-9), 2) := by decide +kernel
theorem dX6_onPath_111 : decode cX6_onPath 111 = .ok (.ireturn, 1) := by decide +kernel
theorem dX6_onPath_112 : decode cX6_onPath 112 = .ok (.ldc2_w 104, 3) := by decide +kernel
theorem dX6_onPath_115 : decode cX6_onPath 115 = .ok (.iload_n 3, 1) := by decide +kernel
theorem dX6_onPath_116 : decode cX6_onPath 116 = .ok (.iload_n 2, 1) := by decide +kernel
theorem dX6_onPath_117 : decode cX6_onPath 117 = .ok (.isub, 1) := by decide +kernel
theorem dX6_onPath_118 : decode cX6_onPath 118 = .ok (.i2l, 1) := by decide +kernel
theorem dX6_onPath_119 : decode cX6_onPath 119 = .ok (.lmul, 1) := by decide +kernel
theorem dX6_onPath_120 : decode cX6_onPath 120 = .ok (.lstore 9, 2) := by decide +kernel
theorem dX6_onPath_122 : decode cX6_onPath 122 = .ok (.lload 9, 2) := by decide +kernel
theorem dX6_onPath_124 : decode cX6_onPath 124 = .ok (.iload 4, 2) := by decide +kernel
theorem dX6_onPath_126 : decode cX6_onPath 126 = .ok (.i2l, 1) := by decide +kernel
theorem dX6_onPath_127 : decode cX6_onPath 127 = .ok (.iload_n 1, 1) := by decide +kernel
theorem dX6_onPath_128 : decode cX6_onPath 128 = .ok (.iload_n 2, 1) := by decide +kernel
theorem dX6_onPath_129 : decode cX6_onPath 129 = .ok (.isub, 1) := by decide +kernel
theorem dX6_onPath_130 : decode cX6_onPath 130 = .ok (.i2l, 1) := by decide +kernel
theorem dX6_onPath_131 : decode cX6_onPath 131 = .ok (.lmul, 1) := by decide +kernel
theorem dX6_onPath_132 : decode cX6_onPath 132 = .ok (.lsub, 1) := by decide +kernel
theorem dX6_onPath_133 : decode cX6_onPath 133 = .ok (.lstore 11, 2) := by decide +kernel
theorem dX6_onPath_135 : decode cX6_onPath 135 = .ok (.lload 7, 2) := by decide +kernel
theorem dX6_onPath_137 : decode cX6_onPath 137 = .ok (.lload 9, 2) := by decide +kernel
theorem dX6_onPath_139 : decode cX6_onPath 139 = .ok (.ldiv, 1) := by decide +kernel
theorem dX6_onPath_140 : decode cX6_onPath 140 = .ok (.lload 11, 2) := by decide +kernel
theorem dX6_onPath_142 : decode cX6_onPath 142 = .ok (.lmul, 1) := by decide +kernel
theorem dX6_onPath_143 : decode cX6_onPath 143 = .ok (.lload 7, 2) := by decide +kernel
theorem dX6_onPath_145 : decode cX6_onPath 145 = .ok (.lload 9, 2) := by decide +kernel
theorem dX6_onPath_147 : decode cX6_onPath 147 = .ok (.lrem, 1) := by decide +kernel
theorem dX6_onPath_148 : decode cX6_onPath 148 = .ok (.lload 11, 2) := by decide +kernel
theorem dX6_onPath_150 : decode cX6_onPath 150 = .ok (.lmul, 1) := by decide +kernel
theorem dX6_onPath_151 : decode cX6_onPath 151 = .ok (.lload 9, 2) := by decide +kernel
theorem dX6_onPath_153 : decode cX6_onPath 153 = .ok (.ldiv, 1) := by decide +kernel
theorem dX6_onPath_154 : decode cX6_onPath 154 = .ok (.ladd, 1) := by decide +kernel
theorem dX6_onPath_155 : decode cX6_onPath 155 = .ok (.lstore 13, 2) := by decide +kernel
theorem dX6_onPath_157 : decode cX6_onPath 157 = .ok (.lload 5, 2) := by decide +kernel
theorem dX6_onPath_159 : decode cX6_onPath 159 = .ok (.lload 13, 2) := by decide +kernel
theorem dX6_onPath_161 : decode cX6_onPath 161 = .ok (.lcmp, 1) := by decide +kernel
theorem dX6_onPath_162 : decode cX6_onPath 162 = .ok (.ifCond .gt 7, 3) := by decide +kernel
theorem dX6_onPath_165 : decode cX6_onPath 165 = .ok (.iconst 1, 1) := by decide +kernel
theorem dX6_onPath_166 : decode cX6_onPath 166 = .ok (.goto 4, 3) := by decide +kernel
theorem dX6_onPath_169 : decode cX6_onPath 169 = .ok (.iconst 0, 1) := by decide +kernel
theorem dX6_onPath_170 : decode cX6_onPath 170 = .ok (.ireturn, 1) := by decide +kernel
set_option maxRecDepth 20000 in
theorem ggX6_issue_X6_noUnit : GoodIn wsX6_issue wsX6_noUnit := goodIn_r _ [10, 11, 12, 13, 9, 14, 15, 16, 17, 18, 19, 20, 21, 22, 23, 24, 25, 26, 27, 28, 29, 30, 31, 32, 33, 34, 35, 36, 37, 38, 39, 40] (by decide +kernel) (by decide +kernel)
set_option maxRecDepth 20000 in
theorem gX6_issue_X6_noUnit : GoodIn wsX6_issue (wsV RX6 106 RX6 yX6_noUnit wsX6_noUnit) := goodIn_app (goodIn_of _ (by decide +kernel)) ggX6_issue_X6_noUnit
set_option maxRecDepth 20000 in
theorem ggX6_issue_X6_in : GoodIn wsX6_issue wsX6_in := goodIn_r _ [14] (by decide +kernel) (by decide +kernel)
set_option maxRecDepth 20000 in
theorem gX6_issue_X6_in : GoodIn wsX6_issue (va_wsS RX6 79 yX6_in wsX6_in) := goodIn_app (goodIn_of _ (by decide +kernel)) ggX6_issue_X6_in
theorem dX6_issue_0 : decode cX6_issue 0 = .ok (.aload_n 0, 1) := by decide +kernel
theorem dX6_issue_1 : decode cX6_issue 1 = .ok (.iconst 0, 1) := by decide +kernel
theorem dX6_issue_2 : decode cX6_issue 2 = .ok (.putfield 76, 3) := by decide +kernel
theorem dX6_issue_5 : decode cX6_issue 5 = .ok (.aload_n 0, 1) := by decide +kernel
theorem dX6_issue_6 : decode cX6_issue 6 = .ok (.iload_n 1, 1) := by decide +kernel
theorem dX6_issue_7 : decode cX6_issue 7 = .ok (.invokevirtual 106, 3) := by decide +kernel
theorem dX6_issue_10 : decode cX6_issue 10 = .ok (.ifCond .eq 5, 3) := by decide +kernel
theorem dX6_issue_13 : decode cX6_issue 13 = .ok (.iconst (-1), 1) := by decide +kernel
