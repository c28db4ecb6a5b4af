theorem dX12_order_41 : decode cX12_order 41 = .ok (.iconst 1, 1) := by decide +kernel
theorem dX12_order_42 : decode cX12_order 42 = .ok (.isub, 1) := by decide +kernel
theorem dX12_order_43 : decode cX12_order 43 = .ok (.iaload, 1) := by decide +kernel
theorem dX12_order_44 : decode cX12_order 44 = .ok (.goto 4, 3) := by decide +kernel
theorem dX12_order_47 : decode cX12_order 47 = .ok (.iload_n 2, 1) := by decide +kernel
theorem dX12_order_48 : decode cX12_order 48 = .ok (.invokevirtual 508, 3) := by decide +kernel
theorem dX12_order_51 : decode cX12_order 51 = .ok (.iload_n 3, 1) := by decide +kernel
theorem dX12_order_52 : decode cX12_order 52 = .ok (.aload_n 0, 1) := by decide +kernel
theorem dX12_order_53 : decode cX12_order 53 = .ok (.getfield 496, 3) := by decide +kernel
theorem dX12_order_56 : decode cX12_order 56 = .ok (.if_icmp .ge 12, 3) := by decide +kernel
theorem dX12_order_59 : decode cX12_order 59 = .ok (.aload_n 0, 1) := by decide +kernel
theorem dX12_order_60 : decode cX12_order 60 = .ok (.getfield 134, 3) := by decide +kernel
theorem dX12_order_63 : decode cX12_order 63 = .ok (.iload_n 3, 1) := by decide +kernel
theorem dX12_order_64 : decode cX12_order 64 = .ok (.iaload, 1) := by decide +kernel
theorem dX12_order_65 : decode cX12_order 65 = .ok (.goto 4, 3) := by decide +kernel
theorem dX12_order_68 : decode cX12_order 68 = .ok (.iconst (-1), 1) := by decide +kernel
theorem dX12_order_69 : decode cX12_order 69 = .ok (.ireturn, 1) := by decide +kernel
theorem dX12_author_0 : decode cX12_author 0 = .ok (.aload_n 0, 1) := by decide +kernel
theorem dX12_author_1 : decode cX12_author 1 = .ok (.getfield 478, 3) := by decide +kernel
theorem dX12_author_4 : decode cX12_author 4 = .ok (.iconst 2, 1) := by decide +kernel
theorem dX12_author_5 : decode cX12_author 5 = .ok (.if_icmp .ne 20, 3) := by decide +kernel
theorem dX12_author_8 : decode cX12_author 8 = .ok (.aload_n 0, 1) := by decide +kernel
theorem dX12_author_9 : decode cX12_author 9 = .ok (.iload_n 1, 1) := by decide +kernel
theorem dX12_author_10 : decode cX12_author 10 = .ok (.invokevirtual 147, 3) := by decide +kernel
theorem dX12_author_13 : decode cX12_author 13 = .ok (.ifCond .eq 12, 3) := by decide +kernel
theorem dX12_author_16 : decode cX12_author 16 = .ok (.aload_n 0, 1) := by decide +kernel
theorem dX12_author_17 : decode cX12_author 17 = .ok (.getfield 17, 3) := by decide +kernel
theorem dX12_author_20 : decode cX12_author 20 = .ok (.iload_n 1, 1) := by decide +kernel
theorem dX12_author_21 : decode cX12_author 21 = .ok (.iaload, 1) := by decide +kernel
theorem dX12_author_22 : decode cX12_author 22 = .ok (.goto 4, 3) := by decide +kernel
theorem dX12_author_25 : decode cX12_author 25 = .ok (.iconst (-1), 1) := by decide +kernel
theorem dX12_author_26 : decode cX12_author 26 = .ok (.ireturn, 1) := by decide +kernel
theorem dX12_winnerNow_0 : decode cX12_winnerNow 0 = .ok (.aload_n 0, 1) := by decide +kernel
theorem dX12_winnerNow_1 : decode cX12_winnerNow 1 = .ok (.getfield 478, 3) := by decide +kernel
theorem dX12_winnerNow_4 : decode cX12_winnerNow 4 = .ok (.iconst 2, 1) := by decide +kernel
theorem dX12_winnerNow_5 : decode cX12_winnerNow 5 = .ok (.if_icmp .ge 5, 3) := by decide +kernel
theorem dX12_winnerNow_8 : decode cX12_winnerNow 8 = .ok (.iconst (-1), 1) := by decide +kernel
theorem dX12_winnerNow_9 : decode cX12_winnerNow 9 = .ok (.ireturn, 1) := by decide +kernel
theorem dX12_winnerNow_10 : decode cX12_winnerNow 10 = .ok (.aload_n 0, 1) := by decide +kernel
theorem dX12_winnerNow_11 : decode cX12_winnerNow 11 = .ok (.iconst 1, 1) := by decide +kernel
theorem dX12_winnerNow_12 : decode cX12_winnerNow 12 = .ok (.aload_n 0, 1) := by decide +kernel
theorem dX12_winnerNow_13 : decode cX12_winnerNow 13 = .ok (.getfield 125, 3) := by decide +kernel
theorem dX12_winnerNow_16 : decode cX12_winnerNow 16 = .ok (.iconst 1, 1) := by decide +kernel
theorem dX12_winnerNow_17 : decode cX12_winnerNow 17 = .ok (.iaload, 1) := by decide +kernel
theorem dX12_winnerNow_18 : decode cX12_winnerNow 18 = .ok (.invokevirtual 508, 3) := by decide +kernel
theorem dX12_winnerNow_21 : decode cX12_winnerNow 21 = .ok (.aload_n 0, 1) := by decide +kernel
theorem dX12_winnerNow_22 : decode cX12_winnerNow 22 = .ok (.getfield 511, 3) := by decide +kernel
theorem dX12_winnerNow_25 : decode cX12_winnerNow 25 = .ok (.aload_n 0, 1) := by decide +kernel
theorem dX12_winnerNow_26 : decode cX12_winnerNow 26 = .ok (.getfield 496, 3) := by decide +kernel
theorem dX12_winnerNow_29 : decode cX12_winnerNow 29 = .ok (.if_icmp .ge 15, 3) := by decide +kernel
theorem dX12_winnerNow_32 : decode cX12_winnerNow 32 = .ok (.aload_n 0, 1) := by decide +kernel
theorem dX12_winnerNow_33 : decode cX12_winnerNow 33 = .ok (.getfield 134, 3) := by decide +kernel
theorem dX12_winnerNow_36 : decode cX12_winnerNow 36 = .ok (.aload_n 0, 1) := by decide +kernel
theorem dX12_winnerNow_37 : decode cX12_winnerNow 37 = .ok (.getfield 511, 3) := by decide +kernel
theorem dX12_winnerNow_40 : decode cX12_winnerNow 40 = .ok (.iaload, 1) := by decide +kernel
theorem dX12_winnerNow_41 : decode cX12_winnerNow 41 = .ok (.goto 4, 3) := by decide +kernel
theorem dX12_winnerNow_44 : decode cX12_winnerNow 44 = .ok (.iconst (-1), 1) := by decide +kernel
theorem dX12_winnerNow_45 : decode cX12_winnerNow 45 = .ok (.ireturn, 1) := by decide +kernel
theorem dX12_winner_0 : decode cX12_winner 0 = .ok (.aload_n 0, 1) := by decide +kernel
theorem dX12_winner_1 : decode cX12_winner 1 = .ok (.invokevirtual 514, 3) := by decide +kernel
theorem dX12_winner_4 : decode cX12_winner 4 = .ok (.ireturn, 1) := by decide +kernel
theorem dX12_fail_0 : decode cX12_fail 0 = .ok (.aload_n 0, 1) := by decide +kernel
theorem dX12_fail_1 : decode cX12_fail 1 = .ok (.invokevirtual 514, 3) := by decide +kernel
theorem dX12_fail_4 : decode cX12_fail 4 = .ok (.iconst (-1), 1) := by decide +kernel
theorem dX12_fail_5 : decode cX12_fail 5 = .ok (.if_icmp .ne 6, 3) := by decide +kernel
theorem dX12_fail_8 : decode cX12_fail 8 = .ok (.bipush (-2), 2) := by decide +kernel
theorem dX12_fail_10 : decode cX12_fail 10 = .ok (.ireturn, 1) := by decide +kernel
theorem dX12_fail_11 : decode cX12_fail 11 = .ok (.aload_n 0, 1) := by decide +kernel
theorem dX12_fail_12 : decode cX12_fail 12 = .ok (.dup, 1) := by decide +kernel
theorem dX12_fail_13 : decode cX12_fail 13 = .ok (.getfield 511, 3) := by decide +kernel
theorem dX12_fail_16 : decode cX12_fail 16 = .ok (.iconst 1, 1) := by decide +kernel
theorem dX12_fail_17 : decode cX12_fail 17 = .ok (.iadd, 1) := by decide +kernel
theorem dX12_fail_18 : decode cX12_fail 18 = .ok (.putfield 511, 3) := by decide +kernel
theorem dX12_fail_21 : decode cX12_fail 21 = .ok (.aload_n 0, 1) := by decide +kernel
theorem dX12_fail_22 : decode cX12_fail 22 = .ok (.iconst 0, 1) := by decide +kernel
theorem dX12_fail_23 : decode cX12_fail 23 = .ok (.putfield 517, 3) := by decide +kernel
theorem dX12_fail_26 : decode cX12_fail 26 = .ok (.aload_n 0, 1) := by decide +kernel
theorem dX12_fail_27 : decode cX12_fail 27 = .ok (.invokevirtual 514, 3) := by decide +kernel
theorem dX12_fail_30 : decode cX12_fail 30 = .ok (.ireturn, 1) := by decide +kernel
theorem dX12_pay_0 : decode cX12_pay 0 = .ok (.aload_n 0, 1) := by decide +kernel
theorem dX12_pay_1 : decode cX12_pay 1 = .ok (.invokevirtual 514, 3) := by decide +kernel
theorem dX12_pay_4 : decode cX12_pay 4 = .ok (.istore_n 1, 1) := by decide +kernel
theorem dX12_pay_5 : decode cX12_pay 5 = .ok (.iload_n 1, 1) := by decide +kernel
theorem dX12_pay_6 : decode cX12_pay 6 = .ok (.iconst (-1), 1) := by decide +kernel
theorem dX12_pay_7 : decode cX12_pay 7 = .ok (.if_icmp .eq 11, 3) := by decide +kernel
theorem dX12_pay_10 : decode cX12_pay 10 = .ok (.aload_n 0, 1) := by decide +kernel
theorem dX12_pay_11 : decode cX12_pay 11 = .ok (.getfield 517, 3) := by decide +kernel
theorem dX12_pay_14 : decode cX12_pay 14 = .ok (.iconst 3, 1) := by decide +kernel
theorem dX12_pay_15 : decode cX12_pay 15 = .ok (.if_icmp .ne 5, 3) := by decide +kernel
theorem dX12_pay_18 : decode cX12_pay 18 = .ok (.iconst (-1), 1) := by decide +kernel
theorem dX12_pay_19 : decode cX12_pay 19 = .ok (.ireturn, 1) := by decide +kernel
theorem dX12_pay_20 : decode cX12_pay 20 = .ok (.aload_n 0, 1) := by decide +kernel
theorem dX12_pay_21 : decode cX12_pay 21 = .ok (.iload_n 1, 1) := by decide +kernel
theorem dX12_pay_22 : decode cX12_pay 22 = .ok (.aload_n 0, 1) := by decide +kernel
theorem dX12_pay_23 : decode cX12_pay 23 = .ok (.iload_n 1, 1) := by decide +kernel
theorem dX12_pay_24 : decode cX12_pay 24 = .ok (.invokevirtual 223, 3) := by decide +kernel
theorem dX12_pay_27 : decode cX12_pay 27 = .ok (.invokevirtual 212, 3) := by decide +kernel
theorem dX12_pay_30 : decode cX12_pay 30 = .ok (.i2l, 1) := by decide +kernel
theorem dX12_pay_31 : decode cX12_pay 31 = .ok (.aload_n 0, 1) := by decide +kernel
theorem dX12_pay_32 : decode cX12_pay 32 = .ok (.aload_n 0, 1) := by decide +kernel
theorem dX12_pay_33 : decode cX12_pay 33 = .ok (.aload_n 0, 1) := by decide +kernel
theorem dX12_pay_34 : decode cX12_pay 34 = .ok (.getfield 144, 3) := by decide +kernel
theorem dX12_pay_37 : decode cX12_pay 37 = .ok (.invokevirtual 209, 3) := by decide +kernel
theorem dX12_pay_40 : decode cX12_pay 40 = .ok (.bipush 8, 2) := by decide +kernel
theorem dX12_pay_42 : decode cX12_pay 42 = .ok (.aload_n 0, 1) := by decide +kernel
theorem dX12_pay_43 : decode cX12_pay 43 = .ok (.getfield 517, 3) := by decide +kernel
theorem dX12_pay_46 : decode cX12_pay 46 = .ok (.iadd, 1) := by decide +kernel
theorem dX12_pay_47 : decode cX12_pay 47 = .ok (.invokevirtual 200, 3) := by decide +kernel
theorem dX12_pay_50 : decode cX12_pay 50 = .ok (.i2l, 1) := by decide +kernel
theorem dX12_pay_51 : decode cX12_pay 51 = .ok (.lmul, 1) := by decide +kernel
theorem dX12_pay_52 : decode cX12_pay 52 = .ok (.ldc2_w 215, 3) := by decide +kernel
theorem dX12_pay_55 : decode cX12_pay 55 = .ok (.ldiv, 1) := by decide +kernel
theorem dX12_pay_56 : decode cX12_pay 56 = .ok (.l2i, 1) := by decide +kernel
theorem dX12_pay_57 : decode cX12_pay 57 = .ok (.istore_n 2, 1) := by decide +kernel
theorem dX12_pay_58 : decode cX12_pay 58 = .ok (.aload_n 0, 1) := by decide +kernel
theorem dX12_pay_59 : decode cX12_pay 59 = .ok (.dup, 1) := by decide +kernel
theorem dX12_pay_60 : decode cX12_pay 60 = .ok (.getfield 517, 3) := by decide +kernel
theorem dX12_pay_63 : decode cX12_pay 63 = .ok (.iconst 1, 1) := by decide +kernel
theorem dX12_pay_64 : decode cX12_pay 64 = .ok (.iadd, 1) := by decide +kernel
theorem dX12_pay_65 : decode cX12_pay 65 = .ok (.putfield 517, 3) := by decide +kernel
theorem dX12_pay_68 : decode cX12_pay 68 = .ok (.aload_n 0, 1) := by decide +kernel
theorem dX12_pay_69 : decode cX12_pay 69 = .ok (.dup, 1) := by decide +kernel
theorem dX12_pay_70 : decode cX12_pay 70 = .ok (.getfield 520, 3) := by decide +kernel
theorem dX12_pay_73 : decode cX12_pay 73 = .ok (.iload_n 2, 1) := by decide +kernel
theorem dX12_pay_74 : decode cX12_pay 74 = .ok (.iadd, 1) := by decide +kernel
theorem dX12_pay_75 : decode cX12_pay 75 = .ok (.putfield 520, 3) := by decide +kernel
theorem dX12_pay_78 : decode cX12_pay 78 = .ok (.iload_n 2, 1) := by decide +kernel
theorem dX12_pay_79 : decode cX12_pay 79 = .ok (.ireturn, 1) := by decide +kernel
theorem dX12_count_0 : decode cX12_count 0 = .ok (.iconst 0, 1) := by decide +kernel
theorem dX12_count_1 : decode cX12_count 1 = .ok (.istore_n 2, 1) := by decide +kernel
theorem dX12_count_2 : decode cX12_count 2 = .ok (.iload_n 1, 1) := by decide +kernel
theorem dX12_count_3 : decode cX12_count 3 = .ok (.tableswitch 193 0 14 #[73, 78, 83, 88, 93, 132, 137, 153, 158, 163, 168, 173, 178, 183, 188], 73) := by decide +kernel
theorem dX12_count_76 : decode cX12_count 76 = .ok (.aload_n 0, 1) := by decide +kernel
theorem dX12_count_77 : decode cX12_count 77 = .ok (.getfield 144, 3) := by decide +kernel
theorem dX12_count_80 : decode cX12_count 80 = .ok (.ireturn, 1) := by decide +kernel
theorem dX12_count_81 : decode cX12_count 81 = .ok (.aload_n 0, 1) := by decide +kernel
theorem dX12_count_82 : decode cX12_count 82 = .ok (.getfield 426, 3) := by decide +kernel
theorem dX12_count_85 : decode cX12_count 85 = .ok (.ireturn, 1) := by decide +kernel
theorem dX12_count_86 : decode cX12_count 86 = .ok (.aload_n 0, 1) := by decide +kernel
theorem dX12_count_87 : decode cX12_count 87 = .ok (.getfield 273, 3) := by decide +kernel
theorem dX12_count_90 : decode cX12_count 90 = .ok (.ireturn, 1) := by decide +kernel
theorem dX12_count_91 : decode cX12_count 91 = .ok (.aload_n 0, 1) := by decide +kernel
theorem dX12_count_92 : decode cX12_count 92 = .ok (.getfield 137, 3) := by decide +kernel
theorem dX12_count_95 : decode cX12_count 95 = .ok (.ireturn, 1) := by decide +kernel
theorem dX12_count_96 : decode cX12_count 96 = .ok (.iconst 0, 1) := by decide +kernel
theorem dX12_count_97 : decode cX12_count 97 = .ok (.istore_n 3, 1) := by decide +kernel
theorem dX12_count_98 : decode cX12_count 98 = .ok (.iload_n 3, 1) := by decide +kernel
theorem dX12_count_99 : decode cX12_count 99 = .ok (.aload_n 0, 1) := by decide +kernel
theorem dX12_count_100 : decode cX12_count 100 = .ok (.getfield 137, 3) := by decide +kernel
theorem dX12_count_103 : decode cX12_count 103 = .ok (.if_icmp .ge 30, 3) := by decide +kernel
theorem dX12_count_106 : decode cX12_count 106 = .ok (.iload_n 2, 1) := by decide +kernel
theorem dX12_count_107 : decode cX12_count 107 = .ok (.aload_n 0, 1) := by decide +kernel
theorem dX12_count_108 : decode cX12_count 108 = .ok (.getfield 20, 3) := by decide +kernel
theorem dX12_count_111 : decode cX12_count 111 = .ok (.iload_n 3, 1) := by decide +kernel
theorem dX12_count_112 : decode cX12_count 112 = .ok (.iaload, 1) := by decide +kernel
theorem dX12_count_113 : decode cX12_count 113 = .ok (.iconst (-1), 1) := by decide +kernel
theorem dX12_count_114 : decode cX12_count 114 = .ok (.if_icmp .eq 7, 3) := by decide +kernel
theorem dX12_count_117 : decode cX12_count 117 = .ok (.iconst 1, 1) := by decide +kernel
theorem dX12_count_118 : decode cX12_count 118 = .ok (.goto 4, 3) := by decide +kernel
theorem dX12_count_121 : decode cX12_count 121 = .ok (.iconst 0, 1) := by decide +kernel
theorem dX12_count_122 : decode cX12_count 122 = .ok (.invokestatic 162, 3) := by decide +kernel
theorem dX12_count_125 : decode cX12_count 125 = .ok (.iadd, 1) := by decide +kernel
theorem dX12_count_126 : decode cX12_count 126 = .ok (.istore_n 2, 1) := by decide +kernel
theorem dX12_count_127 : decode cX12_count 127 = .ok (.iinc 3 1, 3) := by decide +kernel
theorem dX12_count_130 : decode cX12_count 130 = .ok (.goto (-32), 3) := by decide +kernel
theorem dX12_count_133 : decode cX12_count 133 = .ok (.iload_n 2, 1) := by decide +kernel
theorem dX12_count_134 : decode cX12_count 134 = .ok (.ireturn, 1) := by decide +kernel
theorem dX12_count_135 : decode cX12_count 135 = .ok (.aload_n 0, 1) := by decide +kernel
theorem dX12_count_136 : decode cX12_count 136 = .ok (.getfield 457, 3) := by decide +kernel
theorem dX12_count_139 : decode cX12_count 139 = .ok (.ireturn, 1) := by decide +kernel
theorem dX12_count_140 : decode cX12_count 140 = .ok (.aload_n 0, 1) := by decide +kernel
theorem dX12_count_141 : decode cX12_count 141 = .ok (.getfield 463, 3) := by decide +kernel
theorem dX12_count_144 : decode cX12_count 144 = .ok (.ifCond .eq 10, 3) := by decide +kernel
theorem dX12_count_147 : decode cX12_count 147 = .ok (.aload_n 0, 1) := by decide +kernel
theorem dX12_count_148 : decode cX12_count 148 = .ok (.getfield 469, 3) := by decide +kernel
theorem dX12_count_151 : decode cX12_count 151 = .ok (.goto 4, 3) := by decide +kernel
theorem dX12_count_154 : decode cX12_count 154 = .ok (.iconst 0, 1) := by decide +kernel
theorem dX12_count_155 : decode cX12_count 155 = .ok (.ireturn, 1) := by decide +kernel
theorem dX12_count_156 : decode cX12_count 156 = .ok (.aload_n 0, 1) := by decide +kernel
theorem dX12_count_157 : decode cX12_count 157 = .ok (.getfield 478, 3) := by decide +kernel
theorem dX12_count_160 : decode cX12_count 160 = .ok (.ireturn, 1) := by decide +kernel
theorem dX12_count_161 : decode cX12_count 161 = .ok (.aload_n 0, 1) := by decide +kernel
theorem dX12_count_162 : decode cX12_count 162 = .ok (.getfield 448, 3) := by decide +kernel
theorem dX12_count_165 : decode cX12_count 165 = .ok (.ireturn, 1) := by decide +kernel
theorem dX12_count_166 : decode cX12_count 166 = .ok (.aload_n 0, 1) := by decide +kernel
theorem dX12_count_167 : decode cX12_count 167 = .ok (.getfield 454, 3) := by decide +kernel
theorem dX12_count_170 : decode cX12_count 170 = .ok (.ireturn, 1) := by decide +kernel
theorem dX12_count_171 : decode cX12_count 171 = .ok (.aload_n 0, 1) := by decide +kernel
theorem dX12_count_172 : decode cX12_count 172 = .ok (.getfield 239, 3) := by decide +kernel
theorem dX12_count_175 : decode cX12_count 175 = .ok (.ireturn, 1) := by decide +kernel
theorem dX12_count_176 : decode cX12_count 176 = .ok (.aload_n 0, 1) := by decide +kernel
theorem dX12_count_177 : decode cX12_count 177 = .ok (.getfield 520, 3) := by decide +kernel
theorem dX12_count_180 : decode cX12_count 180 = .ok (.ireturn, 1) := by decide +kernel
theorem dX12_count_181 : decode cX12_count 181 = .ok (.aload_n 0, 1) := by decide +kernel
theorem dX12_count_182 : decode cX12_count 182 = .ok (.getfield 517, 3) := by decide +kernel
theorem dX12_count_185 : decode cX12_count 185 = .ok (.ireturn, 1) := by decide +kernel
theorem dX12_count_186 : decode cX12_count 186 = .ok (.aload_n 0, 1) := by decide +kernel
theorem dX12_count_187 : decode cX12_count 187 = .ok (.getfield 245, 3) := by decide +kernel
theorem dX12_count_190 : decode cX12_count 190 = .ok (.ireturn, 1) := by decide +kernel
theorem dX12_count_191 : decode cX12_count 191 = .ok (.aload_n 0, 1) := by decide +kernel
theorem dX12_count_192 : decode cX12_count 192 = .ok (.getfield 511, 3) := by decide +kernel
theorem dX12_count_195 : decode cX12_count 195 = .ok (.ireturn, 1) := by decide +kernel
theorem dX12_count_196 : decode cX12_count 196 = .ok (.iconst (-1), 1) := by decide +kernel
theorem dX12_count_197 : decode cX12_count 197 = .ok (.ireturn, 1) := by decide +kernel
