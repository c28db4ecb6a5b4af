theorem dX11_close_43 : decode cX11_close 43 = .ok (.getfield 56, 3) := by decide +kernel
theorem dX11_close_46 : decode cX11_close 46 = .ok (.aload_n 0, 1) := by decide +kernel
theorem dX11_close_47 : decode cX11_close 47 = .ok (.getfield 62, 3) := by decide +kernel
theorem dX11_close_50 : decode cX11_close 50 = .ok (.aload_n 0, 1) := by decide +kernel
theorem dX11_close_51 : decode cX11_close 51 = .ok (.getfield 76, 3) := by decide +kernel
theorem dX11_close_54 : decode cX11_close 54 = .ok (.invokevirtual 300, 3) := by decide +kernel
theorem dX11_close_57 : decode cX11_close 57 = .ok (.aload_n 1, 1) := by decide +kernel
theorem dX11_close_58 : decode cX11_close 58 = .ok (.aload_n 2, 1) := by decide +kernel
theorem dX11_close_59 : decode cX11_close 59 = .ok (.bipush 6, 2) := by decide +kernel
theorem dX11_close_61 : decode cX11_close 61 = .ok (.invokevirtual 156, 3) := by decide +kernel
theorem dX11_close_64 : decode cX11_close 64 = .ok (.aload_n 2, 1) := by decide +kernel
theorem dX11_close_65 : decode cX11_close 65 = .ok (.bipush 7, 2) := by decide +kernel
theorem dX11_close_67 : decode cX11_close 67 = .ok (.invokevirtual 156, 3) := by decide +kernel
theorem dX11_close_70 : decode cX11_close 70 = .ok (.invokevirtual 304, 3) := by decide +kernel
theorem dX11_close_73 : decode cX11_close 73 = .ok (.aload_n 1, 1) := by decide +kernel
theorem dX11_close_74 : decode cX11_close 74 = .ok (.getfield 297, 3) := by decide +kernel
theorem dX11_close_77 : decode cX11_close 77 = .ok (.istore_n 3, 1) := by decide +kernel
theorem dX11_close_78 : decode cX11_close 78 = .ok (.aload_n 0, 1) := by decide +kernel
theorem dX11_close_79 : decode cX11_close 79 = .ok (.getfield 90, 3) := by decide +kernel
theorem dX11_close_82 : decode cX11_close 82 = .ok (.iconst 1, 1) := by decide +kernel
theorem dX11_close_83 : decode cX11_close 83 = .ok (.if_icmp .ne 17, 3) := by decide +kernel
theorem dX11_close_86 : decode cX11_close 86 = .ok (.aload_n 1, 1) := by decide +kernel
theorem dX11_close_87 : decode cX11_close 87 = .ok (.aload_n 2, 1) := by decide +kernel
theorem dX11_close_88 : decode cX11_close 88 = .ok (.iconst 5, 1) := by decide +kernel
theorem dX11_close_89 : decode cX11_close 89 = .ok (.invokevirtual 156, 3) := by decide +kernel
theorem dX11_close_92 : decode cX11_close 92 = .ok (.aload_n 0, 1) := by decide +kernel
theorem dX11_close_93 : decode cX11_close 93 = .ok (.getfield 73, 3) := by decide +kernel
theorem dX11_close_96 : decode cX11_close 96 = .ok (.invokevirtual 307, 3) := by decide +kernel
theorem dX11_close_99 : decode cX11_close 99 = .ok (.istore_n 3, 1) := by decide +kernel
theorem dX11_close_100 : decode cX11_close 100 = .ok (.aload_n 0, 1) := by decide +kernel
theorem dX11_close_101 : decode cX11_close 101 = .ok (.aload_n 0, 1) := by decide +kernel
theorem dX11_close_102 : decode cX11_close 102 = .ok (.getfield 90, 3) := by decide +kernel
theorem dX11_close_105 : decode cX11_close 105 = .ok (.putfield 93, 3) := by decide +kernel
theorem dX11_close_108 : decode cX11_close 108 = .ok (.aload_n 0, 1) := by decide +kernel
theorem dX11_close_109 : decode cX11_close 109 = .ok (.iconst 0, 1) := by decide +kernel
theorem dX11_close_110 : decode cX11_close 110 = .ok (.putfield 90, 3) := by decide +kernel
theorem dX11_close_113 : decode cX11_close 113 = .ok (.iload_n 3, 1) := by decide +kernel
theorem dX11_close_114 : decode cX11_close 114 = .ok (.ireturn, 1) := by decide +kernel
theorem dX11_isRule_0 : decode cX11_isRule 0 = .ok (.iload_n 0, 1) := by decide +kernel
theorem dX11_isRule_1 : decode cX11_isRule 1 = .ok (.ifCond .lt 12, 3) := by decide +kernel
theorem dX11_isRule_4 : decode cX11_isRule 4 = .ok (.iload_n 0, 1) := by decide +kernel
theorem dX11_isRule_5 : decode cX11_isRule 5 = .ok (.iconst 2, 1) := by decide +kernel
theorem dX11_isRule_6 : decode cX11_isRule 6 = .ok (.if_icmp .gt 7, 3) := by decide +kernel
theorem dX11_isRule_9 : decode cX11_isRule 9 = .ok (.iconst 1, 1) := by decide +kernel
theorem dX11_isRule_10 : decode cX11_isRule 10 = .ok (.goto 4, 3) := by decide +kernel
theorem dX11_isRule_13 : decode cX11_isRule 13 = .ok (.iconst 0, 1) := by decide +kernel
theorem dX11_isRule_14 : decode cX11_isRule 14 = .ok (.ireturn, 1) := by decide +kernel
theorem dX11_points_0 : decode cX11_points 0 = .ok (.aload_n 0, 1) := by decide +kernel
theorem dX11_points_1 : decode cX11_points 1 = .ok (.iload_n 1, 1) := by decide +kernel
theorem dX11_points_2 : decode cX11_points 2 = .ok (.invokevirtual 286, 3) := by decide +kernel
theorem dX11_points_5 : decode cX11_points 5 = .ok (.astore 4, 2) := by decide +kernel
theorem dX11_points_7 : decode cX11_points 7 = .ok (.aload 4, 2) := by decide +kernel
theorem dX11_points_9 : decode cX11_points 9 = .ok (.ifnull 19, 3) := by decide +kernel
theorem dX11_points_12 : decode cX11_points 12 = .ok (.iload_n 2, 1) := by decide +kernel
theorem dX11_points_13 : decode cX11_points 13 = .ok (.invokestatic 311, 3) := by decide +kernel
theorem dX11_points_16 : decode cX11_points 16 = .ok (.ifCond .eq 12, 3) := by decide +kernel
theorem dX11_points_19 : decode cX11_points 19 = .ok (.aload 4, 2) := by decide +kernel
theorem dX11_points_21 : decode cX11_points 21 = .ok (.iload_n 3, 1) := by decide +kernel
theorem dX11_points_22 : decode cX11_points 22 = .ok (.invokevirtual 314, 3) := by decide +kernel
theorem dX11_points_25 : decode cX11_points 25 = .ok (.ifCond .ne 5, 3) := by decide +kernel
theorem dX11_points_28 : decode cX11_points 28 = .ok (.iconst (-1), 1) := by decide +kernel
theorem dX11_points_29 : decode cX11_points 29 = .ok (.ireturn, 1) := by decide +kernel
theorem dX11_points_30 : decode cX11_points 30 = .ok (.aload 4, 2) := by decide +kernel
theorem dX11_points_32 : decode cX11_points 32 = .ok (.iload_n 2, 1) := by decide +kernel
theorem dX11_points_33 : decode cX11_points 33 = .ok (.iload_n 3, 1) := by decide +kernel
theorem dX11_points_34 : decode cX11_points 34 = .ok (.invokevirtual 315, 3) := by decide +kernel
theorem dX11_points_37 : decode cX11_points 37 = .ok (.ireturn, 1) := by decide +kernel
theorem dX11_voice_0 : decode cX11_voice 0 = .ok (.aload_n 0, 1) := by decide +kernel
theorem dX11_voice_1 : decode cX11_voice 1 = .ok (.iload_n 1, 1) := by decide +kernel
theorem dX11_voice_2 : decode cX11_voice 2 = .ok (.invokevirtual 286, 3) := by decide +kernel
theorem dX11_voice_5 : decode cX11_voice 5 = .ok (.astore_n 3, 1) := by decide +kernel
theorem dX11_voice_6 : decode cX11_voice 6 = .ok (.aload_n 3, 1) := by decide +kernel
theorem dX11_voice_7 : decode cX11_voice 7 = .ok (.ifnull 14, 3) := by decide +kernel
theorem dX11_voice_10 : decode cX11_voice 10 = .ok (.aload_n 0, 1) := by decide +kernel
theorem dX11_voice_11 : decode cX11_voice 11 = .ok (.getfield 56, 3) := by decide +kernel
theorem dX11_voice_14 : decode cX11_voice 14 = .ok (.iload_n 2, 1) := by decide +kernel
theorem dX11_voice_15 : decode cX11_voice 15 = .ok (.invokevirtual 279, 3) := by decide +kernel
theorem dX11_voice_18 : decode cX11_voice 18 = .ok (.ifCond .ne 5, 3) := by decide +kernel
theorem dX11_voice_21 : decode cX11_voice 21 = .ok (.iconst (-1), 1) := by decide +kernel
theorem dX11_voice_22 : decode cX11_voice 22 = .ok (.ireturn, 1) := by decide +kernel
theorem dX11_voice_23 : decode cX11_voice 23 = .ok (.aload_n 3, 1) := by decide +kernel
theorem dX11_voice_24 : decode cX11_voice 24 = .ok (.iload_n 2, 1) := by decide +kernel
theorem dX11_voice_25 : decode cX11_voice 25 = .ok (.invokevirtual 318, 3) := by decide +kernel
theorem dX11_voice_28 : decode cX11_voice 28 = .ok (.ifCond .eq 7, 3) := by decide +kernel
theorem dX11_voice_31 : decode cX11_voice 31 = .ok (.iconst 1, 1) := by decide +kernel
theorem dX11_voice_32 : decode cX11_voice 32 = .ok (.goto 4, 3) := by decide +kernel
theorem dX11_voice_35 : decode cX11_voice 35 = .ok (.iconst 0, 1) := by decide +kernel
theorem dX11_voice_36 : decode cX11_voice 36 = .ok (.ireturn, 1) := by decide +kernel
theorem dX11_order_0 : decode cX11_order 0 = .ok (.iload_n 1, 1) := by decide +kernel
theorem dX11_order_1 : decode cX11_order 1 = .ok (.aload_n 0, 1) := by decide +kernel
theorem dX11_order_2 : decode cX11_order 2 = .ok (.getfield 90, 3) := by decide +kernel
theorem dX11_order_5 : decode cX11_order 5 = .ok (.if_icmp .ne 7, 3) := by decide +kernel
theorem dX11_order_8 : decode cX11_order 8 = .ok (.aconst_null, 1) := by decide +kernel
theorem dX11_order_9 : decode cX11_order 9 = .ok (.goto 8, 3) := by decide +kernel
theorem dX11_order_12 : decode cX11_order 12 = .ok (.aload_n 0, 1) := by decide +kernel
theorem dX11_order_13 : decode cX11_order 13 = .ok (.iload_n 1, 1) := by decide +kernel
theorem dX11_order_14 : decode cX11_order 14 = .ok (.invokevirtual 286, 3) := by decide +kernel
theorem dX11_order_17 : decode cX11_order 17 = .ok (.astore 4, 2) := by decide +kernel
theorem dX11_order_19 : decode cX11_order 19 = .ok (.aload 4, 2) := by decide +kernel
theorem dX11_order_21 : decode cX11_order 21 = .ok (.ifnull 15, 3) := by decide +kernel
theorem dX11_order_24 : decode cX11_order 24 = .ok (.iload_n 2, 1) := by decide +kernel
theorem dX11_order_25 : decode cX11_order 25 = .ok (.iconst (-1), 1) := by decide +kernel
theorem dX11_order_26 : decode cX11_order 26 = .ok (.if_icmp .eq 12, 3) := by decide +kernel
theorem dX11_order_29 : decode cX11_order 29 = .ok (.iload_n 2, 1) := by decide +kernel
theorem dX11_order_30 : decode cX11_order 30 = .ok (.invokestatic 311, 3) := by decide +kernel
theorem dX11_order_33 : decode cX11_order 33 = .ok (.ifCond .ne 5, 3) := by decide +kernel
theorem dX11_order_36 : decode cX11_order 36 = .ok (.iconst (-1), 1) := by decide +kernel
theorem dX11_order_37 : decode cX11_order 37 = .ok (.ireturn, 1) := by decide +kernel
theorem dX11_order_38 : decode cX11_order 38 = .ok (.aload 4, 2) := by decide +kernel
theorem dX11_order_40 : decode cX11_order 40 = .ok (.iload_n 2, 1) := by decide +kernel
theorem dX11_order_41 : decode cX11_order 41 = .ok (.iconst (-1), 1) := by decide +kernel
theorem dX11_order_42 : decode cX11_order 42 = .ok (.if_icmp .ne 11, 3) := by decide +kernel
theorem dX11_order_45 : decode cX11_order 45 = .ok (.aload 4, 2) := by decide +kernel
theorem dX11_order_47 : decode cX11_order 47 = .ok (.getfield 321, 3) := by decide +kernel
theorem dX11_order_50 : decode cX11_order 50 = .ok (.goto 4, 3) := by decide +kernel
theorem dX11_order_53 : decode cX11_order 53 = .ok (.iload_n 2, 1) := by decide +kernel
theorem dX11_order_54 : decode cX11_order 54 = .ok (.iload_n 3, 1) := by decide +kernel
theorem dX11_order_55 : decode cX11_order 55 = .ok (.invokevirtual 324, 3) := by decide +kernel
theorem dX11_order_58 : decode cX11_order 58 = .ok (.ireturn, 1) := by decide +kernel
theorem dX11_author_0 : decode cX11_author 0 = .ok (.aload_n 0, 1) := by decide +kernel
theorem dX11_author_1 : decode cX11_author 1 = .ok (.iload_n 1, 1) := by decide +kernel
theorem dX11_author_2 : decode cX11_author 2 = .ok (.invokevirtual 193, 3) := by decide +kernel
theorem dX11_author_5 : decode cX11_author 5 = .ok (.astore_n 2, 1) := by decide +kernel
theorem dX11_author_6 : decode cX11_author 6 = .ok (.aload_n 2, 1) := by decide +kernel
theorem dX11_author_7 : decode cX11_author 7 = .ok (.ifnull 11, 3) := by decide +kernel
theorem dX11_author_10 : decode cX11_author 10 = .ok (.aload_n 0, 1) := by decide +kernel
theorem dX11_author_11 : decode cX11_author 11 = .ok (.getfield 93, 3) := by decide +kernel
theorem dX11_author_14 : decode cX11_author 14 = .ok (.iconst 2, 1) := by decide +kernel
theorem dX11_author_15 : decode cX11_author 15 = .ok (.if_icmp .ge 7, 3) := by decide +kernel
theorem dX11_author_18 : decode cX11_author 18 = .ok (.iconst (-1), 1) := by decide +kernel
theorem dX11_author_19 : decode cX11_author 19 = .ok (.goto 7, 3) := by decide +kernel
theorem dX11_author_22 : decode cX11_author 22 = .ok (.aload_n 2, 1) := by decide +kernel
theorem dX11_author_23 : decode cX11_author 23 = .ok (.getfield 327, 3) := by decide +kernel
theorem dX11_author_26 : decode cX11_author 26 = .ok (.ireturn, 1) := by decide +kernel
theorem dX11_winner_0 : decode cX11_winner 0 = .ok (.aload_n 0, 1) := by decide +kernel
theorem dX11_winner_1 : decode cX11_winner 1 = .ok (.getfield 93, 3) := by decide +kernel
theorem dX11_winner_4 : decode cX11_winner 4 = .ok (.iconst 2, 1) := by decide +kernel
theorem dX11_winner_5 : decode cX11_winner 5 = .ok (.if_icmp .ge 7, 3) := by decide +kernel
theorem dX11_winner_8 : decode cX11_winner 8 = .ok (.iconst (-1), 1) := by decide +kernel
theorem dX11_winner_9 : decode cX11_winner 9 = .ok (.goto 21, 3) := by decide +kernel
theorem dX11_winner_12 : decode cX11_winner 12 = .ok (.aload_n 0, 1) := by decide +kernel
theorem dX11_winner_13 : decode cX11_winner 13 = .ok (.getfield 73, 3) := by decide +kernel
theorem dX11_winner_16 : decode cX11_winner 16 = .ok (.aload_n 0, 1) := by decide +kernel
theorem dX11_winner_17 : decode cX11_winner 17 = .ok (.getfield 73, 3) := by decide +kernel
theorem dX11_winner_20 : decode cX11_winner 20 = .ok (.getfield 321, 3) := by decide +kernel
theorem dX11_winner_23 : decode cX11_winner 23 = .ok (.aload_n 0, 1) := by decide +kernel
theorem dX11_winner_24 : decode cX11_winner 24 = .ok (.getfield 96, 3) := by decide +kernel
theorem dX11_winner_27 : decode cX11_winner 27 = .ok (.invokevirtual 324, 3) := by decide +kernel
theorem dX11_winner_30 : decode cX11_winner 30 = .ok (.ireturn, 1) := by decide +kernel
theorem dX11_fail_0 : decode cX11_fail 0 = .ok (.aload_n 0, 1) := by decide +kernel
theorem dX11_fail_1 : decode cX11_fail 1 = .ok (.invokevirtual 330, 3) := by decide +kernel
theorem dX11_fail_4 : decode cX11_fail 4 = .ok (.iconst (-1), 1) := by decide +kernel
theorem dX11_fail_5 : decode cX11_fail 5 = .ok (.if_icmp .ne 6, 3) := by decide +kernel
theorem dX11_fail_8 : decode cX11_fail 8 = .ok (.bipush (-2), 2) := by decide +kernel
theorem dX11_fail_10 : decode cX11_fail 10 = .ok (.ireturn, 1) := by decide +kernel
theorem dX11_fail_11 : decode cX11_fail 11 = .ok (.aload_n 0, 1) := by decide +kernel
theorem dX11_fail_12 : decode cX11_fail 12 = .ok (.dup, 1) := by decide +kernel
theorem dX11_fail_13 : decode cX11_fail 13 = .ok (.getfield 96, 3) := by decide +kernel
theorem dX11_fail_16 : decode cX11_fail 16 = .ok (.iconst 1, 1) := by decide +kernel
theorem dX11_fail_17 : decode cX11_fail 17 = .ok (.iadd, 1) := by decide +kernel
theorem dX11_fail_18 : decode cX11_fail 18 = .ok (.putfield 96, 3) := by decide +kernel
theorem dX11_fail_21 : decode cX11_fail 21 = .ok (.aload_n 0, 1) := by decide +kernel
theorem dX11_fail_22 : decode cX11_fail 22 = .ok (.iconst 0, 1) := by decide +kernel
theorem dX11_fail_23 : decode cX11_fail 23 = .ok (.putfield 99, 3) := by decide +kernel
theorem dX11_fail_26 : decode cX11_fail 26 = .ok (.aload_n 0, 1) := by decide +kernel
theorem dX11_fail_27 : decode cX11_fail 27 = .ok (.invokevirtual 330, 3) := by decide +kernel
theorem dX11_fail_30 : decode cX11_fail 30 = .ok (.ireturn, 1) := by decide +kernel
theorem dX11_pay_0 : decode cX11_pay 0 = .ok (.aload_n 0, 1) := by decide +kernel
theorem dX11_pay_1 : decode cX11_pay 1 = .ok (.aload_n 0, 1) := by decide +kernel
theorem dX11_pay_2 : decode cX11_pay 2 = .ok (.invokevirtual 330, 3) := by decide +kernel
theorem dX11_pay_5 : decode cX11_pay 5 = .ok (.invokevirtual 193, 3) := by decide +kernel
theorem dX11_pay_8 : decode cX11_pay 8 = .ok (.astore_n 1, 1) := by decide +kernel
theorem dX11_pay_9 : decode cX11_pay 9 = .ok (.aload_n 1, 1) := by decide +kernel
theorem dX11_pay_10 : decode cX11_pay 10 = .ok (.ifnull 11, 3) := by decide +kernel
theorem dX11_pay_13 : decode cX11_pay 13 = .ok (.aload_n 0, 1) := by decide +kernel
theorem dX11_pay_14 : decode cX11_pay 14 = .ok (.getfield 99, 3) := by decide +kernel
theorem dX11_pay_17 : decode cX11_pay 17 = .ok (.iconst 3, 1) := by decide +kernel
theorem dX11_pay_18 : decode cX11_pay 18 = .ok (.if_icmp .lt 5, 3) := by decide +kernel
theorem dX11_pay_21 : decode cX11_pay 21 = .ok (.iconst (-1), 1) := by decide +kernel
theorem dX11_pay_22 : decode cX11_pay 22 = .ok (.ireturn, 1) := by decide +kernel
theorem dX11_pay_23 : decode cX11_pay 23 = .ok (.aload_n 0, 1) := by decide +kernel
theorem dX11_pay_24 : decode cX11_pay 24 = .ok (.getfield 26, 3) := by decide +kernel
theorem dX11_pay_27 : decode cX11_pay 27 = .ok (.aload_n 0, 1) := by decide +kernel
theorem dX11_pay_28 : decode cX11_pay 28 = .ok (.getfield 76, 3) := by decide +kernel
theorem dX11_pay_31 : decode cX11_pay 31 = .ok (.invokevirtual 152, 3) := by decide +kernel
theorem dX11_pay_34 : decode cX11_pay 34 = .ok (.bipush 8, 2) := by decide +kernel
theorem dX11_pay_36 : decode cX11_pay 36 = .ok (.aload_n 0, 1) := by decide +kernel
theorem dX11_pay_37 : decode cX11_pay 37 = .ok (.getfield 99, 3) := by decide +kernel
theorem dX11_pay_40 : decode cX11_pay 40 = .ok (.iadd, 1) := by decide +kernel
theorem dX11_pay_41 : decode cX11_pay 41 = .ok (.invokevirtual 156, 3) := by decide +kernel
theorem dX11_pay_44 : decode cX11_pay 44 = .ok (.istore_n 2, 1) := by decide +kernel
theorem dX11_pay_45 : decode cX11_pay 45 = .ok (.aload_n 1, 1) := by decide +kernel
theorem dX11_pay_46 : decode cX11_pay 46 = .ok (.aload_n 0, 1) := by decide +kernel
theorem dX11_pay_47 : decode cX11_pay 47 = .ok (.aload_n 1, 1) := by decide +kernel
theorem dX11_pay_48 : decode cX11_pay 48 = .ok (.invokevirtual 238, 3) := by decide +kernel
theorem dX11_pay_51 : decode cX11_pay 51 = .ok (.invokevirtual 234, 3) := by decide +kernel
theorem dX11_pay_54 : decode cX11_pay 54 = .ok (.iload_n 2, 1) := by decide +kernel
theorem dX11_pay_55 : decode cX11_pay 55 = .ok (.imul, 1) := by decide +kernel
theorem dX11_pay_56 : decode cX11_pay 56 = .ok (.bipush 100, 2) := by decide +kernel
theorem dX11_pay_58 : decode cX11_pay 58 = .ok (.idiv, 1) := by decide +kernel
theorem dX11_pay_59 : decode cX11_pay 59 = .ok (.istore_n 3, 1) := by decide +kernel
theorem dX11_pay_60 : decode cX11_pay 60 = .ok (.aload_n 0, 1) := by decide +kernel
theorem dX11_pay_61 : decode cX11_pay 61 = .ok (.dup, 1) := by decide +kernel
theorem dX11_pay_62 : decode cX11_pay 62 = .ok (.getfield 102, 3) := by decide +kernel
theorem dX11_pay_65 : decode cX11_pay 65 = .ok (.iload_n 3, 1) := by decide +kernel
theorem dX11_pay_66 : decode cX11_pay 66 = .ok (.iadd, 1) := by decide +kernel
theorem dX11_pay_67 : decode cX11_pay 67 = .ok (.putfield 102, 3) := by decide +kernel
theorem dX11_pay_70 : decode cX11_pay 70 = .ok (.aload_n 0, 1) := by decide +kernel
theorem dX11_pay_71 : decode cX11_pay 71 = .ok (.dup, 1) := by decide +kernel
theorem dX11_pay_72 : decode cX11_pay 72 = .ok (.getfield 99, 3) := by decide +kernel
theorem dX11_pay_75 : decode cX11_pay 75 = .ok (.iconst 1, 1) := by decide +kernel
theorem dX11_pay_76 : decode cX11_pay 76 = .ok (.iadd, 1) := by decide +kernel
theorem dX11_pay_77 : decode cX11_pay 77 = .ok (.putfield 99, 3) := by decide +kernel
theorem dX11_pay_80 : decode cX11_pay 80 = .ok (.iload_n 3, 1) := by decide +kernel
theorem dX11_pay_81 : decode cX11_pay 81 = .ok (.ireturn, 1) := by decide +kernel
theorem dX11_handedIn_0 : decode cX11_handedIn 0 = .ok (.iconst 0, 1) := by decide +kernel
theorem dX11_handedIn_1 : decode cX11_handedIn 1 = .ok (.istore_n 1, 1) := by decide +kernel
theorem dX11_handedIn_2 : decode cX11_handedIn 2 = .ok (.iconst 0, 1) := by decide +kernel
theorem dX11_handedIn_3 : decode cX11_handedIn 3 = .ok (.istore_n 2, 1) := by decide +kernel
theorem dX11_handedIn_4 : decode cX11_handedIn 4 = .ok (.iload_n 2, 1) := by decide +kernel
theorem dX11_handedIn_5 : decode cX11_handedIn 5 = .ok (.aload_n 0, 1) := by decide +kernel
theorem dX11_handedIn_6 : decode cX11_handedIn 6 = .ok (.getfield 83, 3) := by decide +kernel
theorem dX11_handedIn_9 : decode cX11_handedIn 9 = .ok (.if_icmp .ge 29, 3) := by decide +kernel
theorem dX11_handedIn_12 : decode cX11_handedIn 12 = .ok (.aload_n 0, 1) := by decide +kernel
theorem dX11_handedIn_13 : decode cX11_handedIn 13 = .ok (.iload_n 2, 1) := by decide +kernel
theorem dX11_handedIn_14 : decode cX11_handedIn 14 = .ok (.invokevirtual 193, 3) := by decide +kernel
theorem dX11_handedIn_17 : decode cX11_handedIn 17 = .ok (.astore_n 3, 1) := by decide +kernel
theorem dX11_handedIn_18 : decode cX11_handedIn 18 = .ok (.aload_n 3, 1) := by decide +kernel
theorem dX11_handedIn_19 : decode cX11_handedIn 19 = .ok (.ifnull 13, 3) := by decide +kernel
theorem dX11_handedIn_22 : decode cX11_handedIn 22 = .ok (.aload_n 3, 1) := by decide +kernel
theorem dX11_handedIn_23 : decode cX11_handedIn 23 = .ok (.invokevirtual 197, 3) := by decide +kernel
theorem dX11_handedIn_26 : decode cX11_handedIn 26 = .ok (.ifCond .eq 6, 3) := by decide +kernel
theorem dX11_handedIn_29 : decode cX11_handedIn 29 = .ok (.iinc 1 1, 3) := by decide +kernel
theorem dX11_handedIn_32 : decode cX11_handedIn 32 = .ok (.iinc 2 1, 3) := by decide +kernel
theorem dX11_handedIn_35 : decode cX11_handedIn 35 = .ok (.goto (-31), 3) := by decide +kernel
theorem dX11_handedIn_38 : decode cX11_handedIn 38 = .ok (.iload_n 1, 1) := by decide +kernel
theorem dX11_handedIn_39 : decode cX11_handedIn 39 = .ok (.ireturn, 1) := by decide +kernel
theorem dJ13_bitCount_95d88_0 : decode cJ13_bitCount_95d88 0 = .ok (.lload_n 0, 1) := by decide +kernel
theorem dJ13_bitCount_95d88_1 : decode cJ13_bitCount_95d88 1 = .ok (.lload_n 0, 1) := by decide +kernel
theorem dJ13_bitCount_95d88_2 : decode cJ13_bitCount_95d88 2 = .ok (.iconst 1, 1) := by decide +kernel
theorem dJ13_bitCount_95d88_3 : decode cJ13_bitCount_95d88 3 = .ok (.lushr, 1) := by decide +kernel
theorem dJ13_bitCount_95d88_4 : decode cJ13_bitCount_95d88 4 = .ok (.ldc2_w 314, 3) := by decide +kernel
theorem dJ13_bitCount_95d88_7 : decode cJ13_bitCount_95d88 7 = .ok (.land, 1) := by decide +kernel
theorem dJ13_bitCount_95d88_8 : decode cJ13_bitCount_95d88 8 = .ok (.lsub, 1) := by decide +kernel
theorem dJ13_bitCount_95d88_9 : decode cJ13_bitCount_95d88 9 = .ok (.lstore_n 0, 1) := by decide +kernel
theorem dJ13_bitCount_95d88_10 : decode cJ13_bitCount_95d88 10 = .ok (.lload_n 0, 1) := by decide +kernel
theorem dJ13_bitCount_95d88_11 : decode cJ13_bitCount_95d88 11 = .ok (.ldc2_w 316, 3) := by decide +kernel
theorem dJ13_bitCount_95d88_14 : decode cJ13_bitCount_95d88 14 = .ok (.land, 1) := by decide +kernel
theorem dJ13_bitCount_95d88_15 : decode cJ13_bitCount_95d88 15 = .ok (.lload_n 0, 1) := by decide +kernel
theorem dJ13_bitCount_95d88_16 : decode cJ13_bitCount_95d88 16 = .ok (.iconst 2, 1) := by decide +kernel
theorem dJ13_bitCount_95d88_17 : decode cJ13_bitCount_95d88 17 = .ok (.lushr, 1) := by decide +kernel
theorem dJ13_bitCount_95d88_18 : decode cJ13_bitCount_95d88 18 = .ok (.ldc2_w 316, 3) := by decide +kernel
theorem dJ13_bitCount_95d88_21 : decode cJ13_bitCount_95d88 21 = .ok (.land, 1) := by decide +kernel
theorem dJ13_bitCount_95d88_22 : decode cJ13_bitCount_95d88 22 = .ok (.ladd, 1) := by decide +kernel
theorem dJ13_bitCount_95d88_23 : decode cJ13_bitCount_95d88 23 = .ok (.lstore_n 0, 1) := by decide +kernel
theorem dJ13_bitCount_95d88_24 : decode cJ13_bitCount_95d88 24 = .ok (.lload_n 0, 1) := by decide +kernel
theorem dJ13_bitCount_95d88_25 : decode cJ13_bitCount_95d88 25 = .ok (.lload_n 0, 1) := by decide +kernel
theorem dJ13_bitCount_95d88_26 : decode cJ13_bitCount_95d88 26 = .ok (.iconst 4, 1) := by decide +kernel
theorem dJ13_bitCount_95d88_27 : decode cJ13_bitCount_95d88 27 = .ok (.lushr, 1) := by decide +kernel
theorem dJ13_bitCount_95d88_28 : decode cJ13_bitCount_95d88 28 = .ok (.ladd, 1) := by decide +kernel
theorem dJ13_bitCount_95d88_29 : decode cJ13_bitCount_95d88 29 = .ok (.ldc2_w 318, 3) := by decide +kernel
theorem dJ13_bitCount_95d88_32 : decode cJ13_bitCount_95d88 32 = .ok (.land, 1) := by decide +kernel
theorem dJ13_bitCount_95d88_33 : decode cJ13_bitCount_95d88 33 = .ok (.lstore_n 0, 1) := by decide +kernel
theorem dJ13_bitCount_95d88_34 : decode cJ13_bitCount_95d88 34 = .ok (.lload_n 0, 1) := by decide +kernel
theorem dJ13_bitCount_95d88_35 : decode cJ13_bitCount_95d88 35 = .ok (.lload_n 0, 1) := by decide +kernel
theorem dJ13_bitCount_95d88_36 : decode cJ13_bitCount_95d88 36 = .ok (.bipush 8, 2) := by decide +kernel
theorem dJ13_bitCount_95d88_38 : decode cJ13_bitCount_95d88 38 = .ok (.lushr, 1) := by decide +kernel
theorem dJ13_bitCount_95d88_39 : decode cJ13_bitCount_95d88 39 = .ok (.ladd, 1) := by decide +kernel
theorem dJ13_bitCount_95d88_40 : decode cJ13_bitCount_95d88 40 = .ok (.lstore_n 0, 1) := by decide +kernel
theorem dJ13_bitCount_95d88_41 : decode cJ13_bitCount_95d88 41 = .ok (.lload_n 0, 1) := by decide +kernel
theorem dJ13_bitCount_95d88_42 : decode cJ13_bitCount_95d88 42 = .ok (.lload_n 0, 1) := by decide +kernel
theorem dJ13_bitCount_95d88_43 : decode cJ13_bitCount_95d88 43 = .ok (.bipush 16, 2) := by decide +kernel
theorem dJ13_bitCount_95d88_45 : decode cJ13_bitCount_95d88 45 = .ok (.lushr, 1) := by decide +kernel
theorem dJ13_bitCount_95d88_46 : decode cJ13_bitCount_95d88 46 = .ok (.ladd, 1) := by decide +kernel
theorem dJ13_bitCount_95d88_47 : decode cJ13_bitCount_95d88 47 = .ok (.lstore_n 0, 1) := by decide +kernel
theorem dJ13_bitCount_95d88_48 : decode cJ13_bitCount_95d88 48 = .ok (.lload_n 0, 1) := by decide +kernel
theorem dJ13_bitCount_95d88_49 : decode cJ13_bitCount_95d88 49 = .ok (.lload_n 0, 1) := by decide +kernel
theorem dJ13_bitCount_95d88_50 : decode cJ13_bitCount_95d88 50 = .ok (.bipush 32, 2) := by decide +kernel
theorem dJ13_bitCount_95d88_52 : decode cJ13_bitCount_95d88 52 = .ok (.lushr, 1) := by decide +kernel
theorem dJ13_bitCount_95d88_53 : decode cJ13_bitCount_95d88 53 = .ok (.ladd, 1) := by decide +kernel
theorem dJ13_bitCount_95d88_54 : decode cJ13_bitCount_95d88 54 = .ok (.lstore_n 0, 1) := by decide +kernel
theorem dJ13_bitCount_95d88_55 : decode cJ13_bitCount_95d88 55 = .ok (.lload_n 0, 1) := by decide +kernel
theorem dJ13_bitCount_95d88_56 : decode cJ13_bitCount_95d88 56 = .ok (.l2i, 1) := by decide +kernel
theorem dJ13_bitCount_95d88_57 : decode cJ13_bitCount_95d88 57 = .ok (.bipush 127, 2) := by decide +kernel
theorem dJ13_bitCount_95d88_59 : decode cJ13_bitCount_95d88 59 = .ok (.iand, 1) := by decide +kernel
theorem dJ13_bitCount_95d88_60 : decode cJ13_bitCount_95d88 60 = .ok (.ireturn, 1) := by decide +kernel
theorem dX11_count_0 : decode cX11_count 0 = .ok (.iload_n 1, 1) := by decide +kernel
theorem dX11_count_1 : decode cX11_count 1 = .ok (.tableswitch 171 0 14 #[75, 80, 88, 96, 101, 106, 114, 119, 124, 132, 140, 148, 153, 158, 166], 75) := by decide +kernel
theorem dX11_count_76 : decode cX11_count 76 = .ok (.aload_n 0, 1) := by decide +kernel
theorem dX11_count_77 : decode cX11_count 77 = .ok (.getfield 76, 3) := by decide +kernel
theorem dX11_count_80 : decode cX11_count 80 = .ok (.ireturn, 1) := by decide +kernel
theorem dX11_count_81 : decode cX11_count 81 = .ok (.aload_n 0, 1) := by decide +kernel
theorem dX11_count_82 : decode cX11_count 82 = .ok (.getfield 26, 3) := by decide +kernel
theorem dX11_count_85 : decode cX11_count 85 = .ok (.getfield 333, 3) := by decide +kernel
theorem dX11_count_88 : decode cX11_count 88 = .ok (.ireturn, 1) := by decide +kernel
theorem dX11_count_89 : decode cX11_count 89 = .ok (.aload_n 0, 1) := by decide +kernel
theorem dX11_count_90 : decode cX11_count 90 = .ok (.getfield 19, 3) := by decide +kernel
theorem dX11_count_93 : decode cX11_count 93 = .ok (.getfield 334, 3) := by decide +kernel
theorem dX11_count_96 : decode cX11_count 96 = .ok (.ireturn, 1) := by decide +kernel
theorem dX11_count_97 : decode cX11_count 97 = .ok (.aload_n 0, 1) := by decide +kernel
theorem dX11_count_98 : decode cX11_count 98 = .ok (.getfield 83, 3) := by decide +kernel
theorem dX11_count_101 : decode cX11_count 101 = .ok (.ireturn, 1) := by decide +kernel
theorem dX11_count_102 : decode cX11_count 102 = .ok (.aload_n 0, 1) := by decide +kernel
theorem dX11_count_103 : decode cX11_count 103 = .ok (.invokevirtual 335, 3) := by decide +kernel
theorem dX11_count_106 : decode cX11_count 106 = .ok (.ireturn, 1) := by decide +kernel
theorem dX11_count_107 : decode cX11_count 107 = .ok (.aload_n 0, 1) := by decide +kernel
theorem dX11_count_108 : decode cX11_count 108 = .ok (.getfield 56, 3) := by decide +kernel
theorem dX11_count_111 : decode cX11_count 111 = .ok (.getfield 338, 3) := by decide +kernel
theorem dX11_count_114 : decode cX11_count 114 = .ok (.ireturn, 1) := by decide +kernel
theorem dX11_count_115 : decode cX11_count 115 = .ok (.aload_n 0, 1) := by decide +kernel
theorem dX11_count_116 : decode cX11_count 116 = .ok (.getfield 90, 3) := by decide +kernel
theorem dX11_count_119 : decode cX11_count 119 = .ok (.ireturn, 1) := by decide +kernel
theorem dX11_count_120 : decode cX11_count 120 = .ok (.aload_n 0, 1) := by decide +kernel
theorem dX11_count_121 : decode cX11_count 121 = .ok (.getfield 93, 3) := by decide +kernel
theorem dX11_count_124 : decode cX11_count 124 = .ok (.ireturn, 1) := by decide +kernel
theorem dX11_count_125 : decode cX11_count 125 = .ok (.aload_n 0, 1) := by decide +kernel
theorem dX11_count_126 : decode cX11_count 126 = .ok (.getfield 49, 3) := by decide +kernel
theorem dX11_count_129 : decode cX11_count 129 = .ok (.getfield 339, 3) := by decide +kernel
theorem dX11_count_132 : decode cX11_count 132 = .ok (.ireturn, 1) := by decide +kernel
theorem dX11_count_133 : decode cX11_count 133 = .ok (.aload_n 0, 1) := by decide +kernel
theorem dX11_count_134 : decode cX11_count 134 = .ok (.getfield 49, 3) := by decide +kernel
theorem dX11_count_137 : decode cX11_count 137 = .ok (.getfield 340, 3) := by decide +kernel
theorem dX11_count_140 : decode cX11_count 140 = .ok (.ireturn, 1) := by decide +kernel
theorem dX11_count_141 : decode cX11_count 141 = .ok (.aload_n 0, 1) := by decide +kernel
theorem dX11_count_142 : decode cX11_count 142 = .ok (.getfield 86, 3) := by decide +kernel
theorem dX11_count_145 : decode cX11_count 145 = .ok (.invokestatic 343, 3) := by decide +kernel
theorem dX11_count_148 : decode cX11_count 148 = .ok (.ireturn, 1) := by decide +kernel
theorem dX11_count_149 : decode cX11_count 149 = .ok (.aload_n 0, 1) := by decide +kernel
theorem dX11_count_150 : decode cX11_count 150 = .ok (.getfield 102, 3) := by decide +kernel
theorem dX11_count_153 : decode cX11_count 153 = .ok (.ireturn, 1) := by decide +kernel
theorem dX11_count_154 : decode cX11_count 154 = .ok (.aload_n 0, 1) := by decide +kernel
theorem dX11_count_155 : decode cX11_count 155 = .ok (.getfield 99, 3) := by decide +kernel
theorem dX11_count_158 : decode cX11_count 158 = .ok (.ireturn, 1) := by decide +kernel
theorem dX11_count_159 : decode cX11_count 159 = .ok (.aload_n 0, 1) := by decide +kernel
theorem dX11_count_160 : decode cX11_count 160 = .ok (.getfield 10, 3) := by decide +kernel
theorem dX11_count_163 : decode cX11_count 163 = .ok (.getfield 116, 3) := by decide +kernel
theorem dX11_count_166 : decode cX11_count 166 = .ok (.ireturn, 1) := by decide +kernel
theorem dX11_count_167 : decode cX11_count 167 = .ok (.aload_n 0, 1) := by decide +kernel
theorem dX11_count_168 : decode cX11_count 168 = .ok (.getfield 96, 3) := by decide +kernel
theorem dX11_count_171 : decode cX11_count 171 = .ok (.ireturn, 1) := by decide +kernel
theorem dX11_count_172 : decode cX11_count 172 = .ok (.iconst (-1), 1) := by decide +kernel
theorem dX11_count_173 : decode cX11_count 173 = .ok (.ireturn, 1) := by decide +kernel
theorem dX12_isIn_0 : decode cX12_isIn 0 = .ok (.iload_n 0, 1) := by decide +kernel
theorem dX12_isIn_1 : decode cX12_isIn 1 = .ok (.iload_n 1, 1) := by decide +kernel
theorem dX12_isIn_2 : decode cX12_isIn 2 = .ok (.if_icmp .lt 12, 3) := by decide +kernel
theorem dX12_isIn_5 : decode cX12_isIn 5 = .ok (.iload_n 0, 1) := by decide +kernel
theorem dX12_isIn_6 : decode cX12_isIn 6 = .ok (.iload_n 2, 1) := by decide +kernel
theorem dX12_isIn_7 : decode cX12_isIn 7 = .ok (.if_icmp .gt 7, 3) := by decide +kernel
theorem dX12_isIn_10 : decode cX12_isIn 10 = .ok (.iconst 1, 1) := by decide +kernel
theorem dX12_isIn_11 : decode cX12_isIn 11 = .ok (.goto 4, 3) := by decide +kernel
theorem dX12_isIn_14 : decode cX12_isIn 14 = .ok (.iconst 0, 1) := by decide +kernel
theorem dX12_isIn_15 : decode cX12_isIn 15 = .ok (.ireturn, 1) := by decide +kernel
theorem dX12_one_0 : decode cX12_one 0 = .ok (.iload_n 0, 1) := by decide +kernel
theorem dX12_one_1 : decode cX12_one 1 = .ok (.ifCond .eq 7, 3) := by decide +kernel
theorem dX12_one_4 : decode cX12_one 4 = .ok (.iconst 1, 1) := by decide +kernel
theorem dX12_one_5 : decode cX12_one 5 = .ok (.goto 4, 3) := by decide +kernel
theorem dX12_one_8 : decode cX12_one 8 = .ok (.iconst 0, 1) := by decide +kernel
theorem dX12_one_9 : decode cX12_one 9 = .ok (.ireturn, 1) := by decide +kernel
theorem dX12_isScheme_0 : decode cX12_isScheme 0 = .ok (.iload_n 1, 1) := by decide +kernel
theorem dX12_isScheme_1 : decode cX12_isScheme 1 = .ok (.iconst 0, 1) := by decide +kernel
theorem dX12_isScheme_2 : decode cX12_isScheme 2 = .ok (.aload_n 0, 1) := by decide +kernel
theorem dX12_isScheme_3 : decode cX12_isScheme 3 = .ok (.getfield 137, 3) := by decide +kernel
theorem dX12_isScheme_6 : decode cX12_isScheme 6 = .ok (.iconst 1, 1) := by decide +kernel
theorem dX12_isScheme_7 : decode cX12_isScheme 7 = .ok (.isub, 1) := by decide +kernel
theorem dX12_isScheme_8 : decode cX12_isScheme 8 = .ok (.invokestatic 140, 3) := by decide +kernel
theorem dX12_isScheme_11 : decode cX12_isScheme 11 = .ok (.ireturn, 1) := by decide +kernel
theorem dX12_isDay_0 : decode cX12_isDay 0 = .ok (.iload_n 0, 1) := by decide +kernel
theorem dX12_isDay_1 : decode cX12_isDay 1 = .ok (.iconst 0, 1) := by decide +kernel
theorem dX12_isDay_2 : decode cX12_isDay 2 = .ok (.sipush 1000, 3) := by decide +kernel
theorem dX12_isDay_5 : decode cX12_isDay 5 = .ok (.invokestatic 140, 3) := by decide +kernel
theorem dX12_isDay_8 : decode cX12_isDay 8 = .ok (.ireturn, 1) := by decide +kernel
theorem dX12_isSpot_0 : decode cX12_isSpot 0 = .ok (.iload_n 0, 1) := by decide +kernel
theorem dX12_isSpot_1 : decode cX12_isSpot 1 = .ok (.iconst 0, 1) := by decide +kernel
theorem dX12_isSpot_2 : decode cX12_isSpot 2 = .ok (.iconst 1, 1) := by decide +kernel
theorem dX12_isSpot_3 : decode cX12_isSpot 3 = .ok (.invokestatic 140, 3) := by decide +kernel
theorem dX12_isSpot_6 : decode cX12_isSpot 6 = .ok (.ifCond .eq 27, 3) := by decide +kernel
theorem dX12_isSpot_9 : decode cX12_isSpot 9 = .ok (.iload_n 1, 1) := by decide +kernel
theorem dX12_isSpot_10 : decode cX12_isSpot 10 = .ok (.iconst 0, 1) := by decide +kernel
theorem dX12_isSpot_11 : decode cX12_isSpot 11 = .ok (.bipush 9, 2) := by decide +kernel
theorem dX12_isSpot_13 : decode cX12_isSpot 13 = .ok (.invokestatic 140, 3) := by decide +kernel
theorem dX12_isSpot_16 : decode cX12_isSpot 16 = .ok (.ifCond .eq 17, 3) := by decide +kernel
theorem dX12_isSpot_19 : decode cX12_isSpot 19 = .ok (.iload_n 2, 1) := by decide +kernel
theorem dX12_isSpot_20 : decode cX12_isSpot 20 = .ok (.iconst 0, 1) := by decide +kernel
theorem dX12_isSpot_21 : decode cX12_isSpot 21 = .ok (.bipush 7, 2) := by decide +kernel
theorem dX12_isSpot_23 : decode cX12_isSpot 23 = .ok (.invokestatic 140, 3) := by decide +kernel
theorem dX12_isSpot_26 : decode cX12_isSpot 26 = .ok (.ifCond .eq 7, 3) := by decide +kernel
theorem dX12_isSpot_29 : decode cX12_isSpot 29 = .ok (.iconst 1, 1) := by decide +kernel
theorem dX12_isSpot_30 : decode cX12_isSpot 30 = .ok (.goto 4, 3) := by decide +kernel
theorem dX12_isSpot_33 : decode cX12_isSpot 33 = .ok (.iconst 0, 1) := by decide +kernel
theorem dX12_isSpot_34 : decode cX12_isSpot 34 = .ok (.ireturn, 1) := by decide +kernel
theorem dX12_spot_0 : decode cX12_spot 0 = .ok (.bipush 80, 2) := by decide +kernel
theorem dX12_spot_2 : decode cX12_spot 2 = .ok (.iload_n 0, 1) := by decide +kernel
theorem dX12_spot_3 : decode cX12_spot 3 = .ok (.imul, 1) := by decide +kernel
theorem dX12_spot_4 : decode cX12_spot 4 = .ok (.bipush 10, 2) := by decide +kernel
theorem dX12_spot_6 : decode cX12_spot 6 = .ok (.iload_n 2, 1) := by decide +kernel
theorem dX12_spot_7 : decode cX12_spot 7 = .ok (.imul, 1) := by decide +kernel
theorem dX12_spot_8 : decode cX12_spot 8 = .ok (.iadd, 1) := by decide +kernel
theorem dX12_spot_9 : decode cX12_spot 9 = .ok (.iload_n 1, 1) := by decide +kernel
theorem dX12_spot_10 : decode cX12_spot 10 = .ok (.iadd, 1) := by decide +kernel
theorem dX12_spot_11 : decode cX12_spot 11 = .ok (.ireturn, 1) := by decide +kernel
theorem dX12_day_0 : decode cX12_day 0 = .ok (.iload_n 1, 1) := by decide +kernel
theorem dX12_day_1 : decode cX12_day 1 = .ok (.aload_n 0, 1) := by decide +kernel
theorem dX12_day_2 : decode cX12_day 2 = .ok (.getfield 144, 3) := by decide +kernel
theorem dX12_day_5 : decode cX12_day 5 = .ok (.if_icmp .le 10, 3) := by decide +kernel
theorem dX12_day_8 : decode cX12_day 8 = .ok (.iload_n 1, 1) := by decide +kernel
theorem dX12_day_9 : decode cX12_day 9 = .ok (.sipush 1000, 3) := by decide +kernel
theorem dX12_day_12 : decode cX12_day 12 = .ok (.if_icmp .le 5, 3) := by decide +kernel
theorem dX12_day_15 : decode cX12_day 15 = .ok (.iconst 0, 1) := by decide +kernel
theorem dX12_day_16 : decode cX12_day 16 = .ok (.ireturn, 1) := by decide +kernel
theorem dX12_day_17 : decode cX12_day 17 = .ok (.aload_n 0, 1) := by decide +kernel
theorem dX12_day_18 : decode cX12_day 18 = .ok (.iload_n 1, 1) := by decide +kernel
theorem dX12_day_19 : decode cX12_day 19 = .ok (.putfield 144, 3) := by decide +kernel
theorem dX12_day_22 : decode cX12_day 22 = .ok (.aload_n 0, 1) := by decide +kernel
theorem dX12_day_23 : decode cX12_day 23 = .ok (.dup, 1) := by decide +kernel
theorem dX12_day_24 : decode cX12_day 24 = .ok (.getfield 7, 3) := by decide +kernel
theorem dX12_day_27 : decode cX12_day 27 = .ok (.iconst 1, 1) := by decide +kernel
theorem dX12_day_28 : decode cX12_day 28 = .ok (.iadd, 1) := by decide +kernel
theorem dX12_day_29 : decode cX12_day 29 = .ok (.putfield 7, 3) := by decide +kernel
theorem dX12_day_32 : decode cX12_day 32 = .ok (.iconst 1, 1) := by decide +kernel
theorem dX12_day_33 : decode cX12_day 33 = .ok (.ireturn, 1) := by decide +kernel
theorem dX12_sun_0 : decode cX12_sun 0 = .ok (.iload_n 1, 1) := by decide +kernel
theorem dX12_sun_1 : decode cX12_sun 1 = .ok (.iconst 0, 1) := by decide +kernel
theorem dX12_sun_2 : decode cX12_sun 2 = .ok (.iconst 3, 1) := by decide +kernel
theorem dX12_sun_3 : decode cX12_sun 3 = .ok (.invokestatic 140, 3) := by decide +kernel
theorem dX12_sun_6 : decode cX12_sun 6 = .ok (.ifCond .eq 13, 3) := by decide +kernel
theorem dX12_sun_9 : decode cX12_sun 9 = .ok (.iload_n 2, 1) := by decide +kernel
theorem dX12_sun_10 : decode cX12_sun 10 = .ok (.iconst 0, 1) := by decide +kernel
theorem dX12_sun_11 : decode cX12_sun 11 = .ok (.bipush 12, 2) := by decide +kernel
theorem dX12_sun_13 : decode cX12_sun 13 = .ok (.invokestatic 140, 3) := by decide +kernel
theorem dX12_sun_16 : decode cX12_sun 16 = .ok (.ifCond .ne 5, 3) := by decide +kernel
theorem dX12_sun_19 : decode cX12_sun 19 = .ok (.iconst 0, 1) := by decide +kernel
theorem dX12_sun_20 : decode cX12_sun 20 = .ok (.ireturn, 1) := by decide +kernel
theorem dX12_sun_21 : decode cX12_sun 21 = .ok (.aload_n 0, 1) := by decide +kernel
theorem dX12_sun_22 : decode cX12_sun 22 = .ok (.getfield 23, 3) := by decide +kernel
theorem dX12_sun_25 : decode cX12_sun 25 = .ok (.iload_n 1, 1) := by decide +kernel
theorem dX12_sun_26 : decode cX12_sun 26 = .ok (.iload_n 2, 1) := by decide +kernel
theorem dX12_sun_27 : decode cX12_sun 27 = .ok (.iastore, 1) := by decide +kernel
theorem dX12_sun_28 : decode cX12_sun 28 = .ok (.aload_n 0, 1) := by decide +kernel
theorem dX12_sun_29 : decode cX12_sun 29 = .ok (.dup, 1) := by decide +kernel
theorem dX12_sun_30 : decode cX12_sun 30 = .ok (.getfield 7, 3) := by decide +kernel
theorem dX12_sun_33 : decode cX12_sun 33 = .ok (.iconst 1, 1) := by decide +kernel
theorem dX12_sun_34 : decode cX12_sun 34 = .ok (.iadd, 1) := by decide +kernel
theorem dX12_sun_35 : decode cX12_sun 35 = .ok (.putfield 7, 3) := by decide +kernel
theorem dX12_sun_38 : decode cX12_sun 38 = .ok (.iconst 1, 1) := by decide +kernel
theorem dX12_sun_39 : decode cX12_sun 39 = .ok (.ireturn, 1) := by decide +kernel
theorem dX12_scheme_0 : decode cX12_scheme 0 = .ok (.iload_n 1, 1) := by decide +kernel
theorem dX12_scheme_1 : decode cX12_scheme 1 = .ok (.iconst 0, 1) := by decide +kernel
theorem dX12_scheme_2 : decode cX12_scheme 2 = .ok (.bipush 39, 2) := by decide +kernel
theorem dX12_scheme_4 : decode cX12_scheme 4 = .ok (.invokestatic 140, 3) := by decide +kernel
theorem dX12_scheme_7 : decode cX12_scheme 7 = .ok (.ifCond .eq 12, 3) := by decide +kernel
theorem dX12_scheme_10 : decode cX12_scheme 10 = .ok (.aload_n 0, 1) := by decide +kernel
theorem dX12_scheme_11 : decode cX12_scheme 11 = .ok (.getfield 137, 3) := by decide +kernel
theorem dX12_scheme_14 : decode cX12_scheme 14 = .ok (.bipush 10, 2) := by decide +kernel
theorem dX12_scheme_16 : decode cX12_scheme 16 = .ok (.if_icmp .ne 5, 3) := by decide +kernel
theorem dX12_scheme_19 : decode cX12_scheme 19 = .ok (.iconst (-1), 1) := by decide +kernel
theorem dX12_scheme_20 : decode cX12_scheme 20 = .ok (.ireturn, 1) := by decide +kernel
theorem dX12_scheme_21 : decode cX12_scheme 21 = .ok (.aload_n 0, 1) := by decide +kernel
theorem dX12_scheme_22 : decode cX12_scheme 22 = .ok (.getfield 17, 3) := by decide +kernel
theorem dX12_scheme_25 : decode cX12_scheme 25 = .ok (.aload_n 0, 1) := by decide +kernel
theorem dX12_scheme_26 : decode cX12_scheme 26 = .ok (.getfield 137, 3) := by decide +kernel
theorem dX12_scheme_29 : decode cX12_scheme 29 = .ok (.iload_n 1, 1) := by decide +kernel
theorem dX12_scheme_30 : decode cX12_scheme 30 = .ok (.iastore, 1) := by decide +kernel
theorem dX12_scheme_31 : decode cX12_scheme 31 = .ok (.aload_n 0, 1) := by decide +kernel
theorem dX12_scheme_32 : decode cX12_scheme 32 = .ok (.getfield 20, 3) := by decide +kernel
theorem dX12_scheme_35 : decode cX12_scheme 35 = .ok (.aload_n 0, 1) := by decide +kernel
theorem dX12_scheme_36 : decode cX12_scheme 36 = .ok (.getfield 137, 3) := by decide +kernel
theorem dX12_scheme_39 : decode cX12_scheme 39 = .ok (.iconst (-1), 1) := by decide +kernel
theorem dX12_scheme_40 : decode cX12_scheme 40 = .ok (.iastore, 1) := by decide +kernel
theorem dX12_scheme_41 : decode cX12_scheme 41 = .ok (.aload_n 0, 1) := by decide +kernel
theorem dX12_scheme_42 : decode cX12_scheme 42 = .ok (.dup, 1) := by decide +kernel
theorem dX12_scheme_43 : decode cX12_scheme 43 = .ok (.getfield 137, 3) := by decide +kernel
theorem dX12_scheme_46 : decode cX12_scheme 46 = .ok (.iconst 1, 1) := by decide +kernel
theorem dX12_scheme_47 : decode cX12_scheme 47 = .ok (.iadd, 1) := by decide +kernel
theorem dX12_scheme_48 : decode cX12_scheme 48 = .ok (.putfield 137, 3) := by decide +kernel
theorem dX12_scheme_51 : decode cX12_scheme 51 = .ok (.aload_n 0, 1) := by decide +kernel
theorem dX12_scheme_52 : decode cX12_scheme 52 = .ok (.getfield 137, 3) := by decide +kernel
theorem dX12_scheme_55 : decode cX12_scheme 55 = .ok (.iconst 1, 1) := by decide +kernel
theorem dX12_scheme_56 : decode cX12_scheme 56 = .ok (.isub, 1) := by decide +kernel
theorem dX12_scheme_57 : decode cX12_scheme 57 = .ok (.ireturn, 1) := by decide +kernel
theorem dX12_draw_0 : decode cX12_draw 0 = .ok (.aload_n 0, 1) := by decide +kernel
theorem dX12_draw_1 : decode cX12_draw 1 = .ok (.iload_n 1, 1) := by decide +kernel
theorem dX12_draw_2 : decode cX12_draw 2 = .ok (.invokevirtual 147, 3) := by decide +kernel
theorem dX12_draw_5 : decode cX12_draw 5 = .ok (.ifCond .eq 58, 3) := by decide +kernel
theorem dX12_draw_8 : decode cX12_draw 8 = .ok (.iload_n 2, 1) := by decide +kernel
theorem dX12_draw_9 : decode cX12_draw 9 = .ok (.iload_n 3, 1) := by decide +kernel
theorem dX12_draw_10 : decode cX12_draw 10 = .ok (.iload 4, 2) := by decide +kernel
theorem dX12_draw_12 : decode cX12_draw 12 = .ok (.invokestatic 151, 3) := by decide +kernel
theorem dX12_draw_15 : decode cX12_draw 15 = .ok (.ifCond .eq 48, 3) := by decide +kernel
theorem dX12_draw_18 : decode cX12_draw 18 = .ok (.iload_n 2, 1) := by decide +kernel
theorem dX12_draw_19 : decode cX12_draw 19 = .ok (.iload 5, 2) := by decide +kernel
theorem dX12_draw_21 : decode cX12_draw 21 = .ok (.iload 6, 2) := by decide +kernel
theorem dX12_draw_23 : decode cX12_draw 23 = .ok (.invokestatic 151, 3) := by decide +kernel
theorem dX12_draw_26 : decode cX12_draw 26 = .ok (.ifCond .eq 37, 3) := by decide +kernel
theorem dX12_draw_29 : decode cX12_draw 29 = .ok (.iload_n 3, 1) := by decide +kernel
theorem dX12_draw_30 : decode cX12_draw 30 = .ok (.iload 5, 2) := by decide +kernel
theorem dX12_draw_32 : decode cX12_draw 32 = .ok (.if_icmp .gt 31, 3) := by decide +kernel
theorem dX12_draw_35 : decode cX12_draw 35 = .ok (.iload 4, 2) := by decide +kernel
theorem dX12_draw_37 : decode cX12_draw 37 = .ok (.iload 6, 2) := by decide +kernel
theorem dX12_draw_39 : decode cX12_draw 39 = .ok (.if_icmp .gt 24, 3) := by decide +kernel
theorem dX12_draw_42 : decode cX12_draw 42 = .ok (.iload 7, 2) := by decide +kernel
theorem dX12_draw_44 : decode cX12_draw 44 = .ok (.iconst 0, 1) := by decide +kernel
theorem dX12_draw_45 : decode cX12_draw 45 = .ok (.bipush 14, 2) := by decide +kernel
theorem dX12_draw_47 : decode cX12_draw 47 = .ok (.invokestatic 140, 3) := by decide +kernel
theorem dX12_draw_50 : decode cX12_draw 50 = .ok (.ifCond .eq 13, 3) := by decide +kernel
theorem dX12_draw_53 : decode cX12_draw 53 = .ok (.aload_n 0, 1) := by decide +kernel
theorem dX12_draw_54 : decode cX12_draw 54 = .ok (.getfield 20, 3) := by decide +kernel
theorem dX12_draw_57 : decode cX12_draw 57 = .ok (.iload_n 1, 1) := by decide +kernel
theorem dX12_draw_58 : decode cX12_draw 58 = .ok (.iaload, 1) := by decide +kernel
theorem dX12_draw_59 : decode cX12_draw 59 = .ok (.iconst (-1), 1) := by decide +kernel
theorem dX12_draw_60 : decode cX12_draw 60 = .ok (.if_icmp .eq 5, 3) := by decide +kernel
theorem dX12_draw_63 : decode cX12_draw 63 = .ok (.iconst 0, 1) := by decide +kernel
theorem dX12_draw_64 : decode cX12_draw 64 = .ok (.ireturn, 1) := by decide +kernel
theorem dX12_draw_65 : decode cX12_draw 65 = .ok (.iload 4, 2) := by decide +kernel
theorem dX12_draw_67 : decode cX12_draw 67 = .ok (.istore 8, 2) := by decide +kernel
theorem dX12_draw_69 : decode cX12_draw 69 = .ok (.iload 8, 2) := by decide +kernel
theorem dX12_draw_71 : decode cX12_draw 71 = .ok (.iload 6, 2) := by decide +kernel
theorem dX12_draw_73 : decode cX12_draw 73 = .ok (.if_icmp .gt 46, 3) := by decide +kernel
theorem dX12_draw_76 : decode cX12_draw 76 = .ok (.iload_n 3, 1) := by decide +kernel
theorem dX12_draw_77 : decode cX12_draw 77 = .ok (.istore 9, 2) := by decide +kernel
theorem dX12_draw_79 : decode cX12_draw 79 = .ok (.iload 9, 2) := by decide +kernel
theorem dX12_draw_81 : decode cX12_draw 81 = .ok (.iload 5, 2) := by decide +kernel
theorem dX12_draw_83 : decode cX12_draw 83 = .ok (.if_icmp .gt 30, 3) := by decide +kernel
theorem dX12_draw_86 : decode cX12_draw 86 = .ok (.aload_n 0, 1) := by decide +kernel
theorem dX12_draw_87 : decode cX12_draw 87 = .ok (.getfield 13, 3) := by decide +kernel
theorem dX12_draw_90 : decode cX12_draw 90 = .ok (.sipush 160, 3) := by decide +kernel
theorem dX12_draw_93 : decode cX12_draw 93 = .ok (.iload_n 1, 1) := by decide +kernel
theorem dX12_draw_94 : decode cX12_draw 94 = .ok (.imul, 1) := by decide +kernel
theorem dX12_draw_95 : decode cX12_draw 95 = .ok (.iload_n 2, 1) := by decide +kernel
theorem dX12_draw_96 : decode cX12_draw 96 = .ok (.iload 9, 2) := by decide +kernel
theorem dX12_draw_98 : decode cX12_draw 98 = .ok (.iload 8, 2) := by decide +kernel
theorem dX12_draw_100 : decode cX12_draw 100 = .ok (.invokestatic 154, 3) := by decide +kernel
theorem dX12_draw_103 : decode cX12_draw 103 = .ok (.iadd, 1) := by decide +kernel
theorem dX12_draw_104 : decode cX12_draw 104 = .ok (.iload 7, 2) := by decide +kernel
theorem dX12_draw_106 : decode cX12_draw 106 = .ok (.iastore, 1) := by decide +kernel
theorem dX12_draw_107 : decode cX12_draw 107 = .ok (.iinc 9 1, 3) := by decide +kernel
theorem dX12_draw_110 : decode cX12_draw 110 = .ok (.goto (-31), 3) := by decide +kernel
theorem dX12_draw_113 : decode cX12_draw 113 = .ok (.iinc 8 1, 3) := by decide +kernel
theorem dX12_draw_116 : decode cX12_draw 116 = .ok (.goto (-47), 3) := by decide +kernel
theorem dX12_draw_119 : decode cX12_draw 119 = .ok (.aload_n 0, 1) := by decide +kernel
theorem dX12_draw_120 : decode cX12_draw 120 = .ok (.dup, 1) := by decide +kernel
theorem dX12_draw_121 : decode cX12_draw 121 = .ok (.getfield 7, 3) := by decide +kernel
theorem dX12_draw_124 : decode cX12_draw 124 = .ok (.iconst 1, 1) := by decide +kernel
theorem dX12_draw_125 : decode cX12_draw 125 = .ok (.iadd, 1) := by decide +kernel
theorem dX12_draw_126 : decode cX12_draw 126 = .ok (.putfield 7, 3) := by decide +kernel
theorem dX12_draw_129 : decode cX12_draw 129 = .ok (.iconst 1, 1) := by decide +kernel
theorem dX12_draw_130 : decode cX12_draw 130 = .ok (.ireturn, 1) := by decide +kernel
theorem dX12_cell_0 : decode cX12_cell 0 = .ok (.aload_n 0, 1) := by decide +kernel
theorem dX12_cell_1 : decode cX12_cell 1 = .ok (.iload_n 1, 1) := by decide +kernel
theorem dX12_cell_2 : decode cX12_cell 2 = .ok (.invokevirtual 147, 3) := by decide +kernel
theorem dX12_cell_5 : decode cX12_cell 5 = .ok (.ifCond .eq 34, 3) := by decide +kernel
theorem dX12_cell_8 : decode cX12_cell 8 = .ok (.iload_n 2, 1) := by decide +kernel
theorem dX12_cell_9 : decode cX12_cell 9 = .ok (.iload_n 3, 1) := by decide +kernel
theorem dX12_cell_10 : decode cX12_cell 10 = .ok (.iload 4, 2) := by decide +kernel
theorem dX12_cell_12 : decode cX12_cell 12 = .ok (.invokestatic 151, 3) := by decide +kernel
theorem dX12_cell_15 : decode cX12_cell 15 = .ok (.ifCond .eq 24, 3) := by decide +kernel
theorem dX12_cell_18 : decode cX12_cell 18 = .ok (.aload_n 0, 1) := by decide +kernel
theorem dX12_cell_19 : decode cX12_cell 19 = .ok (.getfield 13, 3) := by decide +kernel
theorem dX12_cell_22 : decode cX12_cell 22 = .ok (.sipush 160, 3) := by decide +kernel
theorem dX12_cell_25 : decode cX12_cell 25 = .ok (.iload_n 1, 1) := by decide +kernel
theorem dX12_cell_26 : decode cX12_cell 26 = .ok (.imul, 1) := by decide +kernel
theorem dX12_cell_27 : decode cX12_cell 27 = .ok (.iload_n 2, 1) := by decide +kernel
theorem dX12_cell_28 : decode cX12_cell 28 = .ok (.iload_n 3, 1) := by decide +kernel
theorem dX12_cell_29 : decode cX12_cell 29 = .ok (.iload 4, 2) := by decide +kernel
theorem dX12_cell_31 : decode cX12_cell 31 = .ok (.invokestatic 154, 3) := by decide +kernel
theorem dX12_cell_34 : decode cX12_cell 34 = .ok (.iadd, 1) := by decide +kernel
theorem dX12_cell_35 : decode cX12_cell 35 = .ok (.iaload, 1) := by decide +kernel
theorem dX12_cell_36 : decode cX12_cell 36 = .ok (.goto 4, 3) := by decide +kernel
theorem dX12_cell_39 : decode cX12_cell 39 = .ok (.iconst (-1), 1) := by decide +kernel
theorem dX12_cell_40 : decode cX12_cell 40 = .ok (.ireturn, 1) := by decide +kernel
theorem dX12_hand_0 : decode cX12_hand 0 = .ok (.aload_n 0, 1) := by decide +kernel
theorem dX12_hand_1 : decode cX12_hand 1 = .ok (.iload_n 1, 1) := by decide +kernel
theorem dX12_hand_2 : decode cX12_hand 2 = .ok (.invokevirtual 147, 3) := by decide +kernel
theorem dX12_hand_5 : decode cX12_hand 5 = .ok (.ifCond .eq 13, 3) := by decide +kernel
theorem dX12_hand_8 : decode cX12_hand 8 = .ok (.aload_n 0, 1) := by decide +kernel
theorem dX12_hand_9 : decode cX12_hand 9 = .ok (.getfield 20, 3) := by decide +kernel
theorem dX12_hand_12 : decode cX12_hand 12 = .ok (.iload_n 1, 1) := by decide +kernel
theorem dX12_hand_13 : decode cX12_hand 13 = .ok (.iaload, 1) := by decide +kernel
theorem dX12_hand_14 : decode cX12_hand 14 = .ok (.iconst (-1), 1) := by decide +kernel
theorem dX12_hand_15 : decode cX12_hand 15 = .ok (.if_icmp .eq 5, 3) := by decide +kernel
theorem dX12_hand_18 : decode cX12_hand 18 = .ok (.iconst 0, 1) := by decide +kernel
theorem dX12_hand_19 : decode cX12_hand 19 = .ok (.ireturn, 1) := by decide +kernel
theorem dX12_hand_20 : decode cX12_hand 20 = .ok (.aload_n 0, 1) := by decide +kernel
theorem dX12_hand_21 : decode cX12_hand 21 = .ok (.getfield 20, 3) := by decide +kernel
theorem dX12_hand_24 : decode cX12_hand 24 = .ok (.iload_n 1, 1) := by decide +kernel
theorem dX12_hand_25 : decode cX12_hand 25 = .ok (.aload_n 0, 1) := by decide +kernel
theorem dX12_hand_26 : decode cX12_hand 26 = .ok (.getfield 144, 3) := by decide +kernel
theorem dX12_hand_29 : decode cX12_hand 29 = .ok (.iastore, 1) := by decide +kernel
theorem dX12_hand_30 : decode cX12_hand 30 = .ok (.aload_n 0, 1) := by decide +kernel
theorem dX12_hand_31 : decode cX12_hand 31 = .ok (.dup, 1) := by decide +kernel
theorem dX12_hand_32 : decode cX12_hand 32 = .ok (.getfield 7, 3) := by decide +kernel
theorem dX12_hand_35 : decode cX12_hand 35 = .ok (.iconst 1, 1) := by decide +kernel
theorem dX12_hand_36 : decode cX12_hand 36 = .ok (.iadd, 1) := by decide +kernel
theorem dX12_hand_37 : decode cX12_hand 37 = .ok (.putfield 7, 3) := by decide +kernel
theorem dX12_hand_40 : decode cX12_hand 40 = .ok (.iconst 1, 1) := by decide +kernel
theorem dX12_hand_41 : decode cX12_hand 41 = .ok (.ireturn, 1) := by decide +kernel
theorem dX12_beside_0 : decode cX12_beside 0 = .ok (.iload_n 0, 1) := by decide +kernel
theorem dX12_beside_1 : decode cX12_beside 1 = .ok (.bipush 10, 2) := by decide +kernel
theorem dX12_beside_3 : decode cX12_beside 3 = .ok (.irem, 1) := by decide +kernel
theorem dX12_beside_4 : decode cX12_beside 4 = .ok (.iload_n 1, 1) := by decide +kernel
theorem dX12_beside_5 : decode cX12_beside 5 = .ok (.iconst 1, 1) := by decide +kernel
theorem dX12_beside_6 : decode cX12_beside 6 = .ok (.if_icmp .ne 7, 3) := by decide +kernel
theorem dX12_beside_9 : decode cX12_beside 9 = .ok (.iconst 1, 1) := by decide +kernel
theorem dX12_beside_10 : decode cX12_beside 10 = .ok (.goto 13, 3) := by decide +kernel
theorem dX12_beside_13 : decode cX12_beside 13 = .ok (.iload_n 1, 1) := by decide +kernel
theorem dX12_beside_14 : decode cX12_beside 14 = .ok (.iconst 3, 1) := by decide +kernel
theorem dX12_beside_15 : decode cX12_beside 15 = .ok (.if_icmp .ne 7, 3) := by decide +kernel
theorem dX12_beside_18 : decode cX12_beside 18 = .ok (.iconst (-1), 1) := by decide +kernel
theorem dX12_beside_19 : decode cX12_beside 19 = .ok (.goto 4, 3) := by decide +kernel
theorem dX12_beside_22 : decode cX12_beside 22 = .ok (.iconst 0, 1) := by decide +kernel
theorem dX12_beside_23 : decode cX12_beside 23 = .ok (.iadd, 1) := by decide +kernel
theorem dX12_beside_24 : decode cX12_beside 24 = .ok (.istore_n 2, 1) := by decide +kernel
theorem dX12_beside_25 : decode cX12_beside 25 = .ok (.iload_n 0, 1) := by decide +kernel
theorem dX12_beside_26 : decode cX12_beside 26 = .ok (.bipush 80, 2) := by decide +kernel
theorem dX12_beside_28 : decode cX12_beside 28 = .ok (.irem, 1) := by decide +kernel
theorem dX12_beside_29 : decode cX12_beside 29 = .ok (.bipush 10, 2) := by decide +kernel
theorem dX12_beside_31 : decode cX12_beside 31 = .ok (.idiv, 1) := by decide +kernel
theorem dX12_beside_32 : decode cX12_beside 32 = .ok (.iload_n 1, 1) := by decide +kernel
theorem dX12_beside_33 : decode cX12_beside 33 = .ok (.ifCond .ne 7, 3) := by decide +kernel
theorem dX12_beside_36 : decode cX12_beside 36 = .ok (.iconst (-1), 1) := by decide +kernel
theorem dX12_beside_37 : decode cX12_beside 37 = .ok (.goto 13, 3) := by decide +kernel
theorem dX12_beside_40 : decode cX12_beside 40 = .ok (.iload_n 1, 1) := by decide +kernel
theorem dX12_beside_41 : decode cX12_beside 41 = .ok (.iconst 2, 1) := by decide +kernel
theorem dX12_beside_42 : decode cX12_beside 42 = .ok (.if_icmp .ne 7, 3) := by decide +kernel
theorem dX12_beside_45 : decode cX12_beside 45 = .ok (.iconst 1, 1) := by decide +kernel
theorem dX12_beside_46 : decode cX12_beside 46 = .ok (.goto 4, 3) := by decide +kernel
theorem dX12_beside_49 : decode cX12_beside 49 = .ok (.iconst 0, 1) := by decide +kernel
theorem dX12_beside_50 : decode cX12_beside 50 = .ok (.iadd, 1) := by decide +kernel
theorem dX12_beside_51 : decode cX12_beside 51 = .ok (.istore_n 3, 1) := by decide +kernel
theorem dX12_beside_52 : decode cX12_beside 52 = .ok (.iload_n 2, 1) := by decide +kernel
theorem dX12_beside_53 : decode cX12_beside 53 = .ok (.iconst 0, 1) := by decide +kernel
theorem dX12_beside_54 : decode cX12_beside 54 = .ok (.bipush 9, 2) := by decide +kernel
theorem dX12_beside_56 : decode cX12_beside 56 = .ok (.invokestatic 140, 3) := by decide +kernel
theorem dX12_beside_59 : decode cX12_beside 59 = .ok (.ifCond .eq 25, 3) := by decide +kernel
theorem dX12_beside_62 : decode cX12_beside 62 = .ok (.iload_n 3, 1) := by decide +kernel
theorem dX12_beside_63 : decode cX12_beside 63 = .ok (.iconst 0, 1) := by decide +kernel
theorem dX12_beside_64 : decode cX12_beside 64 = .ok (.bipush 7, 2) := by decide +kernel
theorem dX12_beside_66 : decode cX12_beside 66 = .ok (.invokestatic 140, 3) := by decide +kernel
theorem dX12_beside_69 : decode cX12_beside 69 = .ok (.ifCond .eq 15, 3) := by decide +kernel
theorem dX12_beside_72 : decode cX12_beside 72 = .ok (.iload_n 0, 1) := by decide +kernel
theorem dX12_beside_73 : decode cX12_beside 73 = .ok (.bipush 80, 2) := by decide +kernel
theorem dX12_beside_75 : decode cX12_beside 75 = .ok (.idiv, 1) := by decide +kernel
theorem dX12_beside_76 : decode cX12_beside 76 = .ok (.iload_n 2, 1) := by decide +kernel
theorem dX12_beside_77 : decode cX12_beside 77 = .ok (.iload_n 3, 1) := by decide +kernel
theorem dX12_beside_78 : decode cX12_beside 78 = .ok (.invokestatic 154, 3) := by decide +kernel
theorem dX12_beside_81 : decode cX12_beside 81 = .ok (.goto 4, 3) := by decide +kernel
theorem dX12_beside_84 : decode cX12_beside 84 = .ok (.iconst (-1), 1) := by decide +kernel
theorem dX12_beside_85 : decode cX12_beside 85 = .ok (.ireturn, 1) := by decide +kernel
theorem dX12_at_0 : decode cX12_at 0 = .ok (.aload_n 0, 1) := by decide +kernel
theorem dX12_at_1 : decode cX12_at 1 = .ok (.getfield 13, 3) := by decide +kernel
theorem dX12_at_4 : decode cX12_at 4 = .ok (.sipush 160, 3) := by decide +kernel
theorem dX12_at_7 : decode cX12_at 7 = .ok (.iload_n 1, 1) := by decide +kernel
theorem dX12_at_8 : decode cX12_at 8 = .ok (.imul, 1) := by decide +kernel
theorem dX12_at_9 : decode cX12_at 9 = .ok (.iload_n 2, 1) := by decide +kernel
theorem dX12_at_10 : decode cX12_at 10 = .ok (.iadd, 1) := by decide +kernel
theorem dX12_at_11 : decode cX12_at 11 = .ok (.iaload, 1) := by decide +kernel
theorem dX12_at_12 : decode cX12_at 12 = .ok (.ireturn, 1) := by decide +kernel
theorem dX12_manyOf_0 : decode cX12_manyOf 0 = .ok (.iconst 0, 1) := by decide +kernel
theorem dX12_manyOf_1 : decode cX12_manyOf 1 = .ok (.istore_n 3, 1) := by decide +kernel
theorem dX12_manyOf_2 : decode cX12_manyOf 2 = .ok (.iconst 0, 1) := by decide +kernel
theorem dX12_manyOf_3 : decode cX12_manyOf 3 = .ok (.istore 4, 2) := by decide +kernel
theorem dX12_manyOf_5 : decode cX12_manyOf 5 = .ok (.iload 4, 2) := by decide +kernel
theorem dX12_manyOf_7 : decode cX12_manyOf 7 = .ok (.sipush 160, 3) := by decide +kernel
theorem dX12_manyOf_10 : decode cX12_manyOf 10 = .ok (.if_icmp .ge 31, 3) := by decide +kernel
theorem dX12_manyOf_13 : decode cX12_manyOf 13 = .ok (.iload_n 3, 1) := by decide +kernel
theorem dX12_manyOf_14 : decode cX12_manyOf 14 = .ok (.aload_n 0, 1) := by decide +kernel
theorem dX12_manyOf_15 : decode cX12_manyOf 15 = .ok (.iload_n 1, 1) := by decide +kernel
theorem dX12_manyOf_16 : decode cX12_manyOf 16 = .ok (.iload 4, 2) := by decide +kernel
theorem dX12_manyOf_18 : decode cX12_manyOf 18 = .ok (.invokevirtual 158, 3) := by decide +kernel
theorem dX12_manyOf_21 : decode cX12_manyOf 21 = .ok (.iload_n 2, 1) := by decide +kernel
theorem dX12_manyOf_22 : decode cX12_manyOf 22 = .ok (.if_icmp .ne 7, 3) := by decide +kernel
theorem dX12_manyOf_25 : decode cX12_manyOf 25 = .ok (.iconst 1, 1) := by decide +kernel
theorem dX12_manyOf_26 : decode cX12_manyOf 26 = .ok (.goto 4, 3) := by decide +kernel
theorem dX12_manyOf_29 : decode cX12_manyOf 29 = .ok (.iconst 0, 1) := by decide +kernel
theorem dX12_manyOf_30 : decode cX12_manyOf 30 = .ok (.invokestatic 162, 3) := by decide +kernel
theorem dX12_manyOf_33 : decode cX12_manyOf 33 = .ok (.iadd, 1) := by decide +kernel
theorem dX12_manyOf_34 : decode cX12_manyOf 34 = .ok (.istore_n 3, 1) := by decide +kernel
theorem dX12_manyOf_35 : decode cX12_manyOf 35 = .ok (.iinc 4 1, 3) := by decide +kernel
theorem dX12_manyOf_38 : decode cX12_manyOf 38 = .ok (.goto (-33), 3) := by decide +kernel
theorem dX12_manyOf_41 : decode cX12_manyOf 41 = .ok (.iload_n 3, 1) := by decide +kernel
theorem dX12_manyOf_42 : decode cX12_manyOf 42 = .ok (.ireturn, 1) := by decide +kernel
theorem dX12_lightOf_0 : decode cX12_lightOf 0 = .ok (.iconst 0, 1) := by decide +kernel
theorem dX12_lightOf_1 : decode cX12_lightOf 1 = .ok (.istore_n 3, 1) := by decide +kernel
theorem dX12_lightOf_2 : decode cX12_lightOf 2 = .ok (.iconst 0, 1) := by decide +kernel
theorem dX12_lightOf_3 : decode cX12_lightOf 3 = .ok (.istore 4, 2) := by decide +kernel
theorem dX12_lightOf_5 : decode cX12_lightOf 5 = .ok (.iload 4, 2) := by decide +kernel
theorem dX12_lightOf_7 : decode cX12_lightOf 7 = .ok (.sipush 160, 3) := by decide +kernel
theorem dX12_lightOf_10 : decode cX12_lightOf 10 = .ok (.if_icmp .ge 76, 3) := by decide +kernel
theorem dX12_lightOf_13 : decode cX12_lightOf 13 = .ok (.aload_n 0, 1) := by decide +kernel
theorem dX12_lightOf_14 : decode cX12_lightOf 14 = .ok (.iload_n 1, 1) := by decide +kernel
theorem dX12_lightOf_15 : decode cX12_lightOf 15 = .ok (.iload 4, 2) := by decide +kernel
theorem dX12_lightOf_17 : decode cX12_lightOf 17 = .ok (.invokevirtual 158, 3) := by decide +kernel
theorem dX12_lightOf_20 : decode cX12_lightOf 20 = .ok (.iload_n 2, 1) := by decide +kernel
theorem dX12_lightOf_21 : decode cX12_lightOf 21 = .ok (.if_icmp .eq 6, 3) := by decide +kernel
theorem dX12_lightOf_24 : decode cX12_lightOf 24 = .ok (.goto 56, 3) := by decide +kernel
theorem dX12_lightOf_27 : decode cX12_lightOf 27 = .ok (.iconst 0, 1) := by decide +kernel
theorem dX12_lightOf_28 : decode cX12_lightOf 28 = .ok (.istore 5, 2) := by decide +kernel
theorem dX12_lightOf_30 : decode cX12_lightOf 30 = .ok (.iload 5, 2) := by decide +kernel
theorem dX12_lightOf_32 : decode cX12_lightOf 32 = .ok (.iconst 4, 1) := by decide +kernel
theorem dX12_lightOf_33 : decode cX12_lightOf 33 = .ok (.if_icmp .ge 47, 3) := by decide +kernel
theorem dX12_lightOf_36 : decode cX12_lightOf 36 = .ok (.iload 4, 2) := by decide +kernel
theorem dX12_lightOf_38 : decode cX12_lightOf 38 = .ok (.iload 5, 2) := by decide +kernel
theorem dX12_lightOf_40 : decode cX12_lightOf 40 = .ok (.invokestatic 166, 3) := by decide +kernel
theorem dX12_lightOf_43 : decode cX12_lightOf 43 = .ok (.iconst (-1), 1) := by decide +kernel
theorem dX12_lightOf_44 : decode cX12_lightOf 44 = .ok (.if_icmp .eq 18, 3) := by decide +kernel
theorem dX12_lightOf_47 : decode cX12_lightOf 47 = .ok (.aload_n 0, 1) := by decide +kernel
theorem dX12_lightOf_48 : decode cX12_lightOf 48 = .ok (.iload_n 1, 1) := by decide +kernel
theorem dX12_lightOf_49 : decode cX12_lightOf 49 = .ok (.iload 4, 2) := by decide +kernel
theorem dX12_lightOf_51 : decode cX12_lightOf 51 = .ok (.iload 5, 2) := by decide +kernel
theorem dX12_lightOf_53 : decode cX12_lightOf 53 = .ok (.invokestatic 166, 3) := by decide +kernel
theorem dX12_lightOf_56 : decode cX12_lightOf 56 = .ok (.invokevirtual 158, 3) := by decide +kernel
theorem dX12_lightOf_59 : decode cX12_lightOf 59 = .ok (.ifCond .ne 15, 3) := by decide +kernel
theorem dX12_lightOf_62 : decode cX12_lightOf 62 = .ok (.iload_n 3, 1) := by decide +kernel
theorem dX12_lightOf_63 : decode cX12_lightOf 63 = .ok (.aload_n 0, 1) := by decide +kernel
theorem dX12_lightOf_64 : decode cX12_lightOf 64 = .ok (.getfield 23, 3) := by decide +kernel
theorem dX12_lightOf_67 : decode cX12_lightOf 67 = .ok (.iload 5, 2) := by decide +kernel
theorem dX12_lightOf_69 : decode cX12_lightOf 69 = .ok (.iaload, 1) := by decide +kernel
theorem dX12_lightOf_70 : decode cX12_lightOf 70 = .ok (.invokestatic 169, 3) := by decide +kernel
theorem dX12_lightOf_73 : decode cX12_lightOf 73 = .ok (.istore_n 3, 1) := by decide +kernel
theorem dX12_lightOf_74 : decode cX12_lightOf 74 = .ok (.iinc 5 1, 3) := by decide +kernel
theorem dX12_lightOf_77 : decode cX12_lightOf 77 = .ok (.goto (-47), 3) := by decide +kernel
theorem dX12_lightOf_80 : decode cX12_lightOf 80 = .ok (.iinc 4 1, 3) := by decide +kernel
theorem dX12_lightOf_83 : decode cX12_lightOf 83 = .ok (.goto (-78), 3) := by decide +kernel
theorem dX12_lightOf_86 : decode cX12_lightOf 86 = .ok (.iload_n 3, 1) := by decide +kernel
theorem dX12_lightOf_87 : decode cX12_lightOf 87 = .ok (.ireturn, 1) := by decide +kernel
theorem dX12_isRoom_0 : decode cX12_isRoom 0 = .ok (.iload_n 0, 1) := by decide +kernel
theorem dX12_isRoom_1 : decode cX12_isRoom 1 = .ok (.iconst 1, 1) := by decide +kernel
theorem dX12_isRoom_2 : decode cX12_isRoom 2 = .ok (.bipush 12, 2) := by decide +kernel
theorem dX12_isRoom_4 : decode cX12_isRoom 4 = .ok (.invokestatic 140, 3) := by decide +kernel
theorem dX12_isRoom_7 : decode cX12_isRoom 7 = .ok (.ireturn, 1) := by decide +kernel
theorem dX12_room_0 : decode cX12_room 0 = .ok (.aload_n 0, 1) := by decide +kernel
theorem dX12_room_1 : decode cX12_room 1 = .ok (.iload_n 1, 1) := by decide +kernel
theorem dX12_room_2 : decode cX12_room 2 = .ok (.invokevirtual 147, 3) := by decide +kernel
theorem dX12_room_5 : decode cX12_room 5 = .ok (.ifCond .eq 19, 3) := by decide +kernel
theorem dX12_room_8 : decode cX12_room 8 = .ok (.iload_n 2, 1) := by decide +kernel
theorem dX12_room_9 : decode cX12_room 9 = .ok (.invokestatic 174, 3) := by decide +kernel
theorem dX12_room_12 : decode cX12_room 12 = .ok (.ifCond .eq 12, 3) := by decide +kernel
theorem dX12_room_15 : decode cX12_room 15 = .ok (.iload_n 3, 1) := by decide +kernel
theorem dX12_room_16 : decode cX12_room 16 = .ok (.iconst 0, 1) := by decide +kernel
theorem dX12_room_17 : decode cX12_room 17 = .ok (.iconst 1, 1) := by decide +kernel
theorem dX12_room_18 : decode cX12_room 18 = .ok (.invokestatic 140, 3) := by decide +kernel
theorem dX12_room_21 : decode cX12_room 21 = .ok (.ifCond .ne 5, 3) := by decide +kernel
theorem dX12_room_24 : decode cX12_room 24 = .ok (.iconst (-1), 1) := by decide +kernel
theorem dX12_room_25 : decode cX12_room 25 = .ok (.ireturn, 1) := by decide +kernel
theorem dX12_room_26 : decode cX12_room 26 = .ok (.iload_n 3, 1) := by decide +kernel
theorem dX12_room_27 : decode cX12_room 27 = .ok (.ifCond .ne 12, 3) := by decide +kernel
theorem dX12_room_30 : decode cX12_room 30 = .ok (.aload_n 0, 1) := by decide +kernel
theorem dX12_room_31 : decode cX12_room 31 = .ok (.iload_n 1, 1) := by decide +kernel
theorem dX12_room_32 : decode cX12_room 32 = .ok (.iload_n 2, 1) := by decide +kernel
theorem dX12_room_33 : decode cX12_room 33 = .ok (.invokevirtual 177, 3) := by decide +kernel
theorem dX12_room_36 : decode cX12_room 36 = .ok (.goto 9, 3) := by decide +kernel
theorem dX12_room_39 : decode cX12_room 39 = .ok (.aload_n 0, 1) := by decide +kernel
theorem dX12_room_40 : decode cX12_room 40 = .ok (.iload_n 1, 1) := by decide +kernel
theorem dX12_room_41 : decode cX12_room 41 = .ok (.iload_n 2, 1) := by decide +kernel
theorem dX12_room_42 : decode cX12_room 42 = .ok (.invokevirtual 180, 3) := by decide +kernel
theorem dX12_room_45 : decode cX12_room 45 = .ok (.ireturn, 1) := by decide +kernel
theorem dX12_comes_0 : decode cX12_comes 0 = .ok (.aload_n 0, 1) := by decide +kernel
theorem dX12_comes_1 : decode cX12_comes 1 = .ok (.getfield 26, 3) := by decide +kernel
theorem dX12_comes_4 : decode cX12_comes 4 = .ok (.iload_n 1, 1) := by decide +kernel
theorem dX12_comes_5 : decode cX12_comes 5 = .ok (.iaload, 1) := by decide +kernel
theorem dX12_comes_6 : decode cX12_comes 6 = .ok (.iconst (-1), 1) := by decide +kernel
theorem dX12_comes_7 : decode cX12_comes 7 = .ok (.if_icmp .eq 4, 3) := by decide +kernel
theorem dX12_comes_10 : decode cX12_comes 10 = .ok (.return_, 1) := by decide +kernel
theorem dX12_comes_11 : decode cX12_comes 11 = .ok (.aload_n 0, 1) := by decide +kernel
theorem dX12_comes_12 : decode cX12_comes 12 = .ok (.getfield 26, 3) := by decide +kernel
theorem dX12_comes_15 : decode cX12_comes 15 = .ok (.iload_n 1, 1) := by decide +kernel
theorem dX12_comes_16 : decode cX12_comes 16 = .ok (.iload_n 2, 1) := by decide +kernel
theorem dX12_comes_17 : decode cX12_comes 17 = .ok (.iastore, 1) := by decide +kernel
theorem dX12_comes_18 : decode cX12_comes 18 = .ok (.aload_n 0, 1) := by decide +kernel
theorem dX12_comes_19 : decode cX12_comes 19 = .ok (.getfield 29, 3) := by decide +kernel
theorem dX12_comes_22 : decode cX12_comes 22 = .ok (.aload_n 0, 1) := by decide +kernel
theorem dX12_comes_23 : decode cX12_comes 23 = .ok (.getfield 183, 3) := by decide +kernel
theorem dX12_comes_26 : decode cX12_comes 26 = .ok (.iload_n 1, 1) := by decide +kernel
theorem dX12_comes_27 : decode cX12_comes 27 = .ok (.iastore, 1) := by decide +kernel
theorem dX12_comes_28 : decode cX12_comes 28 = .ok (.aload_n 0, 1) := by decide +kernel
theorem dX12_comes_29 : decode cX12_comes 29 = .ok (.dup, 1) := by decide +kernel
theorem dX12_comes_30 : decode cX12_comes 30 = .ok (.getfield 183, 3) := by decide +kernel
theorem dX12_comes_33 : decode cX12_comes 33 = .ok (.iconst 1, 1) := by decide +kernel
theorem dX12_comes_34 : decode cX12_comes 34 = .ok (.iadd, 1) := by decide +kernel
theorem dX12_comes_35 : decode cX12_comes 35 = .ok (.putfield 183, 3) := by decide +kernel
theorem dX12_comes_38 : decode cX12_comes 38 = .ok (.return_, 1) := by decide +kernel
theorem dX12_isStep_0 : decode cX12_isStep 0 = .ok (.aload_n 0, 1) := by decide +kernel
theorem dX12_isStep_1 : decode cX12_isStep 1 = .ok (.iload_n 1, 1) := by decide +kernel
theorem dX12_isStep_2 : decode cX12_isStep 2 = .ok (.iload_n 2, 1) := by decide +kernel
theorem dX12_isStep_3 : decode cX12_isStep 3 = .ok (.invokevirtual 158, 3) := by decide +kernel
theorem dX12_isStep_6 : decode cX12_isStep 6 = .ok (.istore 4, 2) := by decide +kernel
theorem dX12_isStep_8 : decode cX12_isStep 8 = .ok (.aload_n 0, 1) := by decide +kernel
theorem dX12_isStep_9 : decode cX12_isStep 9 = .ok (.iload_n 1, 1) := by decide +kernel
theorem dX12_isStep_10 : decode cX12_isStep 10 = .ok (.iload_n 3, 1) := by decide +kernel
theorem dX12_isStep_11 : decode cX12_isStep 11 = .ok (.invokevirtual 158, 3) := by decide +kernel
theorem dX12_isStep_14 : decode cX12_isStep 14 = .ok (.istore 5, 2) := by decide +kernel
theorem dX12_isStep_16 : decode cX12_isStep 16 = .ok (.iload 4, 2) := by decide +kernel
theorem dX12_isStep_18 : decode cX12_isStep 18 = .ok (.ifCond .le 33, 3) := by decide +kernel
theorem dX12_isStep_21 : decode cX12_isStep 21 = .ok (.iload 5, 2) := by decide +kernel
theorem dX12_isStep_23 : decode cX12_isStep 23 = .ok (.ifCond .le 28, 3) := by decide +kernel
theorem dX12_isStep_26 : decode cX12_isStep 26 = .ok (.iload 4, 2) := by decide +kernel
theorem dX12_isStep_28 : decode cX12_isStep 28 = .ok (.iload 5, 2) := by decide +kernel
theorem dX12_isStep_30 : decode cX12_isStep 30 = .ok (.if_icmp .eq 17, 3) := by decide +kernel
theorem dX12_isStep_33 : decode cX12_isStep 33 = .ok (.iload 4, 2) := by decide +kernel
theorem dX12_isStep_35 : decode cX12_isStep 35 = .ok (.bipush 13, 2) := by decide +kernel
theorem dX12_isStep_37 : decode cX12_isStep 37 = .ok (.if_icmp .ge 10, 3) := by decide +kernel
theorem dX12_isStep_40 : decode cX12_isStep 40 = .ok (.iload 5, 2) := by decide +kernel
theorem dX12_isStep_42 : decode cX12_isStep 42 = .ok (.bipush 13, 2) := by decide +kernel
theorem dX12_isStep_44 : decode cX12_isStep 44 = .ok (.if_icmp .lt 7, 3) := by decide +kernel
theorem dX12_isStep_47 : decode cX12_isStep 47 = .ok (.iconst 1, 1) := by decide +kernel
theorem dX12_isStep_48 : decode cX12_isStep 48 = .ok (.goto 4, 3) := by decide +kernel
theorem dX12_isStep_51 : decode cX12_isStep 51 = .ok (.iconst 0, 1) := by decide +kernel
theorem dX12_isStep_52 : decode cX12_isStep 52 = .ok (.ireturn, 1) := by decide +kernel
theorem dX12_stepsOf_0 : decode cX12_stepsOf 0 = .ok (.aload_n 0, 1) := by decide +kernel
theorem dX12_stepsOf_1 : decode cX12_stepsOf 1 = .ok (.iconst 0, 1) := by decide +kernel
theorem dX12_stepsOf_2 : decode cX12_stepsOf 2 = .ok (.putfield 183, 3) := by decide +kernel
theorem dX12_stepsOf_5 : decode cX12_stepsOf 5 = .ok (.iconst 0, 1) := by decide +kernel
theorem dX12_stepsOf_6 : decode cX12_stepsOf 6 = .ok (.istore 4, 2) := by decide +kernel
theorem dX12_stepsOf_8 : decode cX12_stepsOf 8 = .ok (.iload 4, 2) := by decide +kernel
theorem dX12_stepsOf_10 : decode cX12_stepsOf 10 = .ok (.sipush 160, 3) := by decide +kernel
theorem dX12_stepsOf_13 : decode cX12_stepsOf 13 = .ok (.if_icmp .ge 35, 3) := by decide +kernel
theorem dX12_stepsOf_16 : decode cX12_stepsOf 16 = .ok (.aload_n 0, 1) := by decide +kernel
theorem dX12_stepsOf_17 : decode cX12_stepsOf 17 = .ok (.getfield 26, 3) := by decide +kernel
theorem dX12_stepsOf_20 : decode cX12_stepsOf 20 = .ok (.iload 4, 2) := by decide +kernel
theorem dX12_stepsOf_22 : decode cX12_stepsOf 22 = .ok (.iconst (-1), 1) := by decide +kernel
theorem dX12_stepsOf_23 : decode cX12_stepsOf 23 = .ok (.iastore, 1) := by decide +kernel
theorem dX12_stepsOf_24 : decode cX12_stepsOf 24 = .ok (.aload_n 0, 1) := by decide +kernel
theorem dX12_stepsOf_25 : decode cX12_stepsOf 25 = .ok (.iload_n 1, 1) := by decide +kernel
theorem dX12_stepsOf_26 : decode cX12_stepsOf 26 = .ok (.iload 4, 2) := by decide +kernel
theorem dX12_stepsOf_28 : decode cX12_stepsOf 28 = .ok (.invokevirtual 158, 3) := by decide +kernel
theorem dX12_stepsOf_31 : decode cX12_stepsOf 31 = .ok (.iload_n 2, 1) := by decide +kernel
theorem dX12_stepsOf_32 : decode cX12_stepsOf 32 = .ok (.if_icmp .ne 10, 3) := by decide +kernel
theorem dX12_stepsOf_35 : decode cX12_stepsOf 35 = .ok (.aload_n 0, 1) := by decide +kernel
theorem dX12_stepsOf_36 : decode cX12_stepsOf 36 = .ok (.iload 4, 2) := by decide +kernel
theorem dX12_stepsOf_38 : decode cX12_stepsOf 38 = .ok (.iconst 0, 1) := by decide +kernel
theorem dX12_stepsOf_39 : decode cX12_stepsOf 39 = .ok (.invokevirtual 186, 3) := by decide +kernel
theorem dX12_stepsOf_42 : decode cX12_stepsOf 42 = .ok (.iinc 4 1, 3) := by decide +kernel
theorem dX12_stepsOf_45 : decode cX12_stepsOf 45 = .ok (.goto (-37), 3) := by decide +kernel
theorem dX12_stepsOf_48 : decode cX12_stepsOf 48 = .ok (.iconst 0, 1) := by decide +kernel
theorem dX12_stepsOf_49 : decode cX12_stepsOf 49 = .ok (.istore 4, 2) := by decide +kernel
theorem dX12_stepsOf_51 : decode cX12_stepsOf 51 = .ok (.iload 4, 2) := by decide +kernel
theorem dX12_stepsOf_53 : decode cX12_stepsOf 53 = .ok (.aload_n 0, 1) := by decide +kernel
theorem dX12_stepsOf_54 : decode cX12_stepsOf 54 = .ok (.getfield 183, 3) := by decide +kernel
theorem dX12_stepsOf_57 : decode cX12_stepsOf 57 = .ok (.if_icmp .ge 150, 3) := by decide +kernel
theorem dX12_stepsOf_60 : decode cX12_stepsOf 60 = .ok (.aload_n 0, 1) := by decide +kernel
theorem dX12_stepsOf_61 : decode cX12_stepsOf 61 = .ok (.getfield 29, 3) := by decide +kernel
theorem dX12_stepsOf_64 : decode cX12_stepsOf 64 = .ok (.iload 4, 2) := by decide +kernel
theorem dX12_stepsOf_66 : decode cX12_stepsOf 66 = .ok (.iaload, 1) := by decide +kernel
theorem dX12_stepsOf_67 : decode cX12_stepsOf 67 = .ok (.istore 5, 2) := by decide +kernel
theorem dX12_stepsOf_69 : decode cX12_stepsOf 69 = .ok (.aload_n 0, 1) := by decide +kernel
theorem dX12_stepsOf_70 : decode cX12_stepsOf 70 = .ok (.iload_n 1, 1) := by decide +kernel
theorem dX12_stepsOf_71 : decode cX12_stepsOf 71 = .ok (.iload 5, 2) := by decide +kernel
theorem dX12_stepsOf_73 : decode cX12_stepsOf 73 = .ok (.invokevirtual 158, 3) := by decide +kernel
theorem dX12_stepsOf_76 : decode cX12_stepsOf 76 = .ok (.iload_n 3, 1) := by decide +kernel
theorem dX12_stepsOf_77 : decode cX12_stepsOf 77 = .ok (.if_icmp .ne 11, 3) := by decide +kernel
theorem dX12_stepsOf_80 : decode cX12_stepsOf 80 = .ok (.aload_n 0, 1) := by decide +kernel
theorem dX12_stepsOf_81 : decode cX12_stepsOf 81 = .ok (.getfield 26, 3) := by decide +kernel
theorem dX12_stepsOf_84 : decode cX12_stepsOf 84 = .ok (.iload 5, 2) := by decide +kernel
theorem dX12_stepsOf_86 : decode cX12_stepsOf 86 = .ok (.iaload, 1) := by decide +kernel
theorem dX12_stepsOf_87 : decode cX12_stepsOf 87 = .ok (.ireturn, 1) := by decide +kernel
theorem dX12_stepsOf_88 : decode cX12_stepsOf 88 = .ok (.iconst 0, 1) := by decide +kernel
theorem dX12_stepsOf_89 : decode cX12_stepsOf 89 = .ok (.istore 6, 2) := by decide +kernel
theorem dX12_stepsOf_91 : decode cX12_stepsOf 91 = .ok (.iload 6, 2) := by decide +kernel
theorem dX12_stepsOf_93 : decode cX12_stepsOf 93 = .ok (.iconst 4, 1) := by decide +kernel
theorem dX12_stepsOf_94 : decode cX12_stepsOf 94 = .ok (.if_icmp .ge 57, 3) := by decide +kernel
theorem dX12_stepsOf_97 : decode cX12_stepsOf 97 = .ok (.iload 5, 2) := by decide +kernel
theorem dX12_stepsOf_99 : decode cX12_stepsOf 99 = .ok (.iload 6, 2) := by decide +kernel
theorem dX12_stepsOf_101 : decode cX12_stepsOf 101 = .ok (.invokestatic 166, 3) := by decide +kernel
theorem dX12_stepsOf_104 : decode cX12_stepsOf 104 = .ok (.iconst (-1), 1) := by decide +kernel
theorem dX12_stepsOf_105 : decode cX12_stepsOf 105 = .ok (.if_icmp .eq 40, 3) := by decide +kernel
theorem dX12_stepsOf_108 : decode cX12_stepsOf 108 = .ok (.aload_n 0, 1) := by decide +kernel
theorem dX12_stepsOf_109 : decode cX12_stepsOf 109 = .ok (.iload_n 1, 1) := by decide +kernel
theorem dX12_stepsOf_110 : decode cX12_stepsOf 110 = .ok (.iload 5, 2) := by decide +kernel
theorem dX12_stepsOf_112 : decode cX12_stepsOf 112 = .ok (.iload 5, 2) := by decide +kernel
theorem dX12_stepsOf_114 : decode cX12_stepsOf 114 = .ok (.iload 6, 2) := by decide +kernel
theorem dX12_stepsOf_116 : decode cX12_stepsOf 116 = .ok (.invokestatic 166, 3) := by decide +kernel
theorem dX12_stepsOf_119 : decode cX12_stepsOf 119 = .ok (.invokevirtual 190, 3) := by decide +kernel
theorem dX12_stepsOf_122 : decode cX12_stepsOf 122 = .ok (.ifCond .eq 23, 3) := by decide +kernel
theorem dX12_stepsOf_125 : decode cX12_stepsOf 125 = .ok (.aload_n 0, 1) := by decide +kernel
theorem dX12_stepsOf_126 : decode cX12_stepsOf 126 = .ok (.iload 5, 2) := by decide +kernel
theorem dX12_stepsOf_128 : decode cX12_stepsOf 128 = .ok (.iload 6, 2) := by decide +kernel
theorem dX12_stepsOf_130 : decode cX12_stepsOf 130 = .ok (.invokestatic 166, 3) := by decide +kernel
theorem dX12_stepsOf_133 : decode cX12_stepsOf 133 = .ok (.aload_n 0, 1) := by decide +kernel
theorem dX12_stepsOf_134 : decode cX12_stepsOf 134 = .ok (.getfield 26, 3) := by decide +kernel
theorem dX12_stepsOf_137 : decode cX12_stepsOf 137 = .ok (.iload 5, 2) := by decide +kernel
theorem dX12_stepsOf_139 : decode cX12_stepsOf 139 = .ok (.iaload, 1) := by decide +kernel
theorem dX12_stepsOf_140 : decode cX12_stepsOf 140 = .ok (.iconst 1, 1) := by decide +kernel
theorem dX12_stepsOf_141 : decode cX12_stepsOf 141 = .ok (.iadd, 1) := by decide +kernel
theorem dX12_stepsOf_142 : decode cX12_stepsOf 142 = .ok (.invokevirtual 186, 3) := by decide +kernel
theorem dX12_stepsOf_145 : decode cX12_stepsOf 145 = .ok (.iinc 6 1, 3) := by decide +kernel
theorem dX12_stepsOf_148 : decode cX12_stepsOf 148 = .ok (.goto (-57), 3) := by decide +kernel
theorem dX12_stepsOf_151 : decode cX12_stepsOf 151 = .ok (.iload 5, 2) := by decide +kernel
theorem dX12_stepsOf_153 : decode cX12_stepsOf 153 = .ok (.bipush 80, 2) := by decide +kernel
theorem dX12_stepsOf_155 : decode cX12_stepsOf 155 = .ok (.iadd, 1) := by decide +kernel
theorem dX12_stepsOf_156 : decode cX12_stepsOf 156 = .ok (.sipush 160, 3) := by decide +kernel
theorem dX12_stepsOf_159 : decode cX12_stepsOf 159 = .ok (.irem, 1) := by decide +kernel
theorem dX12_stepsOf_160 : decode cX12_stepsOf 160 = .ok (.istore 6, 2) := by decide +kernel
theorem dX12_stepsOf_162 : decode cX12_stepsOf 162 = .ok (.aload_n 0, 1) := by decide +kernel
theorem dX12_stepsOf_163 : decode cX12_stepsOf 163 = .ok (.iload_n 1, 1) := by decide +kernel
theorem dX12_stepsOf_164 : decode cX12_stepsOf 164 = .ok (.iload 5, 2) := by decide +kernel
theorem dX12_stepsOf_166 : decode cX12_stepsOf 166 = .ok (.invokevirtual 158, 3) := by decide +kernel
theorem dX12_stepsOf_169 : decode cX12_stepsOf 169 = .ok (.bipush 14, 2) := by decide +kernel
theorem dX12_stepsOf_171 : decode cX12_stepsOf 171 = .ok (.if_icmp .ne 30, 3) := by decide +kernel
theorem dX12_stepsOf_174 : decode cX12_stepsOf 174 = .ok (.aload_n 0, 1) := by decide +kernel
theorem dX12_stepsOf_175 : decode cX12_stepsOf 175 = .ok (.iload_n 1, 1) := by decide +kernel
theorem dX12_stepsOf_176 : decode cX12_stepsOf 176 = .ok (.iload 6, 2) := by decide +kernel
theorem dX12_stepsOf_178 : decode cX12_stepsOf 178 = .ok (.invokevirtual 158, 3) := by decide +kernel
theorem dX12_stepsOf_181 : decode cX12_stepsOf 181 = .ok (.bipush 14, 2) := by decide +kernel
theorem dX12_stepsOf_183 : decode cX12_stepsOf 183 = .ok (.if_icmp .ne 18, 3) := by decide +kernel
theorem dX12_stepsOf_186 : decode cX12_stepsOf 186 = .ok (.aload_n 0, 1) := by decide +kernel
theorem dX12_stepsOf_187 : decode cX12_stepsOf 187 = .ok (.iload 6, 2) := by decide +kernel
theorem dX12_stepsOf_189 : decode cX12_stepsOf 189 = .ok (.aload_n 0, 1) := by decide +kernel
theorem dX12_stepsOf_190 : decode cX12_stepsOf 190 = .ok (.getfield 26, 3) := by decide +kernel
theorem dX12_stepsOf_193 : decode cX12_stepsOf 193 = .ok (.iload 5, 2) := by decide +kernel
theorem dX12_stepsOf_195 : decode cX12_stepsOf 195 = .ok (.iaload, 1) := by decide +kernel
theorem dX12_stepsOf_196 : decode cX12_stepsOf 196 = .ok (.iconst 1, 1) := by decide +kernel
theorem dX12_stepsOf_197 : decode cX12_stepsOf 197 = .ok (.iadd, 1) := by decide +kernel
theorem dX12_stepsOf_198 : decode cX12_stepsOf 198 = .ok (.invokevirtual 186, 3) := by decide +kernel
theorem dX12_stepsOf_201 : decode cX12_stepsOf 201 = .ok (.iinc 4 1, 3) := by decide +kernel
theorem dX12_stepsOf_204 : decode cX12_stepsOf 204 = .ok (.goto (-153), 3) := by decide +kernel
theorem dX12_stepsOf_207 : decode cX12_stepsOf 207 = .ok (.iconst (-1), 1) := by decide +kernel
theorem dX12_stepsOf_208 : decode cX12_stepsOf 208 = .ok (.ireturn, 1) := by decide +kernel
theorem dX12_steps_0 : decode cX12_steps 0 = .ok (.aload_n 0, 1) := by decide +kernel
theorem dX12_steps_1 : decode cX12_steps 1 = .ok (.iload_n 1, 1) := by decide +kernel
theorem dX12_steps_2 : decode cX12_steps 2 = .ok (.invokevirtual 147, 3) := by decide +kernel
theorem dX12_steps_5 : decode cX12_steps 5 = .ok (.ifCond .eq 32, 3) := by decide +kernel
theorem dX12_steps_8 : decode cX12_steps 8 = .ok (.iload_n 2, 1) := by decide +kernel
theorem dX12_steps_9 : decode cX12_steps 9 = .ok (.invokestatic 174, 3) := by decide +kernel
theorem dX12_steps_12 : decode cX12_steps 12 = .ok (.ifCond .eq 25, 3) := by decide +kernel
theorem dX12_steps_15 : decode cX12_steps 15 = .ok (.iload_n 3, 1) := by decide +kernel
theorem dX12_steps_16 : decode cX12_steps 16 = .ok (.invokestatic 174, 3) := by decide +kernel
theorem dX12_steps_19 : decode cX12_steps 19 = .ok (.ifCond .eq 18, 3) := by decide +kernel
theorem dX12_steps_22 : decode cX12_steps 22 = .ok (.iload_n 2, 1) := by decide +kernel
theorem dX12_steps_23 : decode cX12_steps 23 = .ok (.iload_n 3, 1) := by decide +kernel
theorem dX12_steps_24 : decode cX12_steps 24 = .ok (.if_icmp .eq 13, 3) := by decide +kernel
theorem dX12_steps_27 : decode cX12_steps 27 = .ok (.aload_n 0, 1) := by decide +kernel
theorem dX12_steps_28 : decode cX12_steps 28 = .ok (.iload_n 1, 1) := by decide +kernel
theorem dX12_steps_29 : decode cX12_steps 29 = .ok (.iload_n 2, 1) := by decide +kernel
theorem dX12_steps_30 : decode cX12_steps 30 = .ok (.iload_n 3, 1) := by decide +kernel
theorem dX12_steps_31 : decode cX12_steps 31 = .ok (.invokevirtual 193, 3) := by decide +kernel
theorem dX12_steps_34 : decode cX12_steps 34 = .ok (.goto 4, 3) := by decide +kernel
theorem dX12_steps_37 : decode cX12_steps 37 = .ok (.iconst (-1), 1) := by decide +kernel
theorem dX12_steps_38 : decode cX12_steps 38 = .ok (.ireturn, 1) := by decide +kernel
theorem dX12_wallsOf_0 : decode cX12_wallsOf 0 = .ok (.iconst 0, 1) := by decide +kernel
theorem dX12_wallsOf_1 : decode cX12_wallsOf 1 = .ok (.istore_n 2, 1) := by decide +kernel
theorem dX12_wallsOf_2 : decode cX12_wallsOf 2 = .ok (.iconst 0, 1) := by decide +kernel
theorem dX12_wallsOf_3 : decode cX12_wallsOf 3 = .ok (.istore_n 3, 1) := by decide +kernel
theorem dX12_wallsOf_4 : decode cX12_wallsOf 4 = .ok (.iload_n 3, 1) := by decide +kernel
theorem dX12_wallsOf_5 : decode cX12_wallsOf 5 = .ok (.sipush 160, 3) := by decide +kernel
theorem dX12_wallsOf_8 : decode cX12_wallsOf 8 = .ok (.if_icmp .ge 90, 3) := by decide +kernel
theorem dX12_wallsOf_11 : decode cX12_wallsOf 11 = .ok (.iconst 0, 1) := by decide +kernel
theorem dX12_wallsOf_12 : decode cX12_wallsOf 12 = .ok (.istore 4, 2) := by decide +kernel
theorem dX12_wallsOf_14 : decode cX12_wallsOf 14 = .ok (.iload 4, 2) := by decide +kernel
theorem dX12_wallsOf_16 : decode cX12_wallsOf 16 = .ok (.iconst 4, 1) := by decide +kernel
theorem dX12_wallsOf_17 : decode cX12_wallsOf 17 = .ok (.if_icmp .ge 75, 3) := by decide +kernel
theorem dX12_wallsOf_20 : decode cX12_wallsOf 20 = .ok (.iload_n 3, 1) := by decide +kernel
theorem dX12_wallsOf_21 : decode cX12_wallsOf 21 = .ok (.iload 4, 2) := by decide +kernel
theorem dX12_wallsOf_23 : decode cX12_wallsOf 23 = .ok (.invokestatic 166, 3) := by decide +kernel
theorem dX12_wallsOf_26 : decode cX12_wallsOf 26 = .ok (.istore 5, 2) := by decide +kernel
theorem dX12_wallsOf_28 : decode cX12_wallsOf 28 = .ok (.aload_n 0, 1) := by decide +kernel
theorem dX12_wallsOf_29 : decode cX12_wallsOf 29 = .ok (.iload_n 1, 1) := by decide +kernel
theorem dX12_wallsOf_30 : decode cX12_wallsOf 30 = .ok (.iload_n 3, 1) := by decide +kernel
theorem dX12_wallsOf_31 : decode cX12_wallsOf 31 = .ok (.invokevirtual 158, 3) := by decide +kernel
theorem dX12_wallsOf_34 : decode cX12_wallsOf 34 = .ok (.istore 6, 2) := by decide +kernel
theorem dX12_wallsOf_36 : decode cX12_wallsOf 36 = .ok (.iload 6, 2) := by decide +kernel
theorem dX12_wallsOf_38 : decode cX12_wallsOf 38 = .ok (.ifCond .ne 6, 3) := by decide +kernel
theorem dX12_wallsOf_41 : decode cX12_wallsOf 41 = .ok (.goto 45, 3) := by decide +kernel
theorem dX12_wallsOf_44 : decode cX12_wallsOf 44 = .ok (.iload 5, 2) := by decide +kernel
theorem dX12_wallsOf_46 : decode cX12_wallsOf 46 = .ok (.iconst (-1), 1) := by decide +kernel
theorem dX12_wallsOf_47 : decode cX12_wallsOf 47 = .ok (.if_icmp .eq 36, 3) := by decide +kernel
theorem dX12_wallsOf_50 : decode cX12_wallsOf 50 = .ok (.aload_n 0, 1) := by decide +kernel
theorem dX12_wallsOf_51 : decode cX12_wallsOf 51 = .ok (.iload_n 1, 1) := by decide +kernel
theorem dX12_wallsOf_52 : decode cX12_wallsOf 52 = .ok (.iload 5, 2) := by decide +kernel
theorem dX12_wallsOf_54 : decode cX12_wallsOf 54 = .ok (.invokevirtual 158, 3) := by decide +kernel
theorem dX12_wallsOf_57 : decode cX12_wallsOf 57 = .ok (.ifCond .eq 26, 3) := by decide +kernel
theorem dX12_wallsOf_60 : decode cX12_wallsOf 60 = .ok (.aload_n 0, 1) := by decide +kernel
theorem dX12_wallsOf_61 : decode cX12_wallsOf 61 = .ok (.iload_n 1, 1) := by decide +kernel
theorem dX12_wallsOf_62 : decode cX12_wallsOf 62 = .ok (.iload 5, 2) := by decide +kernel
theorem dX12_wallsOf_64 : decode cX12_wallsOf 64 = .ok (.invokevirtual 158, 3) := by decide +kernel
theorem dX12_wallsOf_67 : decode cX12_wallsOf 67 = .ok (.iload 6, 2) := by decide +kernel
theorem dX12_wallsOf_69 : decode cX12_wallsOf 69 = .ok (.if_icmp .eq 17, 3) := by decide +kernel
theorem dX12_wallsOf_72 : decode cX12_wallsOf 72 = .ok (.iload 4, 2) := by decide +kernel
theorem dX12_wallsOf_74 : decode cX12_wallsOf 74 = .ok (.ifCond .eq 9, 3) := by decide +kernel
theorem dX12_wallsOf_77 : decode cX12_wallsOf 77 = .ok (.iload 4, 2) := by decide +kernel
theorem dX12_wallsOf_79 : decode cX12_wallsOf 79 = .ok (.iconst 3, 1) := by decide +kernel
theorem dX12_wallsOf_80 : decode cX12_wallsOf 80 = .ok (.if_icmp .ne 6, 3) := by decide +kernel
theorem dX12_wallsOf_83 : decode cX12_wallsOf 83 = .ok (.iinc 2 1, 3) := by decide +kernel
theorem dX12_wallsOf_86 : decode cX12_wallsOf 86 = .ok (.iinc 4 1, 3) := by decide +kernel
theorem dX12_wallsOf_89 : decode cX12_wallsOf 89 = .ok (.goto (-75), 3) := by decide +kernel
theorem dX12_wallsOf_92 : decode cX12_wallsOf 92 = .ok (.iinc 3 1, 3) := by decide +kernel
theorem dX12_wallsOf_95 : decode cX12_wallsOf 95 = .ok (.goto (-91), 3) := by decide +kernel
theorem dX12_wallsOf_98 : decode cX12_wallsOf 98 = .ok (.iload_n 2, 1) := by decide +kernel
theorem dX12_wallsOf_99 : decode cX12_wallsOf 99 = .ok (.ireturn, 1) := by decide +kernel
theorem dX12_bare_0 : decode cX12_bare 0 = .ok (.iload_n 0, 1) := by decide +kernel
theorem dX12_bare_1 : decode cX12_bare 1 = .ok (.tableswitch 84 0 9 #[55, 58, 61, 65, 68, 72, 74, 76, 78, 81], 55) := by decide +kernel
theorem dX12_bare_56 : decode cX12_bare 56 = .ok (.bipush 10, 2) := by decide +kernel
theorem dX12_bare_58 : decode cX12_bare 58 = .ok (.ireturn, 1) := by decide +kernel
theorem dX12_bare_59 : decode cX12_bare 59 = .ok (.bipush 50, 2) := by decide +kernel
theorem dX12_bare_61 : decode cX12_bare 61 = .ok (.ireturn, 1) := by decide +kernel
theorem dX12_bare_62 : decode cX12_bare 62 = .ok (.sipush 300, 3) := by decide +kernel
theorem dX12_bare_65 : decode cX12_bare 65 = .ok (.ireturn, 1) := by decide +kernel
theorem dX12_bare_66 : decode cX12_bare 66 = .ok (.bipush 10, 2) := by decide +kernel
theorem dX12_bare_68 : decode cX12_bare 68 = .ok (.ireturn, 1) := by decide +kernel
theorem dX12_bare_69 : decode cX12_bare 69 = .ok (.sipush 1000, 3) := by decide +kernel
theorem dX12_bare_72 : decode cX12_bare 72 = .ok (.ireturn, 1) := by decide +kernel
theorem dX12_bare_73 : decode cX12_bare 73 = .ok (.iconst 3, 1) := by decide +kernel
theorem dX12_bare_74 : decode cX12_bare 74 = .ok (.ireturn, 1) := by decide +kernel
theorem dX12_bare_75 : decode cX12_bare 75 = .ok (.iconst 0, 1) := by decide +kernel
theorem dX12_bare_76 : decode cX12_bare 76 = .ok (.ireturn, 1) := by decide +kernel
theorem dX12_bare_77 : decode cX12_bare 77 = .ok (.iconst 1, 1) := by decide +kernel
theorem dX12_bare_78 : decode cX12_bare 78 = .ok (.ireturn, 1) := by decide +kernel
theorem dX12_bare_79 : decode cX12_bare 79 = .ok (.bipush 20, 2) := by decide +kernel
theorem dX12_bare_81 : decode cX12_bare 81 = .ok (.ireturn, 1) := by decide +kernel
theorem dX12_bare_82 : decode cX12_bare 82 = .ok (.bipush 30, 2) := by decide +kernel
theorem dX12_bare_84 : decode cX12_bare 84 = .ok (.ireturn, 1) := by decide +kernel
theorem dX12_bare_85 : decode cX12_bare 85 = .ok (.bipush 50, 2) := by decide +kernel
theorem dX12_bare_87 : decode cX12_bare 87 = .ok (.ireturn, 1) := by decide +kernel
theorem dX12_tells_0 : decode cX12_tells 0 = .ok (.iload_n 2, 1) := by decide +kernel
theorem dX12_tells_1 : decode cX12_tells 1 = .ok (.invokestatic 435, 3) := by decide +kernel
theorem dX12_tells_4 : decode cX12_tells 4 = .ok (.istore_n 3, 1) := by decide +kernel
theorem dX12_tells_5 : decode cX12_tells 5 = .ok (.bipush 40, 2) := by decide +kernel
theorem dX12_tells_7 : decode cX12_tells 7 = .ok (.iload_n 1, 1) := by decide +kernel
theorem dX12_tells_8 : decode cX12_tells 8 = .ok (.imul, 1) := by decide +kernel
theorem dX12_tells_9 : decode cX12_tells 9 = .ok (.istore 4, 2) := by decide +kernel
theorem dX12_tells_11 : decode cX12_tells 11 = .ok (.iload_n 1, 1) := by decide +kernel
theorem dX12_tells_12 : decode cX12_tells 12 = .ok (.iconst (-1), 1) := by decide +kernel
theorem dX12_tells_13 : decode cX12_tells 13 = .ok (.if_icmp .eq 132, 3) := by decide +kernel
theorem dX12_tells_16 : decode cX12_tells 16 = .ok (.iload 4, 2) := by decide +kernel
theorem dX12_tells_18 : decode cX12_tells 18 = .ok (.bipush 40, 2) := by decide +kernel
theorem dX12_tells_20 : decode cX12_tells 20 = .ok (.iload_n 1, 1) := by decide +kernel
theorem dX12_tells_21 : decode cX12_tells 21 = .ok (.imul, 1) := by decide +kernel
theorem dX12_tells_22 : decode cX12_tells 22 = .ok (.aload_n 0, 1) := by decide +kernel
theorem dX12_tells_23 : decode cX12_tells 23 = .ok (.getfield 51, 3) := by decide +kernel
theorem dX12_tells_26 : decode cX12_tells 26 = .ok (.iload_n 1, 1) := by decide +kernel
theorem dX12_tells_27 : decode cX12_tells 27 = .ok (.iaload, 1) := by decide +kernel
theorem dX12_tells_28 : decode cX12_tells 28 = .ok (.iadd, 1) := by decide +kernel
theorem dX12_tells_29 : decode cX12_tells 29 = .ok (.if_icmp .ge 116, 3) := by decide +kernel
theorem dX12_tells_32 : decode cX12_tells 32 = .ok (.aload_n 0, 1) := by decide +kernel
theorem dX12_tells_33 : decode cX12_tells 33 = .ok (.getfield 57, 3) := by decide +kernel
theorem dX12_tells_36 : decode cX12_tells 36 = .ok (.iload 4, 2) := by decide +kernel
theorem dX12_tells_38 : decode cX12_tells 38 = .ok (.iaload, 1) := by decide +kernel
theorem dX12_tells_39 : decode cX12_tells 39 = .ok (.iload_n 2, 1) := by decide +kernel
theorem dX12_tells_40 : decode cX12_tells 40 = .ok (.if_icmp .ne 11, 3) := by decide +kernel
theorem dX12_tells_43 : decode cX12_tells 43 = .ok (.aload_n 0, 1) := by decide +kernel
theorem dX12_tells_44 : decode cX12_tells 44 = .ok (.getfield 60, 3) := by decide +kernel
theorem dX12_tells_47 : decode cX12_tells 47 = .ok (.iload 4, 2) := by decide +kernel
theorem dX12_tells_49 : decode cX12_tells 49 = .ok (.iaload, 1) := by decide +kernel
theorem dX12_tells_50 : decode cX12_tells 50 = .ok (.istore_n 3, 1) := by decide +kernel
theorem dX12_tells_51 : decode cX12_tells 51 = .ok (.aload_n 0, 1) := by decide +kernel
theorem dX12_tells_52 : decode cX12_tells 52 = .ok (.getfield 57, 3) := by decide +kernel
theorem dX12_tells_55 : decode cX12_tells 55 = .ok (.iload 4, 2) := by decide +kernel
theorem dX12_tells_57 : decode cX12_tells 57 = .ok (.iaload, 1) := by decide +kernel
theorem dX12_tells_58 : decode cX12_tells 58 = .ok (.bipush 15, 2) := by decide +kernel
theorem dX12_tells_60 : decode cX12_tells 60 = .ok (.if_icmp .ne 27, 3) := by decide +kernel
theorem dX12_tells_63 : decode cX12_tells 63 = .ok (.iload_n 2, 1) := by decide +kernel
theorem dX12_tells_64 : decode cX12_tells 64 = .ok (.iconst 3, 1) := by decide +kernel
theorem dX12_tells_65 : decode cX12_tells 65 = .ok (.if_icmp .ne 22, 3) := by decide +kernel
theorem dX12_tells_68 : decode cX12_tells 68 = .ok (.aload_n 0, 1) := by decide +kernel
theorem dX12_tells_69 : decode cX12_tells 69 = .ok (.getfield 63, 3) := by decide +kernel
theorem dX12_tells_72 : decode cX12_tells 72 = .ok (.iload 4, 2) := by decide +kernel
theorem dX12_tells_74 : decode cX12_tells 74 = .ok (.iaload, 1) := by decide +kernel
theorem dX12_tells_75 : decode cX12_tells 75 = .ok (.iconst (-1), 1) := by decide +kernel
theorem dX12_tells_76 : decode cX12_tells 76 = .ok (.if_icmp .eq 11, 3) := by decide +kernel
theorem dX12_tells_79 : decode cX12_tells 79 = .ok (.aload_n 0, 1) := by decide +kernel
theorem dX12_tells_80 : decode cX12_tells 80 = .ok (.getfield 63, 3) := by decide +kernel
theorem dX12_tells_83 : decode cX12_tells 83 = .ok (.iload 4, 2) := by decide +kernel
theorem dX12_tells_85 : decode cX12_tells 85 = .ok (.iaload, 1) := by decide +kernel
theorem dX12_tells_86 : decode cX12_tells 86 = .ok (.istore_n 3, 1) := by decide +kernel
theorem dX12_tells_87 : decode cX12_tells 87 = .ok (.aload_n 0, 1) := by decide +kernel
theorem dX12_tells_88 : decode cX12_tells 88 = .ok (.getfield 57, 3) := by decide +kernel
theorem dX12_tells_91 : decode cX12_tells 91 = .ok (.iload 4, 2) := by decide +kernel
theorem dX12_tells_93 : decode cX12_tells 93 = .ok (.iaload, 1) := by decide +kernel
theorem dX12_tells_94 : decode cX12_tells 94 = .ok (.bipush 8, 2) := by decide +kernel
theorem dX12_tells_96 : decode cX12_tells 96 = .ok (.if_icmp .ne 17, 3) := by decide +kernel
theorem dX12_tells_99 : decode cX12_tells 99 = .ok (.iload_n 2, 1) := by decide +kernel
theorem dX12_tells_100 : decode cX12_tells 100 = .ok (.bipush 9, 2) := by decide +kernel
theorem dX12_tells_102 : decode cX12_tells 102 = .ok (.if_icmp .ne 11, 3) := by decide +kernel
theorem dX12_tells_105 : decode cX12_tells 105 = .ok (.aload_n 0, 1) := by decide +kernel
theorem dX12_tells_106 : decode cX12_tells 106 = .ok (.getfield 63, 3) := by decide +kernel
theorem dX12_tells_109 : decode cX12_tells 109 = .ok (.iload 4, 2) := by decide +kernel
theorem dX12_tells_111 : decode cX12_tells 111 = .ok (.iaload, 1) := by decide +kernel
theorem dX12_tells_112 : decode cX12_tells 112 = .ok (.istore_n 3, 1) := by decide +kernel
theorem dX12_tells_113 : decode cX12_tells 113 = .ok (.aload_n 0, 1) := by decide +kernel
theorem dX12_tells_114 : decode cX12_tells 114 = .ok (.getfield 57, 3) := by decide +kernel
theorem dX12_tells_117 : decode cX12_tells 117 = .ok (.iload 4, 2) := by decide +kernel
theorem dX12_tells_119 : decode cX12_tells 119 = .ok (.iaload, 1) := by decide +kernel
theorem dX12_tells_120 : decode cX12_tells 120 = .ok (.bipush 8, 2) := by decide +kernel
theorem dX12_tells_122 : decode cX12_tells 122 = .ok (.if_icmp .ne 17, 3) := by decide +kernel
theorem dX12_tells_125 : decode cX12_tells 125 = .ok (.iload_n 2, 1) := by decide +kernel
theorem dX12_tells_126 : decode cX12_tells 126 = .ok (.bipush 10, 2) := by decide +kernel
theorem dX12_tells_128 : decode cX12_tells 128 = .ok (.if_icmp .ne 11, 3) := by decide +kernel
theorem dX12_tells_131 : decode cX12_tells 131 = .ok (.aload_n 0, 1) := by decide +kernel
theorem dX12_tells_132 : decode cX12_tells 132 = .ok (.getfield 66, 3) := by decide +kernel
theorem dX12_tells_135 : decode cX12_tells 135 = .ok (.iload 4, 2) := by decide +kernel
theorem dX12_tells_137 : decode cX12_tells 137 = .ok (.iaload, 1) := by decide +kernel
theorem dX12_tells_138 : decode cX12_tells 138 = .ok (.istore_n 3, 1) := by decide +kernel
theorem dX12_tells_139 : decode cX12_tells 139 = .ok (.iinc 4 1, 3) := by decide +kernel
theorem dX12_tells_142 : decode cX12_tells 142 = .ok (.goto (-131), 3) := by decide +kernel
theorem dX12_tells_145 : decode cX12_tells 145 = .ok (.iload_n 3, 1) := by decide +kernel
theorem dX12_tells_146 : decode cX12_tells 146 = .ok (.ireturn, 1) := by decide +kernel
theorem dX12_rate_0 : decode cX12_rate 0 = .ok (.bipush 100, 2) := by decide +kernel
theorem dX12_rate_2 : decode cX12_rate 2 = .ok (.istore_n 3, 1) := by decide +kernel
theorem dX12_rate_3 : decode cX12_rate 3 = .ok (.bipush 40, 2) := by decide +kernel
theorem dX12_rate_5 : decode cX12_rate 5 = .ok (.iload_n 1, 1) := by decide +kernel
theorem dX12_rate_6 : decode cX12_rate 6 = .ok (.imul, 1) := by decide +kernel
theorem dX12_rate_7 : decode cX12_rate 7 = .ok (.istore 4, 2) := by decide +kernel
theorem dX12_rate_9 : decode cX12_rate 9 = .ok (.iload_n 1, 1) := by decide +kernel
theorem dX12_rate_10 : decode cX12_rate 10 = .ok (.iconst (-1), 1) := by decide +kernel
theorem dX12_rate_11 : decode cX12_rate 11 = .ok (.if_icmp .eq 56, 3) := by decide +kernel
theorem dX12_rate_14 : decode cX12_rate 14 = .ok (.iload 4, 2) := by decide +kernel
theorem dX12_rate_16 : decode cX12_rate 16 = .ok (.bipush 40, 2) := by decide +kernel
theorem dX12_rate_18 : decode cX12_rate 18 = .ok (.iload_n 1, 1) := by decide +kernel
theorem dX12_rate_19 : decode cX12_rate 19 = .ok (.imul, 1) := by decide +kernel
theorem dX12_rate_20 : decode cX12_rate 20 = .ok (.aload_n 0, 1) := by decide +kernel
theorem dX12_rate_21 : decode cX12_rate 21 = .ok (.getfield 51, 3) := by decide +kernel
theorem dX12_rate_24 : decode cX12_rate 24 = .ok (.iload_n 1, 1) := by decide +kernel
theorem dX12_rate_25 : decode cX12_rate 25 = .ok (.iaload, 1) := by decide +kernel
theorem dX12_rate_26 : decode cX12_rate 26 = .ok (.iadd, 1) := by decide +kernel
theorem dX12_rate_27 : decode cX12_rate 27 = .ok (.if_icmp .ge 40, 3) := by decide +kernel
theorem dX12_rate_30 : decode cX12_rate 30 = .ok (.aload_n 0, 1) := by decide +kernel
theorem dX12_rate_31 : decode cX12_rate 31 = .ok (.getfield 57, 3) := by decide +kernel
theorem dX12_rate_34 : decode cX12_rate 34 = .ok (.iload 4, 2) := by decide +kernel
theorem dX12_rate_36 : decode cX12_rate 36 = .ok (.iaload, 1) := by decide +kernel
theorem dX12_rate_37 : decode cX12_rate 37 = .ok (.bipush 14, 2) := by decide +kernel
theorem dX12_rate_39 : decode cX12_rate 39 = .ok (.if_icmp .ne 22, 3) := by decide +kernel
theorem dX12_rate_42 : decode cX12_rate 42 = .ok (.aload_n 0, 1) := by decide +kernel
theorem dX12_rate_43 : decode cX12_rate 43 = .ok (.getfield 60, 3) := by decide +kernel
theorem dX12_rate_46 : decode cX12_rate 46 = .ok (.iload 4, 2) := by decide +kernel
theorem dX12_rate_48 : decode cX12_rate 48 = .ok (.iaload, 1) := by decide +kernel
theorem dX12_rate_49 : decode cX12_rate 49 = .ok (.iload_n 2, 1) := by decide +kernel
theorem dX12_rate_50 : decode cX12_rate 50 = .ok (.if_icmp .ne 11, 3) := by decide +kernel
theorem dX12_rate_53 : decode cX12_rate 53 = .ok (.aload_n 0, 1) := by decide +kernel
theorem dX12_rate_54 : decode cX12_rate 54 = .ok (.getfield 63, 3) := by decide +kernel
theorem dX12_rate_57 : decode cX12_rate 57 = .ok (.iload 4, 2) := by decide +kernel
theorem dX12_rate_59 : decode cX12_rate 59 = .ok (.iaload, 1) := by decide +kernel
theorem dX12_rate_60 : decode cX12_rate 60 = .ok (.istore_n 3, 1) := by decide +kernel
theorem dX12_rate_61 : decode cX12_rate 61 = .ok (.iinc 4 1, 3) := by decide +kernel
theorem dX12_rate_64 : decode cX12_rate 64 = .ok (.goto (-55), 3) := by decide +kernel
theorem dX12_rate_67 : decode cX12_rate 67 = .ok (.iload_n 3, 1) := by decide +kernel
theorem dX12_rate_68 : decode cX12_rate 68 = .ok (.ireturn, 1) := by decide +kernel
theorem dX12_costBy_0 : decode cX12_costBy 0 = .ok (.aload_n 0, 1) := by decide +kernel
theorem dX12_costBy_1 : decode cX12_costBy 1 = .ok (.iload_n 1, 1) := by decide +kernel
theorem dX12_costBy_2 : decode cX12_costBy 2 = .ok (.invokevirtual 196, 3) := by decide +kernel
theorem dX12_costBy_5 : decode cX12_costBy 5 = .ok (.aload_n 0, 1) := by decide +kernel
theorem dX12_costBy_6 : decode cX12_costBy 6 = .ok (.iload_n 2, 1) := by decide +kernel
theorem dX12_costBy_7 : decode cX12_costBy 7 = .ok (.iconst 0, 1) := by decide +kernel
theorem dX12_costBy_8 : decode cX12_costBy 8 = .ok (.invokevirtual 200, 3) := by decide +kernel
theorem dX12_costBy_11 : decode cX12_costBy 11 = .ok (.imul, 1) := by decide +kernel
theorem dX12_costBy_12 : decode cX12_costBy 12 = .ok (.istore_n 3, 1) := by decide +kernel
theorem dX12_costBy_13 : decode cX12_costBy 13 = .ok (.iconst 0, 1) := by decide +kernel
theorem dX12_costBy_14 : decode cX12_costBy 14 = .ok (.istore 4, 2) := by decide +kernel
theorem dX12_costBy_16 : decode cX12_costBy 16 = .ok (.iload 4, 2) := by decide +kernel
theorem dX12_costBy_18 : decode cX12_costBy 18 = .ok (.sipush 160, 3) := by decide +kernel
theorem dX12_costBy_21 : decode cX12_costBy 21 = .ok (.if_icmp .ge 69, 3) := by decide +kernel
theorem dX12_costBy_24 : decode cX12_costBy 24 = .ok (.aload_n 0, 1) := by decide +kernel
theorem dX12_costBy_25 : decode cX12_costBy 25 = .ok (.iload_n 1, 1) := by decide +kernel
theorem dX12_costBy_26 : decode cX12_costBy 26 = .ok (.iload 4, 2) := by decide +kernel
theorem dX12_costBy_28 : decode cX12_costBy 28 = .ok (.invokevirtual 158, 3) := by decide +kernel
theorem dX12_costBy_31 : decode cX12_costBy 31 = .ok (.istore 5, 2) := by decide +kernel
theorem dX12_costBy_33 : decode cX12_costBy 33 = .ok (.iload_n 3, 1) := by decide +kernel
theorem dX12_costBy_34 : decode cX12_costBy 34 = .ok (.iload 5, 2) := by decide +kernel
theorem dX12_costBy_36 : decode cX12_costBy 36 = .ok (.ifCond .ne 7, 3) := by decide +kernel
theorem dX12_costBy_39 : decode cX12_costBy 39 = .ok (.iconst 0, 1) := by decide +kernel
theorem dX12_costBy_40 : decode cX12_costBy 40 = .ok (.goto 42, 3) := by decide +kernel
theorem dX12_costBy_43 : decode cX12_costBy 43 = .ok (.iload 5, 2) := by decide +kernel
theorem dX12_costBy_45 : decode cX12_costBy 45 = .ok (.bipush 13, 2) := by decide +kernel
theorem dX12_costBy_47 : decode cX12_costBy 47 = .ok (.if_icmp .ne 12, 3) := by decide +kernel
theorem dX12_costBy_50 : decode cX12_costBy 50 = .ok (.aload_n 0, 1) := by decide +kernel
theorem dX12_costBy_51 : decode cX12_costBy 51 = .ok (.iload_n 2, 1) := by decide +kernel
theorem dX12_costBy_52 : decode cX12_costBy 52 = .ok (.iconst 1, 1) := by decide +kernel
theorem dX12_costBy_53 : decode cX12_costBy 53 = .ok (.invokevirtual 200, 3) := by decide +kernel
theorem dX12_costBy_56 : decode cX12_costBy 56 = .ok (.goto 26, 3) := by decide +kernel
theorem dX12_costBy_59 : decode cX12_costBy 59 = .ok (.iload 5, 2) := by decide +kernel
theorem dX12_costBy_61 : decode cX12_costBy 61 = .ok (.bipush 14, 2) := by decide +kernel
theorem dX12_costBy_63 : decode cX12_costBy 63 = .ok (.if_icmp .ne 12, 3) := by decide +kernel
theorem dX12_costBy_66 : decode cX12_costBy 66 = .ok (.aload_n 0, 1) := by decide +kernel
theorem dX12_costBy_67 : decode cX12_costBy 67 = .ok (.iload_n 2, 1) := by decide +kernel
theorem dX12_costBy_68 : decode cX12_costBy 68 = .ok (.iconst 2, 1) := by decide +kernel
theorem dX12_costBy_69 : decode cX12_costBy 69 = .ok (.invokevirtual 200, 3) := by decide +kernel
theorem dX12_costBy_72 : decode cX12_costBy 72 = .ok (.goto 10, 3) := by decide +kernel
theorem dX12_costBy_75 : decode cX12_costBy 75 = .ok (.aload_n 0, 1) := by decide +kernel
theorem dX12_costBy_76 : decode cX12_costBy 76 = .ok (.iload_n 2, 1) := by decide +kernel
theorem dX12_costBy_77 : decode cX12_costBy 77 = .ok (.iload 5, 2) := by decide +kernel
theorem dX12_costBy_79 : decode cX12_costBy 79 = .ok (.invokevirtual 203, 3) := by decide +kernel
theorem dX12_costBy_82 : decode cX12_costBy 82 = .ok (.iadd, 1) := by decide +kernel
theorem dX12_costBy_83 : decode cX12_costBy 83 = .ok (.istore_n 3, 1) := by decide +kernel
theorem dX12_costBy_84 : decode cX12_costBy 84 = .ok (.iinc 4 1, 3) := by decide +kernel
theorem dX12_costBy_87 : decode cX12_costBy 87 = .ok (.goto (-71), 3) := by decide +kernel
theorem dX12_costBy_90 : decode cX12_costBy 90 = .ok (.iload_n 3, 1) := by decide +kernel
theorem dX12_costBy_91 : decode cX12_costBy 91 = .ok (.ireturn, 1) := by decide +kernel
theorem dX12_bindsOn_0 : decode cX12_bindsOn 0 = .ok (.iconst (-1), 1) := by decide +kernel
theorem dX12_bindsOn_1 : decode cX12_bindsOn 1 = .ok (.istore_n 2, 1) := by decide +kernel
theorem dX12_bindsOn_2 : decode cX12_bindsOn 2 = .ok (.iconst 0, 1) := by decide +kernel
theorem dX12_bindsOn_3 : decode cX12_bindsOn 3 = .ok (.istore_n 3, 1) := by decide +kernel
theorem dX12_bindsOn_4 : decode cX12_bindsOn 4 = .ok (.iload_n 3, 1) := by decide +kernel
theorem dX12_bindsOn_5 : decode cX12_bindsOn 5 = .ok (.aload_n 0, 1) := by decide +kernel
theorem dX12_bindsOn_6 : decode cX12_bindsOn 6 = .ok (.getfield 426, 3) := by decide +kernel
theorem dX12_bindsOn_9 : decode cX12_bindsOn 9 = .ok (.if_icmp .ge 21, 3) := by decide +kernel
theorem dX12_bindsOn_12 : decode cX12_bindsOn 12 = .ok (.aload_n 0, 1) := by decide +kernel
theorem dX12_bindsOn_13 : decode cX12_bindsOn 13 = .ok (.getfield 54, 3) := by decide +kernel
theorem dX12_bindsOn_16 : decode cX12_bindsOn 16 = .ok (.iload_n 3, 1) := by decide +kernel
theorem dX12_bindsOn_17 : decode cX12_bindsOn 17 = .ok (.iaload, 1) := by decide +kernel
theorem dX12_bindsOn_18 : decode cX12_bindsOn 18 = .ok (.iload_n 1, 1) := by decide +kernel
theorem dX12_bindsOn_19 : decode cX12_bindsOn 19 = .ok (.if_icmp .gt 5, 3) := by decide +kernel
theorem dX12_bindsOn_22 : decode cX12_bindsOn 22 = .ok (.iload_n 3, 1) := by decide +kernel
theorem dX12_bindsOn_23 : decode cX12_bindsOn 23 = .ok (.istore_n 2, 1) := by decide +kernel
theorem dX12_bindsOn_24 : decode cX12_bindsOn 24 = .ok (.iinc 3 1, 3) := by decide +kernel
theorem dX12_bindsOn_27 : decode cX12_bindsOn 27 = .ok (.goto (-23), 3) := by decide +kernel
theorem dX12_bindsOn_30 : decode cX12_bindsOn 30 = .ok (.iload_n 2, 1) := by decide +kernel
theorem dX12_bindsOn_31 : decode cX12_bindsOn 31 = .ok (.ireturn, 1) := by decide +kernel
theorem dX12_cost_0 : decode cX12_cost 0 = .ok (.aload_n 0, 1) := by decide +kernel
theorem dX12_cost_1 : decode cX12_cost 1 = .ok (.iload_n 1, 1) := by decide +kernel
theorem dX12_cost_2 : decode cX12_cost 2 = .ok (.invokevirtual 147, 3) := by decide +kernel
theorem dX12_cost_5 : decode cX12_cost 5 = .ok (.ifCond .eq 19, 3) := by decide +kernel
theorem dX12_cost_8 : decode cX12_cost 8 = .ok (.iload_n 2, 1) := by decide +kernel
theorem dX12_cost_9 : decode cX12_cost 9 = .ok (.invokestatic 206, 3) := by decide +kernel
theorem dX12_cost_12 : decode cX12_cost 12 = .ok (.ifCond .eq 12, 3) := by decide +kernel
theorem dX12_cost_15 : decode cX12_cost 15 = .ok (.iload_n 3, 1) := by decide +kernel
theorem dX12_cost_16 : decode cX12_cost 16 = .ok (.iconst 0, 1) := by decide +kernel
theorem dX12_cost_17 : decode cX12_cost 17 = .ok (.iconst 2, 1) := by decide +kernel
theorem dX12_cost_18 : decode cX12_cost 18 = .ok (.invokestatic 140, 3) := by decide +kernel
theorem dX12_cost_21 : decode cX12_cost 21 = .ok (.ifCond .ne 5, 3) := by decide +kernel
theorem dX12_cost_24 : decode cX12_cost 24 = .ok (.iconst (-1), 1) := by decide +kernel
theorem dX12_cost_25 : decode cX12_cost 25 = .ok (.ireturn, 1) := by decide +kernel
theorem dX12_cost_26 : decode cX12_cost 26 = .ok (.aload_n 0, 1) := by decide +kernel
theorem dX12_cost_27 : decode cX12_cost 27 = .ok (.iload_n 1, 1) := by decide +kernel
theorem dX12_cost_28 : decode cX12_cost 28 = .ok (.aload_n 0, 1) := by decide +kernel
theorem dX12_cost_29 : decode cX12_cost 29 = .ok (.iload_n 2, 1) := by decide +kernel
theorem dX12_cost_30 : decode cX12_cost 30 = .ok (.invokevirtual 209, 3) := by decide +kernel
theorem dX12_cost_33 : decode cX12_cost 33 = .ok (.invokevirtual 212, 3) := by decide +kernel
theorem dX12_cost_36 : decode cX12_cost 36 = .ok (.istore 4, 2) := by decide +kernel
theorem dX12_cost_38 : decode cX12_cost 38 = .ok (.iload 4, 2) := by decide +kernel
theorem dX12_cost_40 : decode cX12_cost 40 = .ok (.i2l, 1) := by decide +kernel
theorem dX12_cost_41 : decode cX12_cost 41 = .ok (.aload_n 0, 1) := by decide +kernel
theorem dX12_cost_42 : decode cX12_cost 42 = .ok (.aload_n 0, 1) := by decide +kernel
theorem dX12_cost_43 : decode cX12_cost 43 = .ok (.iload_n 2, 1) := by decide +kernel
theorem dX12_cost_44 : decode cX12_cost 44 = .ok (.invokevirtual 209, 3) := by decide +kernel
theorem dX12_cost_47 : decode cX12_cost 47 = .ok (.iconst 3, 1) := by decide +kernel
theorem dX12_cost_48 : decode cX12_cost 48 = .ok (.invokevirtual 200, 3) := by decide +kernel
theorem dX12_cost_51 : decode cX12_cost 51 = .ok (.i2l, 1) := by decide +kernel
theorem dX12_cost_52 : decode cX12_cost 52 = .ok (.lmul, 1) := by decide +kernel
theorem dX12_cost_53 : decode cX12_cost 53 = .ok (.ldc2_w 215, 3) := by decide +kernel
theorem dX12_cost_56 : decode cX12_cost 56 = .ok (.ldiv, 1) := by decide +kernel
theorem dX12_cost_57 : decode cX12_cost 57 = .ok (.l2i, 1) := by decide +kernel
theorem dX12_cost_58 : decode cX12_cost 58 = .ok (.istore 5, 2) := by decide +kernel
theorem dX12_cost_60 : decode cX12_cost 60 = .ok (.iload_n 3, 1) := by decide +kernel
theorem dX12_cost_61 : decode cX12_cost 61 = .ok (.ifCond .ne 8, 3) := by decide +kernel
theorem dX12_cost_64 : decode cX12_cost 64 = .ok (.iload 4, 2) := by decide +kernel
theorem dX12_cost_66 : decode cX12_cost 66 = .ok (.goto 21, 3) := by decide +kernel
theorem dX12_cost_69 : decode cX12_cost 69 = .ok (.iload_n 3, 1) := by decide +kernel
theorem dX12_cost_70 : decode cX12_cost 70 = .ok (.iconst 1, 1) := by decide +kernel
theorem dX12_cost_71 : decode cX12_cost 71 = .ok (.if_icmp .ne 11, 3) := by decide +kernel
theorem dX12_cost_74 : decode cX12_cost 74 = .ok (.iload 4, 2) := by decide +kernel
theorem dX12_cost_76 : decode cX12_cost 76 = .ok (.iload 5, 2) := by decide +kernel
theorem dX12_cost_78 : decode cX12_cost 78 = .ok (.isub, 1) := by decide +kernel
theorem dX12_cost_79 : decode cX12_cost 79 = .ok (.goto 8, 3) := by decide +kernel
theorem dX12_cost_82 : decode cX12_cost 82 = .ok (.iload 4, 2) := by decide +kernel
theorem dX12_cost_84 : decode cX12_cost 84 = .ok (.iload 5, 2) := by decide +kernel
theorem dX12_cost_86 : decode cX12_cost 86 = .ok (.iadd, 1) := by decide +kernel
theorem dX12_cost_87 : decode cX12_cost 87 = .ok (.ireturn, 1) := by decide +kernel
theorem dX12_briefOf_0 : decode cX12_briefOf 0 = .ok (.aload_n 0, 1) := by decide +kernel
theorem dX12_briefOf_1 : decode cX12_briefOf 1 = .ok (.aload_n 0, 1) := by decide +kernel
theorem dX12_briefOf_2 : decode cX12_briefOf 2 = .ok (.getfield 20, 3) := by decide +kernel
theorem dX12_briefOf_5 : decode cX12_briefOf 5 = .ok (.iload_n 1, 1) := by decide +kernel
theorem dX12_briefOf_6 : decode cX12_briefOf 6 = .ok (.iaload, 1) := by decide +kernel
theorem dX12_briefOf_7 : decode cX12_briefOf 7 = .ok (.iconst (-1), 1) := by decide +kernel
theorem dX12_briefOf_8 : decode cX12_briefOf 8 = .ok (.if_icmp .ne 10, 3) := by decide +kernel
theorem dX12_briefOf_11 : decode cX12_briefOf 11 = .ok (.aload_n 0, 1) := by decide +kernel
theorem dX12_briefOf_12 : decode cX12_briefOf 12 = .ok (.getfield 144, 3) := by decide +kernel
theorem dX12_briefOf_15 : decode cX12_briefOf 15 = .ok (.goto 9, 3) := by decide +kernel
theorem dX12_briefOf_18 : decode cX12_briefOf 18 = .ok (.aload_n 0, 1) := by decide +kernel
theorem dX12_briefOf_19 : decode cX12_briefOf 19 = .ok (.getfield 20, 3) := by decide +kernel
theorem dX12_briefOf_22 : decode cX12_briefOf 22 = .ok (.iload_n 1, 1) := by decide +kernel
theorem dX12_briefOf_23 : decode cX12_briefOf 23 = .ok (.iaload, 1) := by decide +kernel
theorem dX12_briefOf_24 : decode cX12_briefOf 24 = .ok (.invokevirtual 209, 3) := by decide +kernel
theorem dX12_briefOf_27 : decode cX12_briefOf 27 = .ok (.ireturn, 1) := by decide +kernel
theorem dX12_word_0 : decode cX12_word 0 = .ok (.iconst 0, 1) := by decide +kernel
theorem dX12_word_1 : decode cX12_word 1 = .ok (.istore 4, 2) := by decide +kernel
theorem dX12_word_3 : decode cX12_word 3 = .ok (.iload_n 3, 1) := by decide +kernel
theorem dX12_word_4 : decode cX12_word 4 = .ok (.tableswitch 213 0 6 #[44, 55, 62, 70, 78, 120, 172], 44) := by decide +kernel
theorem dX12_word_48 : decode cX12_word 48 = .ok (.sipush 160, 3) := by decide +kernel
theorem dX12_word_51 : decode cX12_word 51 = .ok (.aload_n 0, 1) := by decide +kernel
theorem dX12_word_52 : decode cX12_word 52 = .ok (.iload_n 1, 1) := by decide +kernel
theorem dX12_word_53 : decode cX12_word 53 = .ok (.iconst 0, 1) := by decide +kernel
theorem dX12_word_54 : decode cX12_word 54 = .ok (.invokevirtual 177, 3) := by decide +kernel
theorem dX12_word_57 : decode cX12_word 57 = .ok (.isub, 1) := by decide +kernel
theorem dX12_word_58 : decode cX12_word 58 = .ok (.ireturn, 1) := by decide +kernel
theorem dX12_word_59 : decode cX12_word 59 = .ok (.aload_n 0, 1) := by decide +kernel
theorem dX12_word_60 : decode cX12_word 60 = .ok (.iload_n 1, 1) := by decide +kernel
theorem dX12_word_61 : decode cX12_word 61 = .ok (.iload_n 2, 1) := by decide +kernel
theorem dX12_word_62 : decode cX12_word 62 = .ok (.invokevirtual 212, 3) := by decide +kernel
theorem dX12_word_65 : decode cX12_word 65 = .ok (.ireturn, 1) := by decide +kernel
theorem dX12_word_66 : decode cX12_word 66 = .ok (.aload_n 0, 1) := by decide +kernel
theorem dX12_word_67 : decode cX12_word 67 = .ok (.iload_n 1, 1) := by decide +kernel
theorem dX12_word_68 : decode cX12_word 68 = .ok (.bipush 13, 2) := by decide +kernel
theorem dX12_word_70 : decode cX12_word 70 = .ok (.invokevirtual 177, 3) := by decide +kernel
theorem dX12_word_73 : decode cX12_word 73 = .ok (.ireturn, 1) := by decide +kernel
theorem dX12_word_74 : decode cX12_word 74 = .ok (.aload_n 0, 1) := by decide +kernel
theorem dX12_word_75 : decode cX12_word 75 = .ok (.iload_n 1, 1) := by decide +kernel
theorem dX12_word_76 : decode cX12_word 76 = .ok (.bipush 14, 2) := by decide +kernel
theorem dX12_word_78 : decode cX12_word 78 = .ok (.invokevirtual 177, 3) := by decide +kernel
theorem dX12_word_81 : decode cX12_word 81 = .ok (.ireturn, 1) := by decide +kernel
theorem dX12_word_82 : decode cX12_word 82 = .ok (.iconst 1, 1) := by decide +kernel
theorem dX12_word_83 : decode cX12_word 83 = .ok (.istore 5, 2) := by decide +kernel
theorem dX12_word_85 : decode cX12_word 85 = .ok (.iload 5, 2) := by decide +kernel
theorem dX12_word_87 : decode cX12_word 87 = .ok (.bipush 12, 2) := by decide +kernel
theorem dX12_word_89 : decode cX12_word 89 = .ok (.if_icmp .gt 32, 3) := by decide +kernel
theorem dX12_word_92 : decode cX12_word 92 = .ok (.iload 4, 2) := by decide +kernel
theorem dX12_word_94 : decode cX12_word 94 = .ok (.aload_n 0, 1) := by decide +kernel
theorem dX12_word_95 : decode cX12_word 95 = .ok (.iload_n 1, 1) := by decide +kernel
theorem dX12_word_96 : decode cX12_word 96 = .ok (.iload 5, 2) := by decide +kernel
theorem dX12_word_98 : decode cX12_word 98 = .ok (.invokevirtual 177, 3) := by decide +kernel
theorem dX12_word_101 : decode cX12_word 101 = .ok (.ifCond .le 7, 3) := by decide +kernel
theorem dX12_word_104 : decode cX12_word 104 = .ok (.iconst 1, 1) := by decide +kernel
theorem dX12_word_105 : decode cX12_word 105 = .ok (.goto 4, 3) := by decide +kernel
theorem dX12_word_108 : decode cX12_word 108 = .ok (.iconst 0, 1) := by decide +kernel
theorem dX12_word_109 : decode cX12_word 109 = .ok (.invokestatic 162, 3) := by decide +kernel
theorem dX12_word_112 : decode cX12_word 112 = .ok (.iadd, 1) := by decide +kernel
theorem dX12_word_113 : decode cX12_word 113 = .ok (.istore 4, 2) := by decide +kernel
theorem dX12_word_115 : decode cX12_word 115 = .ok (.iinc 5 1, 3) := by decide +kernel
theorem dX12_word_118 : decode cX12_word 118 = .ok (.goto (-33), 3) := by decide +kernel
theorem dX12_word_121 : decode cX12_word 121 = .ok (.iload 4, 2) := by decide +kernel
theorem dX12_word_123 : decode cX12_word 123 = .ok (.ireturn, 1) := by decide +kernel
theorem dX12_word_124 : decode cX12_word 124 = .ok (.iconst 1, 1) := by decide +kernel
theorem dX12_word_125 : decode cX12_word 125 = .ok (.istore 5, 2) := by decide +kernel
theorem dX12_word_127 : decode cX12_word 127 = .ok (.iload 5, 2) := by decide +kernel
theorem dX12_word_129 : decode cX12_word 129 = .ok (.bipush 12, 2) := by decide +kernel
theorem dX12_word_131 : decode cX12_word 131 = .ok (.if_icmp .gt 42, 3) := by decide +kernel
theorem dX12_word_134 : decode cX12_word 134 = .ok (.iload 4, 2) := by decide +kernel
theorem dX12_word_136 : decode cX12_word 136 = .ok (.aload_n 0, 1) := by decide +kernel
theorem dX12_word_137 : decode cX12_word 137 = .ok (.iload_n 1, 1) := by decide +kernel
theorem dX12_word_138 : decode cX12_word 138 = .ok (.iload 5, 2) := by decide +kernel
theorem dX12_word_140 : decode cX12_word 140 = .ok (.invokevirtual 177, 3) := by decide +kernel
theorem dX12_word_143 : decode cX12_word 143 = .ok (.ifCond .le 17, 3) := by decide +kernel
theorem dX12_word_146 : decode cX12_word 146 = .ok (.aload_n 0, 1) := by decide +kernel
theorem dX12_word_147 : decode cX12_word 147 = .ok (.iload_n 1, 1) := by decide +kernel
theorem dX12_word_148 : decode cX12_word 148 = .ok (.iload 5, 2) := by decide +kernel
theorem dX12_word_150 : decode cX12_word 150 = .ok (.invokevirtual 180, 3) := by decide +kernel
theorem dX12_word_153 : decode cX12_word 153 = .ok (.ifCond .ne 7, 3) := by decide +kernel
theorem dX12_word_156 : decode cX12_word 156 = .ok (.iconst 1, 1) := by decide +kernel
theorem dX12_word_157 : decode cX12_word 157 = .ok (.goto 4, 3) := by decide +kernel
theorem dX12_word_160 : decode cX12_word 160 = .ok (.iconst 0, 1) := by decide +kernel
theorem dX12_word_161 : decode cX12_word 161 = .ok (.invokestatic 162, 3) := by decide +kernel
theorem dX12_word_164 : decode cX12_word 164 = .ok (.iadd, 1) := by decide +kernel
theorem dX12_word_165 : decode cX12_word 165 = .ok (.istore 4, 2) := by decide +kernel
theorem dX12_word_167 : decode cX12_word 167 = .ok (.iinc 5 1, 3) := by decide +kernel
theorem dX12_word_170 : decode cX12_word 170 = .ok (.goto (-43), 3) := by decide +kernel
theorem dX12_word_173 : decode cX12_word 173 = .ok (.iload 4, 2) := by decide +kernel
theorem dX12_word_175 : decode cX12_word 175 = .ok (.ireturn, 1) := by decide +kernel
theorem dX12_word_176 : decode cX12_word 176 = .ok (.aload_n 0, 1) := by decide +kernel
theorem dX12_word_177 : decode cX12_word 177 = .ok (.getfield 20, 3) := by decide +kernel
theorem dX12_word_180 : decode cX12_word 180 = .ok (.iload_n 1, 1) := by decide +kernel
theorem dX12_word_181 : decode cX12_word 181 = .ok (.iaload, 1) := by decide +kernel
theorem dX12_word_182 : decode cX12_word 182 = .ok (.iconst (-1), 1) := by decide +kernel
theorem dX12_word_183 : decode cX12_word 183 = .ok (.if_icmp .ne 10, 3) := by decide +kernel
theorem dX12_word_186 : decode cX12_word 186 = .ok (.aload_n 0, 1) := by decide +kernel
theorem dX12_word_187 : decode cX12_word 187 = .ok (.getfield 144, 3) := by decide +kernel
theorem dX12_word_190 : decode cX12_word 190 = .ok (.goto 9, 3) := by decide +kernel
theorem dX12_word_193 : decode cX12_word 193 = .ok (.aload_n 0, 1) := by decide +kernel
theorem dX12_word_194 : decode cX12_word 194 = .ok (.getfield 20, 3) := by decide +kernel
theorem dX12_word_197 : decode cX12_word 197 = .ok (.iload_n 1, 1) := by decide +kernel
theorem dX12_word_198 : decode cX12_word 198 = .ok (.iaload, 1) := by decide +kernel
theorem dX12_word_199 : decode cX12_word 199 = .ok (.aload_n 0, 1) := by decide +kernel
theorem dX12_word_200 : decode cX12_word 200 = .ok (.iload_n 2, 1) := by decide +kernel
theorem dX12_word_201 : decode cX12_word 201 = .ok (.iconst 4, 1) := by decide +kernel
theorem dX12_word_202 : decode cX12_word 202 = .ok (.invokevirtual 200, 3) := by decide +kernel
theorem dX12_word_205 : decode cX12_word 205 = .ok (.if_icmp .le 7, 3) := by decide +kernel
theorem dX12_word_208 : decode cX12_word 208 = .ok (.iconst 1, 1) := by decide +kernel
theorem dX12_word_209 : decode cX12_word 209 = .ok (.goto 4, 3) := by decide +kernel
theorem dX12_word_212 : decode cX12_word 212 = .ok (.iconst 0, 1) := by decide +kernel
theorem dX12_word_213 : decode cX12_word 213 = .ok (.invokestatic 162, 3) := by decide +kernel
theorem dX12_word_216 : decode cX12_word 216 = .ok (.ireturn, 1) := by decide +kernel
theorem dX12_word_217 : decode cX12_word 217 = .ok (.iconst 0, 1) := by decide +kernel
theorem dX12_word_218 : decode cX12_word 218 = .ok (.istore 5, 2) := by decide +kernel
theorem dX12_word_220 : decode cX12_word 220 = .ok (.iload 5, 2) := by decide +kernel
theorem dX12_word_222 : decode cX12_word 222 = .ok (.iconst 2, 1) := by decide +kernel
theorem dX12_word_223 : decode cX12_word 223 = .ok (.if_icmp .ge 70, 3) := by decide +kernel
theorem dX12_word_226 : decode cX12_word 226 = .ok (.iconst 0, 1) := by decide +kernel
theorem dX12_word_227 : decode cX12_word 227 = .ok (.istore 6, 2) := by decide +kernel
theorem dX12_word_229 : decode cX12_word 229 = .ok (.bipush 80, 2) := by decide +kernel
theorem dX12_word_231 : decode cX12_word 231 = .ok (.iload 5, 2) := by decide +kernel
theorem dX12_word_233 : decode cX12_word 233 = .ok (.imul, 1) := by decide +kernel
theorem dX12_word_234 : decode cX12_word 234 = .ok (.istore 7, 2) := by decide +kernel
theorem dX12_word_236 : decode cX12_word 236 = .ok (.iload 7, 2) := by decide +kernel
theorem dX12_word_238 : decode cX12_word 238 = .ok (.bipush 80, 2) := by decide +kernel
theorem dX12_word_240 : decode cX12_word 240 = .ok (.iload 5, 2) := by decide +kernel
theorem dX12_word_242 : decode cX12_word 242 = .ok (.imul, 1) := by decide +kernel
theorem dX12_word_243 : decode cX12_word 243 = .ok (.bipush 80, 2) := by decide +kernel
theorem dX12_word_245 : decode cX12_word 245 = .ok (.iadd, 1) := by decide +kernel
theorem dX12_word_246 : decode cX12_word 246 = .ok (.if_icmp .ge 31, 3) := by decide +kernel
theorem dX12_word_249 : decode cX12_word 249 = .ok (.iload 6, 2) := by decide +kernel
theorem dX12_word_251 : decode cX12_word 251 = .ok (.ifCond .ne 13, 3) := by decide +kernel
theorem dX12_word_254 : decode cX12_word 254 = .ok (.aload_n 0, 1) := by decide +kernel
theorem dX12_word_255 : decode cX12_word 255 = .ok (.iload_n 1, 1) := by decide +kernel
theorem dX12_word_256 : decode cX12_word 256 = .ok (.iload 7, 2) := by decide +kernel
theorem dX12_word_258 : decode cX12_word 258 = .ok (.invokevirtual 158, 3) := by decide +kernel
theorem dX12_word_261 : decode cX12_word 261 = .ok (.ifCond .le 7, 3) := by decide +kernel
theorem dX12_word_264 : decode cX12_word 264 = .ok (.iconst 1, 1) := by decide +kernel
theorem dX12_word_265 : decode cX12_word 265 = .ok (.goto 4, 3) := by decide +kernel
theorem dX12_word_268 : decode cX12_word 268 = .ok (.iconst 0, 1) := by decide +kernel
theorem dX12_word_269 : decode cX12_word 269 = .ok (.istore 6, 2) := by decide +kernel
theorem dX12_word_271 : decode cX12_word 271 = .ok (.iinc 7 1, 3) := by decide +kernel
theorem dX12_word_274 : decode cX12_word 274 = .ok (.goto (-38), 3) := by decide +kernel
theorem dX12_word_277 : decode cX12_word 277 = .ok (.iload 4, 2) := by decide +kernel
theorem dX12_word_279 : decode cX12_word 279 = .ok (.iload 6, 2) := by decide +kernel
theorem dX12_word_281 : decode cX12_word 281 = .ok (.invokestatic 162, 3) := by decide +kernel
theorem dX12_word_284 : decode cX12_word 284 = .ok (.iadd, 1) := by decide +kernel
theorem dX12_word_285 : decode cX12_word 285 = .ok (.istore 4, 2) := by decide +kernel
theorem dX12_word_287 : decode cX12_word 287 = .ok (.iinc 5 1, 3) := by decide +kernel
theorem dX12_word_290 : decode cX12_word 290 = .ok (.goto (-70), 3) := by decide +kernel
theorem dX12_word_293 : decode cX12_word 293 = .ok (.iload 4, 2) := by decide +kernel
theorem dX12_word_295 : decode cX12_word 295 = .ok (.ireturn, 1) := by decide +kernel
theorem dX12_holds_0 : decode cX12_holds 0 = .ok (.aload_n 0, 1) := by decide +kernel
theorem dX12_holds_1 : decode cX12_holds 1 = .ok (.getfield 69, 3) := by decide +kernel
theorem dX12_holds_4 : decode cX12_holds 4 = .ok (.iload_n 1, 1) := by decide +kernel
theorem dX12_holds_5 : decode cX12_holds 5 = .ok (.iaload, 1) := by decide +kernel
theorem dX12_holds_6 : decode cX12_holds 6 = .ok (.tableswitch 129 0 2 #[26, 67, 108], 26) := by decide +kernel
theorem dX12_holds_32 : decode cX12_holds 32 = .ok (.aload_n 0, 1) := by decide +kernel
theorem dX12_holds_33 : decode cX12_holds 33 = .ok (.getfield 72, 3) := by decide +kernel
theorem dX12_holds_36 : decode cX12_holds 36 = .ok (.iload_n 1, 1) := by decide +kernel
theorem dX12_holds_37 : decode cX12_holds 37 = .ok (.iaload, 1) := by decide +kernel
theorem dX12_holds_38 : decode cX12_holds 38 = .ok (.istore 4, 2) := by decide +kernel
theorem dX12_holds_40 : decode cX12_holds 40 = .ok (.iload 4, 2) := by decide +kernel
theorem dX12_holds_42 : decode cX12_holds 42 = .ok (.iconst (-1), 1) := by decide +kernel
theorem dX12_holds_43 : decode cX12_holds 43 = .ok (.if_icmp .eq 28, 3) := by decide +kernel
theorem dX12_holds_46 : decode cX12_holds 46 = .ok (.aload_n 0, 1) := by decide +kernel
theorem dX12_holds_47 : decode cX12_holds 47 = .ok (.iload 4, 2) := by decide +kernel
theorem dX12_holds_49 : decode cX12_holds 49 = .ok (.iload_n 2, 1) := by decide +kernel
theorem dX12_holds_50 : decode cX12_holds 50 = .ok (.iload_n 3, 1) := by decide +kernel
theorem dX12_holds_51 : decode cX12_holds 51 = .ok (.invokevirtual 217, 3) := by decide +kernel
theorem dX12_holds_54 : decode cX12_holds 54 = .ok (.ifCond .eq 5, 3) := by decide +kernel
theorem dX12_holds_57 : decode cX12_holds 57 = .ok (.iconst 1, 1) := by decide +kernel
theorem dX12_holds_58 : decode cX12_holds 58 = .ok (.ireturn, 1) := by decide +kernel
theorem dX12_holds_59 : decode cX12_holds 59 = .ok (.aload_n 0, 1) := by decide +kernel
theorem dX12_holds_60 : decode cX12_holds 60 = .ok (.getfield 75, 3) := by decide +kernel
theorem dX12_holds_63 : decode cX12_holds 63 = .ok (.iload 4, 2) := by decide +kernel
theorem dX12_holds_65 : decode cX12_holds 65 = .ok (.iaload, 1) := by decide +kernel
theorem dX12_holds_66 : decode cX12_holds 66 = .ok (.istore 4, 2) := by decide +kernel
theorem dX12_holds_68 : decode cX12_holds 68 = .ok (.goto (-28), 3) := by decide +kernel
theorem dX12_holds_71 : decode cX12_holds 71 = .ok (.iconst 0, 1) := by decide +kernel
theorem dX12_holds_72 : decode cX12_holds 72 = .ok (.ireturn, 1) := by decide +kernel
theorem dX12_holds_73 : decode cX12_holds 73 = .ok (.aload_n 0, 1) := by decide +kernel
theorem dX12_holds_74 : decode cX12_holds 74 = .ok (.getfield 72, 3) := by decide +kernel
theorem dX12_holds_77 : decode cX12_holds 77 = .ok (.iload_n 1, 1) := by decide +kernel
theorem dX12_holds_78 : decode cX12_holds 78 = .ok (.iaload, 1) := by decide +kernel
theorem dX12_holds_79 : decode cX12_holds 79 = .ok (.istore 4, 2) := by decide +kernel
theorem dX12_holds_81 : decode cX12_holds 81 = .ok (.iload 4, 2) := by decide +kernel
theorem dX12_holds_83 : decode cX12_holds 83 = .ok (.iconst (-1), 1) := by decide +kernel
theorem dX12_holds_84 : decode cX12_holds 84 = .ok (.if_icmp .eq 28, 3) := by decide +kernel
theorem dX12_holds_87 : decode cX12_holds 87 = .ok (.aload_n 0, 1) := by decide +kernel
theorem dX12_holds_88 : decode cX12_holds 88 = .ok (.iload 4, 2) := by decide +kernel
theorem dX12_holds_90 : decode cX12_holds 90 = .ok (.iload_n 2, 1) := by decide +kernel
theorem dX12_holds_91 : decode cX12_holds 91 = .ok (.iload_n 3, 1) := by decide +kernel
theorem dX12_holds_92 : decode cX12_holds 92 = .ok (.invokevirtual 217, 3) := by decide +kernel
theorem dX12_holds_95 : decode cX12_holds 95 = .ok (.ifCond .ne 5, 3) := by decide +kernel
theorem dX12_holds_98 : decode cX12_holds 98 = .ok (.iconst 0, 1) := by decide +kernel
theorem dX12_holds_99 : decode cX12_holds 99 = .ok (.ireturn, 1) := by decide +kernel
theorem dX12_holds_100 : decode cX12_holds 100 = .ok (.aload_n 0, 1) := by decide +kernel
theorem dX12_holds_101 : decode cX12_holds 101 = .ok (.getfield 75, 3) := by decide +kernel
theorem dX12_holds_104 : decode cX12_holds 104 = .ok (.iload 4, 2) := by decide +kernel
theorem dX12_holds_106 : decode cX12_holds 106 = .ok (.iaload, 1) := by decide +kernel
theorem dX12_holds_107 : decode cX12_holds 107 = .ok (.istore 4, 2) := by decide +kernel
theorem dX12_holds_109 : decode cX12_holds 109 = .ok (.goto (-28), 3) := by decide +kernel
theorem dX12_holds_112 : decode cX12_holds 112 = .ok (.iconst 1, 1) := by decide +kernel
theorem dX12_holds_113 : decode cX12_holds 113 = .ok (.ireturn, 1) := by decide +kernel
theorem dX12_holds_114 : decode cX12_holds 114 = .ok (.aload_n 0, 1) := by decide +kernel
theorem dX12_holds_115 : decode cX12_holds 115 = .ok (.aload_n 0, 1) := by decide +kernel
theorem dX12_holds_116 : decode cX12_holds 116 = .ok (.getfield 72, 3) := by decide +kernel
theorem dX12_holds_119 : decode cX12_holds 119 = .ok (.iload_n 1, 1) := by decide +kernel
theorem dX12_holds_120 : decode cX12_holds 120 = .ok (.iaload, 1) := by decide +kernel
theorem dX12_holds_121 : decode cX12_holds 121 = .ok (.iload_n 2, 1) := by decide +kernel
theorem dX12_holds_122 : decode cX12_holds 122 = .ok (.iload_n 3, 1) := by decide +kernel
theorem dX12_holds_123 : decode cX12_holds 123 = .ok (.invokevirtual 217, 3) := by decide +kernel
theorem dX12_holds_126 : decode cX12_holds 126 = .ok (.ifCond .ne 7, 3) := by decide +kernel
theorem dX12_holds_129 : decode cX12_holds 129 = .ok (.iconst 1, 1) := by decide +kernel
theorem dX12_holds_130 : decode cX12_holds 130 = .ok (.goto 4, 3) := by decide +kernel
theorem dX12_holds_133 : decode cX12_holds 133 = .ok (.iconst 0, 1) := by decide +kernel
theorem dX12_holds_134 : decode cX12_holds 134 = .ok (.ireturn, 1) := by decide +kernel
theorem dX12_holds_135 : decode cX12_holds 135 = .ok (.aload_n 0, 1) := by decide +kernel
theorem dX12_holds_136 : decode cX12_holds 136 = .ok (.iload_n 2, 1) := by decide +kernel
theorem dX12_holds_137 : decode cX12_holds 137 = .ok (.iload_n 3, 1) := by decide +kernel
theorem dX12_holds_138 : decode cX12_holds 138 = .ok (.aload_n 0, 1) := by decide +kernel
theorem dX12_holds_139 : decode cX12_holds 139 = .ok (.getfield 78, 3) := by decide +kernel
theorem dX12_holds_142 : decode cX12_holds 142 = .ok (.iload_n 1, 1) := by decide +kernel
theorem dX12_holds_143 : decode cX12_holds 143 = .ok (.iaload, 1) := by decide +kernel
theorem dX12_holds_144 : decode cX12_holds 144 = .ok (.invokevirtual 220, 3) := by decide +kernel
theorem dX12_holds_147 : decode cX12_holds 147 = .ok (.istore 4, 2) := by decide +kernel
theorem dX12_holds_149 : decode cX12_holds 149 = .ok (.aload_n 0, 1) := by decide +kernel
theorem dX12_holds_150 : decode cX12_holds 150 = .ok (.getfield 81, 3) := by decide +kernel
theorem dX12_holds_153 : decode cX12_holds 153 = .ok (.iload_n 1, 1) := by decide +kernel
theorem dX12_holds_154 : decode cX12_holds 154 = .ok (.iaload, 1) := by decide +kernel
theorem dX12_holds_155 : decode cX12_holds 155 = .ok (.bipush 60, 2) := by decide +kernel
theorem dX12_holds_157 : decode cX12_holds 157 = .ok (.if_icmp .ne 22, 3) := by decide +kernel
theorem dX12_holds_160 : decode cX12_holds 160 = .ok (.iload 4, 2) := by decide +kernel
theorem dX12_holds_162 : decode cX12_holds 162 = .ok (.aload_n 0, 1) := by decide +kernel
theorem dX12_holds_163 : decode cX12_holds 163 = .ok (.getfield 84, 3) := by decide +kernel
theorem dX12_holds_166 : decode cX12_holds 166 = .ok (.iload_n 1, 1) := by decide +kernel
theorem dX12_holds_167 : decode cX12_holds 167 = .ok (.iaload, 1) := by decide +kernel
theorem dX12_holds_168 : decode cX12_holds 168 = .ok (.if_icmp .ge 7, 3) := by decide +kernel
theorem dX12_holds_171 : decode cX12_holds 171 = .ok (.iconst 1, 1) := by decide +kernel
theorem dX12_holds_172 : decode cX12_holds 172 = .ok (.goto 53, 3) := by decide +kernel
theorem dX12_holds_175 : decode cX12_holds 175 = .ok (.iconst 0, 1) := by decide +kernel
theorem dX12_holds_176 : decode cX12_holds 176 = .ok (.goto 49, 3) := by decide +kernel
theorem dX12_holds_179 : decode cX12_holds 179 = .ok (.aload_n 0, 1) := by decide +kernel
theorem dX12_holds_180 : decode cX12_holds 180 = .ok (.getfield 81, 3) := by decide +kernel
theorem dX12_holds_183 : decode cX12_holds 183 = .ok (.iload_n 1, 1) := by decide +kernel
theorem dX12_holds_184 : decode cX12_holds 184 = .ok (.iaload, 1) := by decide +kernel
theorem dX12_holds_185 : decode cX12_holds 185 = .ok (.bipush 62, 2) := by decide +kernel
theorem dX12_holds_187 : decode cX12_holds 187 = .ok (.if_icmp .ne 22, 3) := by decide +kernel
theorem dX12_holds_190 : decode cX12_holds 190 = .ok (.iload 4, 2) := by decide +kernel
theorem dX12_holds_192 : decode cX12_holds 192 = .ok (.aload_n 0, 1) := by decide +kernel
theorem dX12_holds_193 : decode cX12_holds 193 = .ok (.getfield 84, 3) := by decide +kernel
theorem dX12_holds_196 : decode cX12_holds 196 = .ok (.iload_n 1, 1) := by decide +kernel
theorem dX12_holds_197 : decode cX12_holds 197 = .ok (.iaload, 1) := by decide +kernel
theorem dX12_holds_198 : decode cX12_holds 198 = .ok (.if_icmp .le 7, 3) := by decide +kernel
theorem dX12_holds_201 : decode cX12_holds 201 = .ok (.iconst 1, 1) := by decide +kernel
theorem dX12_holds_202 : decode cX12_holds 202 = .ok (.goto 23, 3) := by decide +kernel
theorem dX12_holds_205 : decode cX12_holds 205 = .ok (.iconst 0, 1) := by decide +kernel
theorem dX12_holds_206 : decode cX12_holds 206 = .ok (.goto 19, 3) := by decide +kernel
theorem dX12_holds_209 : decode cX12_holds 209 = .ok (.iload 4, 2) := by decide +kernel
theorem dX12_holds_211 : decode cX12_holds 211 = .ok (.aload_n 0, 1) := by decide +kernel
theorem dX12_holds_212 : decode cX12_holds 212 = .ok (.getfield 84, 3) := by decide +kernel
theorem dX12_holds_215 : decode cX12_holds 215 = .ok (.iload_n 1, 1) := by decide +kernel
theorem dX12_holds_216 : decode cX12_holds 216 = .ok (.iaload, 1) := by decide +kernel
theorem dX12_holds_217 : decode cX12_holds 217 = .ok (.if_icmp .ne 7, 3) := by decide +kernel
theorem dX12_holds_220 : decode cX12_holds 220 = .ok (.iconst 1, 1) := by decide +kernel
theorem dX12_holds_221 : decode cX12_holds 221 = .ok (.goto 4, 3) := by decide +kernel
theorem dX12_holds_224 : decode cX12_holds 224 = .ok (.iconst 0, 1) := by decide +kernel
theorem dX12_holds_225 : decode cX12_holds 225 = .ok (.ireturn, 1) := by decide +kernel
theorem dX12_breaks_0 : decode cX12_breaks 0 = .ok (.aload_n 0, 1) := by decide +kernel
theorem dX12_breaks_1 : decode cX12_breaks 1 = .ok (.getfield 57, 3) := by decide +kernel
theorem dX12_breaks_4 : decode cX12_breaks 4 = .ok (.iload_n 1, 1) := by decide +kernel
theorem dX12_breaks_5 : decode cX12_breaks 5 = .ok (.iaload, 1) := by decide +kernel
theorem dX12_breaks_6 : decode cX12_breaks 6 = .ok (.tableswitch 211 11 16 #[38, 93, 135, 211, 177, 198], 38) := by decide +kernel
theorem dX12_breaks_44 : decode cX12_breaks 44 = .ok (.aload_n 0, 1) := by decide +kernel
theorem dX12_breaks_45 : decode cX12_breaks 45 = .ok (.iload_n 2, 1) := by decide +kernel
theorem dX12_breaks_46 : decode cX12_breaks 46 = .ok (.aload_n 0, 1) := by decide +kernel
theorem dX12_breaks_47 : decode cX12_breaks 47 = .ok (.getfield 60, 3) := by decide +kernel
theorem dX12_breaks_50 : decode cX12_breaks 50 = .ok (.iload_n 1, 1) := by decide +kernel
theorem dX12_breaks_51 : decode cX12_breaks 51 = .ok (.iaload, 1) := by decide +kernel
theorem dX12_breaks_52 : decode cX12_breaks 52 = .ok (.invokevirtual 177, 3) := by decide +kernel
theorem dX12_breaks_55 : decode cX12_breaks 55 = .ok (.aload_n 0, 1) := by decide +kernel
theorem dX12_breaks_56 : decode cX12_breaks 56 = .ok (.getfield 63, 3) := by decide +kernel
theorem dX12_breaks_59 : decode cX12_breaks 59 = .ok (.iload_n 1, 1) := by decide +kernel
theorem dX12_breaks_60 : decode cX12_breaks 60 = .ok (.iaload, 1) := by decide +kernel
theorem dX12_breaks_61 : decode cX12_breaks 61 = .ok (.if_icmp .lt 32, 3) := by decide +kernel
theorem dX12_breaks_64 : decode cX12_breaks 64 = .ok (.aload_n 0, 1) := by decide +kernel
theorem dX12_breaks_65 : decode cX12_breaks 65 = .ok (.getfield 66, 3) := by decide +kernel
theorem dX12_breaks_68 : decode cX12_breaks 68 = .ok (.iload_n 1, 1) := by decide +kernel
theorem dX12_breaks_69 : decode cX12_breaks 69 = .ok (.iaload, 1) := by decide +kernel
theorem dX12_breaks_70 : decode cX12_breaks 70 = .ok (.ifCond .le 27, 3) := by decide +kernel
theorem dX12_breaks_73 : decode cX12_breaks 73 = .ok (.aload_n 0, 1) := by decide +kernel
theorem dX12_breaks_74 : decode cX12_breaks 74 = .ok (.iload_n 2, 1) := by decide +kernel
theorem dX12_breaks_75 : decode cX12_breaks 75 = .ok (.aload_n 0, 1) := by decide +kernel
theorem dX12_breaks_76 : decode cX12_breaks 76 = .ok (.getfield 60, 3) := by decide +kernel
theorem dX12_breaks_79 : decode cX12_breaks 79 = .ok (.iload_n 1, 1) := by decide +kernel
theorem dX12_breaks_80 : decode cX12_breaks 80 = .ok (.iaload, 1) := by decide +kernel
theorem dX12_breaks_81 : decode cX12_breaks 81 = .ok (.invokevirtual 180, 3) := by decide +kernel
theorem dX12_breaks_84 : decode cX12_breaks 84 = .ok (.aload_n 0, 1) := by decide +kernel
theorem dX12_breaks_85 : decode cX12_breaks 85 = .ok (.getfield 66, 3) := by decide +kernel
theorem dX12_breaks_88 : decode cX12_breaks 88 = .ok (.iload_n 1, 1) := by decide +kernel
theorem dX12_breaks_89 : decode cX12_breaks 89 = .ok (.iaload, 1) := by decide +kernel
theorem dX12_breaks_90 : decode cX12_breaks 90 = .ok (.if_icmp .ge 7, 3) := by decide +kernel
theorem dX12_breaks_93 : decode cX12_breaks 93 = .ok (.iconst 1, 1) := by decide +kernel
theorem dX12_breaks_94 : decode cX12_breaks 94 = .ok (.goto 4, 3) := by decide +kernel
theorem dX12_breaks_97 : decode cX12_breaks 97 = .ok (.iconst 0, 1) := by decide +kernel
theorem dX12_breaks_98 : decode cX12_breaks 98 = .ok (.ireturn, 1) := by decide +kernel
theorem dX12_breaks_99 : decode cX12_breaks 99 = .ok (.aload_n 0, 1) := by decide +kernel
theorem dX12_breaks_100 : decode cX12_breaks 100 = .ok (.iload_n 2, 1) := by decide +kernel
theorem dX12_breaks_101 : decode cX12_breaks 101 = .ok (.aload_n 0, 1) := by decide +kernel
theorem dX12_breaks_102 : decode cX12_breaks 102 = .ok (.getfield 60, 3) := by decide +kernel
theorem dX12_breaks_105 : decode cX12_breaks 105 = .ok (.iload_n 1, 1) := by decide +kernel
theorem dX12_breaks_106 : decode cX12_breaks 106 = .ok (.iaload, 1) := by decide +kernel
theorem dX12_breaks_107 : decode cX12_breaks 107 = .ok (.aload_n 0, 1) := by decide +kernel
theorem dX12_breaks_108 : decode cX12_breaks 108 = .ok (.getfield 63, 3) := by decide +kernel
theorem dX12_breaks_111 : decode cX12_breaks 111 = .ok (.iload_n 1, 1) := by decide +kernel
theorem dX12_breaks_112 : decode cX12_breaks 112 = .ok (.iaload, 1) := by decide +kernel
theorem dX12_breaks_113 : decode cX12_breaks 113 = .ok (.invokevirtual 193, 3) := by decide +kernel
theorem dX12_breaks_116 : decode cX12_breaks 116 = .ok (.istore 4, 2) := by decide +kernel
theorem dX12_breaks_118 : decode cX12_breaks 118 = .ok (.iload 4, 2) := by decide +kernel
theorem dX12_breaks_120 : decode cX12_breaks 120 = .ok (.iconst (-1), 1) := by decide +kernel
theorem dX12_breaks_121 : decode cX12_breaks 121 = .ok (.if_icmp .eq 14, 3) := by decide +kernel
theorem dX12_breaks_124 : decode cX12_breaks 124 = .ok (.iload 4, 2) := by decide +kernel
theorem dX12_breaks_126 : decode cX12_breaks 126 = .ok (.aload_n 0, 1) := by decide +kernel
theorem dX12_breaks_127 : decode cX12_breaks 127 = .ok (.getfield 66, 3) := by decide +kernel
theorem dX12_breaks_130 : decode cX12_breaks 130 = .ok (.iload_n 1, 1) := by decide +kernel
theorem dX12_breaks_131 : decode cX12_breaks 131 = .ok (.iaload, 1) := by decide +kernel
theorem dX12_breaks_132 : decode cX12_breaks 132 = .ok (.if_icmp .le 7, 3) := by decide +kernel
theorem dX12_breaks_135 : decode cX12_breaks 135 = .ok (.iconst 1, 1) := by decide +kernel
theorem dX12_breaks_136 : decode cX12_breaks 136 = .ok (.goto 4, 3) := by decide +kernel
theorem dX12_breaks_139 : decode cX12_breaks 139 = .ok (.iconst 0, 1) := by decide +kernel
theorem dX12_breaks_140 : decode cX12_breaks 140 = .ok (.ireturn, 1) := by decide +kernel
theorem dX12_breaks_141 : decode cX12_breaks 141 = .ok (.aload_n 0, 1) := by decide +kernel
theorem dX12_breaks_142 : decode cX12_breaks 142 = .ok (.iload_n 2, 1) := by decide +kernel
theorem dX12_breaks_143 : decode cX12_breaks 143 = .ok (.aload_n 0, 1) := by decide +kernel
theorem dX12_breaks_144 : decode cX12_breaks 144 = .ok (.getfield 60, 3) := by decide +kernel
theorem dX12_breaks_147 : decode cX12_breaks 147 = .ok (.iload_n 1, 1) := by decide +kernel
theorem dX12_breaks_148 : decode cX12_breaks 148 = .ok (.iaload, 1) := by decide +kernel
theorem dX12_breaks_149 : decode cX12_breaks 149 = .ok (.aload_n 0, 1) := by decide +kernel
theorem dX12_breaks_150 : decode cX12_breaks 150 = .ok (.getfield 63, 3) := by decide +kernel
theorem dX12_breaks_153 : decode cX12_breaks 153 = .ok (.iload_n 1, 1) := by decide +kernel
theorem dX12_breaks_154 : decode cX12_breaks 154 = .ok (.iaload, 1) := by decide +kernel
theorem dX12_breaks_155 : decode cX12_breaks 155 = .ok (.invokevirtual 193, 3) := by decide +kernel
theorem dX12_breaks_158 : decode cX12_breaks 158 = .ok (.istore 4, 2) := by decide +kernel
theorem dX12_breaks_160 : decode cX12_breaks 160 = .ok (.iload 4, 2) := by decide +kernel
theorem dX12_breaks_162 : decode cX12_breaks 162 = .ok (.iconst (-1), 1) := by decide +kernel
theorem dX12_breaks_163 : decode cX12_breaks 163 = .ok (.if_icmp .eq 18, 3) := by decide +kernel
theorem dX12_breaks_166 : decode cX12_breaks 166 = .ok (.iload 4, 2) := by decide +kernel
theorem dX12_breaks_168 : decode cX12_breaks 168 = .ok (.aload_n 0, 1) := by decide +kernel
theorem dX12_breaks_169 : decode cX12_breaks 169 = .ok (.getfield 66, 3) := by decide +kernel
theorem dX12_breaks_172 : decode cX12_breaks 172 = .ok (.iload_n 1, 1) := by decide +kernel
theorem dX12_breaks_173 : decode cX12_breaks 173 = .ok (.iaload, 1) := by decide +kernel
theorem dX12_breaks_174 : decode cX12_breaks 174 = .ok (.if_icmp .ge 7, 3) := by decide +kernel
theorem dX12_breaks_177 : decode cX12_breaks 177 = .ok (.iconst 1, 1) := by decide +kernel
theorem dX12_breaks_178 : decode cX12_breaks 178 = .ok (.goto 4, 3) := by decide +kernel
theorem dX12_breaks_181 : decode cX12_breaks 181 = .ok (.iconst 0, 1) := by decide +kernel
theorem dX12_breaks_182 : decode cX12_breaks 182 = .ok (.ireturn, 1) := by decide +kernel
theorem dX12_breaks_183 : decode cX12_breaks 183 = .ok (.aload_n 0, 1) := by decide +kernel
theorem dX12_breaks_184 : decode cX12_breaks 184 = .ok (.iload_n 2, 1) := by decide +kernel
theorem dX12_breaks_185 : decode cX12_breaks 185 = .ok (.iload_n 3, 1) := by decide +kernel
theorem dX12_breaks_186 : decode cX12_breaks 186 = .ok (.invokevirtual 212, 3) := by decide +kernel
theorem dX12_breaks_189 : decode cX12_breaks 189 = .ok (.aload_n 0, 1) := by decide +kernel
theorem dX12_breaks_190 : decode cX12_breaks 190 = .ok (.getfield 60, 3) := by decide +kernel
theorem dX12_breaks_193 : decode cX12_breaks 193 = .ok (.iload_n 1, 1) := by decide +kernel
theorem dX12_breaks_194 : decode cX12_breaks 194 = .ok (.iaload, 1) := by decide +kernel
theorem dX12_breaks_195 : decode cX12_breaks 195 = .ok (.if_icmp .le 7, 3) := by decide +kernel
theorem dX12_breaks_198 : decode cX12_breaks 198 = .ok (.iconst 1, 1) := by decide +kernel
theorem dX12_breaks_199 : decode cX12_breaks 199 = .ok (.goto 4, 3) := by decide +kernel
theorem dX12_breaks_202 : decode cX12_breaks 202 = .ok (.iconst 0, 1) := by decide +kernel
theorem dX12_breaks_203 : decode cX12_breaks 203 = .ok (.ireturn, 1) := by decide +kernel
theorem dX12_breaks_204 : decode cX12_breaks 204 = .ok (.aload_n 0, 1) := by decide +kernel
theorem dX12_breaks_205 : decode cX12_breaks 205 = .ok (.aload_n 0, 1) := by decide +kernel
theorem dX12_breaks_206 : decode cX12_breaks 206 = .ok (.getfield 60, 3) := by decide +kernel
theorem dX12_breaks_209 : decode cX12_breaks 209 = .ok (.iload_n 1, 1) := by decide +kernel
theorem dX12_breaks_210 : decode cX12_breaks 210 = .ok (.iaload, 1) := by decide +kernel
theorem dX12_breaks_211 : decode cX12_breaks 211 = .ok (.iload_n 2, 1) := by decide +kernel
theorem dX12_breaks_212 : decode cX12_breaks 212 = .ok (.iload_n 3, 1) := by decide +kernel
theorem dX12_breaks_213 : decode cX12_breaks 213 = .ok (.invokevirtual 217, 3) := by decide +kernel
theorem dX12_breaks_216 : decode cX12_breaks 216 = .ok (.ireturn, 1) := by decide +kernel
theorem dX12_breaks_217 : decode cX12_breaks 217 = .ok (.iconst 0, 1) := by decide +kernel
theorem dX12_breaks_218 : decode cX12_breaks 218 = .ok (.ireturn, 1) := by decide +kernel
theorem dX12_whyOf_0 : decode cX12_whyOf 0 = .ok (.aload_n 0, 1) := by decide +kernel
theorem dX12_whyOf_1 : decode cX12_whyOf 1 = .ok (.iload_n 1, 1) := by decide +kernel
theorem dX12_whyOf_2 : decode cX12_whyOf 2 = .ok (.invokevirtual 223, 3) := by decide +kernel
theorem dX12_whyOf_5 : decode cX12_whyOf 5 = .ok (.istore_n 2, 1) := by decide +kernel
theorem dX12_whyOf_6 : decode cX12_whyOf 6 = .ok (.bipush 40, 2) := by decide +kernel
theorem dX12_whyOf_8 : decode cX12_whyOf 8 = .ok (.iload_n 2, 1) := by decide +kernel
theorem dX12_whyOf_9 : decode cX12_whyOf 9 = .ok (.imul, 1) := by decide +kernel
theorem dX12_whyOf_10 : decode cX12_whyOf 10 = .ok (.istore_n 3, 1) := by decide +kernel
theorem dX12_whyOf_11 : decode cX12_whyOf 11 = .ok (.iload_n 2, 1) := by decide +kernel
theorem dX12_whyOf_12 : decode cX12_whyOf 12 = .ok (.iconst (-1), 1) := by decide +kernel
theorem dX12_whyOf_13 : decode cX12_whyOf 13 = .ok (.if_icmp .eq 39, 3) := by decide +kernel
theorem dX12_whyOf_16 : decode cX12_whyOf 16 = .ok (.iload_n 3, 1) := by decide +kernel
theorem dX12_whyOf_17 : decode cX12_whyOf 17 = .ok (.bipush 40, 2) := by decide +kernel
theorem dX12_whyOf_19 : decode cX12_whyOf 19 = .ok (.iload_n 2, 1) := by decide +kernel
theorem dX12_whyOf_20 : decode cX12_whyOf 20 = .ok (.imul, 1) := by decide +kernel
theorem dX12_whyOf_21 : decode cX12_whyOf 21 = .ok (.aload_n 0, 1) := by decide +kernel
theorem dX12_whyOf_22 : decode cX12_whyOf 22 = .ok (.getfield 51, 3) := by decide +kernel
theorem dX12_whyOf_25 : decode cX12_whyOf 25 = .ok (.iload_n 2, 1) := by decide +kernel
theorem dX12_whyOf_26 : decode cX12_whyOf 26 = .ok (.iaload, 1) := by decide +kernel
theorem dX12_whyOf_27 : decode cX12_whyOf 27 = .ok (.iadd, 1) := by decide +kernel
theorem dX12_whyOf_28 : decode cX12_whyOf 28 = .ok (.if_icmp .ge 24, 3) := by decide +kernel
theorem dX12_whyOf_31 : decode cX12_whyOf 31 = .ok (.aload_n 0, 1) := by decide +kernel
theorem dX12_whyOf_32 : decode cX12_whyOf 32 = .ok (.iload_n 3, 1) := by decide +kernel
theorem dX12_whyOf_33 : decode cX12_whyOf 33 = .ok (.iload_n 1, 1) := by decide +kernel
theorem dX12_whyOf_34 : decode cX12_whyOf 34 = .ok (.iload_n 2, 1) := by decide +kernel
theorem dX12_whyOf_35 : decode cX12_whyOf 35 = .ok (.invokevirtual 226, 3) := by decide +kernel
theorem dX12_whyOf_38 : decode cX12_whyOf 38 = .ok (.ifCond .eq 8, 3) := by decide +kernel
theorem dX12_whyOf_41 : decode cX12_whyOf 41 = .ok (.iload_n 3, 1) := by decide +kernel
theorem dX12_whyOf_42 : decode cX12_whyOf 42 = .ok (.bipush 40, 2) := by decide +kernel
theorem dX12_whyOf_44 : decode cX12_whyOf 44 = .ok (.irem, 1) := by decide +kernel
theorem dX12_whyOf_45 : decode cX12_whyOf 45 = .ok (.ireturn, 1) := by decide +kernel
theorem dX12_whyOf_46 : decode cX12_whyOf 46 = .ok (.iinc 3 1, 3) := by decide +kernel
theorem dX12_whyOf_49 : decode cX12_whyOf 49 = .ok (.goto (-38), 3) := by decide +kernel
theorem dX12_whyOf_52 : decode cX12_whyOf 52 = .ok (.iconst (-1), 1) := by decide +kernel
theorem dX12_whyOf_53 : decode cX12_whyOf 53 = .ok (.ireturn, 1) := by decide +kernel
theorem dX12_why_0 : decode cX12_why 0 = .ok (.aload_n 0, 1) := by decide +kernel
theorem dX12_why_1 : decode cX12_why 1 = .ok (.iload_n 1, 1) := by decide +kernel
theorem dX12_why_2 : decode cX12_why 2 = .ok (.invokevirtual 147, 3) := by decide +kernel
theorem dX12_why_5 : decode cX12_why 5 = .ok (.ifCond .eq 11, 3) := by decide +kernel
theorem dX12_why_8 : decode cX12_why 8 = .ok (.aload_n 0, 1) := by decide +kernel
theorem dX12_why_9 : decode cX12_why 9 = .ok (.iload_n 1, 1) := by decide +kernel
theorem dX12_why_10 : decode cX12_why 10 = .ok (.invokevirtual 229, 3) := by decide +kernel
theorem dX12_why_13 : decode cX12_why 13 = .ok (.goto 5, 3) := by decide +kernel
theorem dX12_why_16 : decode cX12_why 16 = .ok (.bipush (-2), 2) := by decide +kernel
theorem dX12_why_18 : decode cX12_why 18 = .ok (.ireturn, 1) := by decide +kernel
theorem dX12_mends_0 : decode cX12_mends 0 = .ok (.aload_n 0, 1) := by decide +kernel
theorem dX12_mends_1 : decode cX12_mends 1 = .ok (.getfield 32, 3) := by decide +kernel
theorem dX12_mends_4 : decode cX12_mends 4 = .ok (.iload_n 1, 1) := by decide +kernel
theorem dX12_mends_5 : decode cX12_mends 5 = .ok (.iaload, 1) := by decide +kernel
theorem dX12_mends_6 : decode cX12_mends 6 = .ok (.aload_n 0, 1) := by decide +kernel
theorem dX12_mends_7 : decode cX12_mends 7 = .ok (.getfield 7, 3) := by decide +kernel
theorem dX12_mends_10 : decode cX12_mends 10 = .ok (.if_icmp .ne 4, 3) := by decide +kernel
theorem dX12_mends_13 : decode cX12_mends 13 = .ok (.return_, 1) := by decide +kernel
theorem dX12_mends_14 : decode cX12_mends 14 = .ok (.aload_n 0, 1) := by decide +kernel
theorem dX12_mends_15 : decode cX12_mends 15 = .ok (.getfield 32, 3) := by decide +kernel
theorem dX12_mends_18 : decode cX12_mends 18 = .ok (.iload_n 1, 1) := by decide +kernel
theorem dX12_mends_19 : decode cX12_mends 19 = .ok (.aload_n 0, 1) := by decide +kernel
theorem dX12_mends_20 : decode cX12_mends 20 = .ok (.getfield 7, 3) := by decide +kernel
theorem dX12_mends_23 : decode cX12_mends 23 = .ok (.iastore, 1) := by decide +kernel
theorem dX12_mends_24 : decode cX12_mends 24 = .ok (.aload_n 0, 1) := by decide +kernel
theorem dX12_mends_25 : decode cX12_mends 25 = .ok (.getfield 35, 3) := by decide +kernel
theorem dX12_mends_28 : decode cX12_mends 28 = .ok (.iload_n 1, 1) := by decide +kernel
theorem dX12_mends_29 : decode cX12_mends 29 = .ok (.iconst 0, 1) := by decide +kernel
theorem dX12_mends_30 : decode cX12_mends 30 = .ok (.iastore, 1) := by decide +kernel
theorem dX12_mends_31 : decode cX12_mends 31 = .ok (.aload_n 0, 1) := by decide +kernel
theorem dX12_mends_32 : decode cX12_mends 32 = .ok (.getfield 38, 3) := by decide +kernel
theorem dX12_mends_35 : decode cX12_mends 35 = .ok (.iload_n 1, 1) := by decide +kernel
theorem dX12_mends_36 : decode cX12_mends 36 = .ok (.iconst (-1), 1) := by decide +kernel
theorem dX12_mends_37 : decode cX12_mends 37 = .ok (.iastore, 1) := by decide +kernel
theorem dX12_mends_38 : decode cX12_mends 38 = .ok (.aload_n 0, 1) := by decide +kernel
theorem dX12_mends_39 : decode cX12_mends 39 = .ok (.iload_n 1, 1) := by decide +kernel
theorem dX12_mends_40 : decode cX12_mends 40 = .ok (.invokevirtual 229, 3) := by decide +kernel
theorem dX12_mends_43 : decode cX12_mends 43 = .ok (.iconst (-1), 1) := by decide +kernel
theorem dX12_mends_44 : decode cX12_mends 44 = .ok (.if_icmp .ne 4, 3) := by decide +kernel
theorem dX12_mends_47 : decode cX12_mends 47 = .ok (.return_, 1) := by decide +kernel
theorem dX12_mends_48 : decode cX12_mends 48 = .ok (.aload_n 0, 1) := by decide +kernel
theorem dX12_mends_49 : decode cX12_mends 49 = .ok (.getfield 35, 3) := by decide +kernel
theorem dX12_mends_52 : decode cX12_mends 52 = .ok (.iload_n 1, 1) := by decide +kernel
theorem dX12_mends_53 : decode cX12_mends 53 = .ok (.iconst 2, 1) := by decide +kernel
theorem dX12_mends_54 : decode cX12_mends 54 = .ok (.iastore, 1) := by decide +kernel
theorem dX12_mends_55 : decode cX12_mends 55 = .ok (.iconst 0, 1) := by decide +kernel
theorem dX12_mends_56 : decode cX12_mends 56 = .ok (.istore_n 2, 1) := by decide +kernel
theorem dX12_mends_57 : decode cX12_mends 57 = .ok (.iload_n 2, 1) := by decide +kernel
theorem dX12_mends_58 : decode cX12_mends 58 = .ok (.sipush 160, 3) := by decide +kernel
theorem dX12_mends_61 : decode cX12_mends 61 = .ok (.if_icmp .ge 119, 3) := by decide +kernel
theorem dX12_mends_64 : decode cX12_mends 64 = .ok (.aload_n 0, 1) := by decide +kernel
theorem dX12_mends_65 : decode cX12_mends 65 = .ok (.getfield 35, 3) := by decide +kernel
theorem dX12_mends_68 : decode cX12_mends 68 = .ok (.iload_n 1, 1) := by decide +kernel
theorem dX12_mends_69 : decode cX12_mends 69 = .ok (.iaload, 1) := by decide +kernel
theorem dX12_mends_70 : decode cX12_mends 70 = .ok (.iconst 2, 1) := by decide +kernel
theorem dX12_mends_71 : decode cX12_mends 71 = .ok (.if_icmp .ne 109, 3) := by decide +kernel
theorem dX12_mends_74 : decode cX12_mends 74 = .ok (.aload_n 0, 1) := by decide +kernel
theorem dX12_mends_75 : decode cX12_mends 75 = .ok (.iload_n 1, 1) := by decide +kernel
theorem dX12_mends_76 : decode cX12_mends 76 = .ok (.iload_n 2, 1) := by decide +kernel
theorem dX12_mends_77 : decode cX12_mends 77 = .ok (.invokevirtual 158, 3) := by decide +kernel
theorem dX12_mends_80 : decode cX12_mends 80 = .ok (.istore_n 3, 1) := by decide +kernel
theorem dX12_mends_81 : decode cX12_mends 81 = .ok (.iconst 0, 1) := by decide +kernel
theorem dX12_mends_82 : decode cX12_mends 82 = .ok (.istore 4, 2) := by decide +kernel
theorem dX12_mends_84 : decode cX12_mends 84 = .ok (.iload 4, 2) := by decide +kernel
theorem dX12_mends_86 : decode cX12_mends 86 = .ok (.bipush 14, 2) := by decide +kernel
theorem dX12_mends_88 : decode cX12_mends 88 = .ok (.if_icmp .gt 73, 3) := by decide +kernel
theorem dX12_mends_91 : decode cX12_mends 91 = .ok (.aload_n 0, 1) := by decide +kernel
theorem dX12_mends_92 : decode cX12_mends 92 = .ok (.getfield 35, 3) := by decide +kernel
theorem dX12_mends_95 : decode cX12_mends 95 = .ok (.iload_n 1, 1) := by decide +kernel
theorem dX12_mends_96 : decode cX12_mends 96 = .ok (.iaload, 1) := by decide +kernel
theorem dX12_mends_97 : decode cX12_mends 97 = .ok (.iconst 2, 1) := by decide +kernel
theorem dX12_mends_98 : decode cX12_mends 98 = .ok (.if_icmp .ne 63, 3) := by decide +kernel
theorem dX12_mends_101 : decode cX12_mends 101 = .ok (.iload 4, 2) := by decide +kernel
theorem dX12_mends_103 : decode cX12_mends 103 = .ok (.iload_n 3, 1) := by decide +kernel
theorem dX12_mends_104 : decode cX12_mends 104 = .ok (.if_icmp .ne 6, 3) := by decide +kernel
theorem dX12_mends_107 : decode cX12_mends 107 = .ok (.goto 48, 3) := by decide +kernel
theorem dX12_mends_110 : decode cX12_mends 110 = .ok (.aload_n 0, 1) := by decide +kernel
theorem dX12_mends_111 : decode cX12_mends 111 = .ok (.getfield 13, 3) := by decide +kernel
theorem dX12_mends_114 : decode cX12_mends 114 = .ok (.sipush 160, 3) := by decide +kernel
theorem dX12_mends_117 : decode cX12_mends 117 = .ok (.iload_n 1, 1) := by decide +kernel
theorem dX12_mends_118 : decode cX12_mends 118 = .ok (.imul, 1) := by decide +kernel
theorem dX12_mends_119 : decode cX12_mends 119 = .ok (.iload_n 2, 1) := by decide +kernel
theorem dX12_mends_120 : decode cX12_mends 120 = .ok (.iadd, 1) := by decide +kernel
theorem dX12_mends_121 : decode cX12_mends 121 = .ok (.iload 4, 2) := by decide +kernel
theorem dX12_mends_123 : decode cX12_mends 123 = .ok (.iastore, 1) := by decide +kernel
theorem dX12_mends_124 : decode cX12_mends 124 = .ok (.aload_n 0, 1) := by decide +kernel
theorem dX12_mends_125 : decode cX12_mends 125 = .ok (.iload_n 1, 1) := by decide +kernel
theorem dX12_mends_126 : decode cX12_mends 126 = .ok (.invokevirtual 229, 3) := by decide +kernel
theorem dX12_mends_129 : decode cX12_mends 129 = .ok (.iconst (-1), 1) := by decide +kernel
theorem dX12_mends_130 : decode cX12_mends 130 = .ok (.if_icmp .ne 25, 3) := by decide +kernel
theorem dX12_mends_133 : decode cX12_mends 133 = .ok (.aload_n 0, 1) := by decide +kernel
theorem dX12_mends_134 : decode cX12_mends 134 = .ok (.getfield 35, 3) := by decide +kernel
theorem dX12_mends_137 : decode cX12_mends 137 = .ok (.iload_n 1, 1) := by decide +kernel
theorem dX12_mends_138 : decode cX12_mends 138 = .ok (.iconst 1, 1) := by decide +kernel
theorem dX12_mends_139 : decode cX12_mends 139 = .ok (.iastore, 1) := by decide +kernel
theorem dX12_mends_140 : decode cX12_mends 140 = .ok (.aload_n 0, 1) := by decide +kernel
theorem dX12_mends_141 : decode cX12_mends 141 = .ok (.getfield 38, 3) := by decide +kernel
theorem dX12_mends_144 : decode cX12_mends 144 = .ok (.iload_n 1, 1) := by decide +kernel
theorem dX12_mends_145 : decode cX12_mends 145 = .ok (.iload_n 2, 1) := by decide +kernel
theorem dX12_mends_146 : decode cX12_mends 146 = .ok (.iastore, 1) := by decide +kernel
theorem dX12_mends_147 : decode cX12_mends 147 = .ok (.aload_n 0, 1) := by decide +kernel
theorem dX12_mends_148 : decode cX12_mends 148 = .ok (.getfield 41, 3) := by decide +kernel
theorem dX12_mends_151 : decode cX12_mends 151 = .ok (.iload_n 1, 1) := by decide +kernel
theorem dX12_mends_152 : decode cX12_mends 152 = .ok (.iload 4, 2) := by decide +kernel
theorem dX12_mends_154 : decode cX12_mends 154 = .ok (.iastore, 1) := by decide +kernel
theorem dX12_mends_155 : decode cX12_mends 155 = .ok (.iinc 4 1, 3) := by decide +kernel
theorem dX12_mends_158 : decode cX12_mends 158 = .ok (.goto (-74), 3) := by decide +kernel
theorem dX12_mends_161 : decode cX12_mends 161 = .ok (.aload_n 0, 1) := by decide +kernel
theorem dX12_mends_162 : decode cX12_mends 162 = .ok (.getfield 13, 3) := by decide +kernel
theorem dX12_mends_165 : decode cX12_mends 165 = .ok (.sipush 160, 3) := by decide +kernel
theorem dX12_mends_168 : decode cX12_mends 168 = .ok (.iload_n 1, 1) := by decide +kernel
theorem dX12_mends_169 : decode cX12_mends 169 = .ok (.imul, 1) := by decide +kernel
theorem dX12_mends_170 : decode cX12_mends 170 = .ok (.iload_n 2, 1) := by decide +kernel
theorem dX12_mends_171 : decode cX12_mends 171 = .ok (.iadd, 1) := by decide +kernel
theorem dX12_mends_172 : decode cX12_mends 172 = .ok (.iload_n 3, 1) := by decide +kernel
theorem dX12_mends_173 : decode cX12_mends 173 = .ok (.iastore, 1) := by decide +kernel
theorem dX12_mends_174 : decode cX12_mends 174 = .ok (.iinc 2 1, 3) := by decide +kernel
theorem dX12_mends_177 : decode cX12_mends 177 = .ok (.goto (-120), 3) := by decide +kernel
theorem dX12_mends_180 : decode cX12_mends 180 = .ok (.return_, 1) := by decide +kernel
theorem dX12_mend_0 : decode cX12_mend 0 = .ok (.aload_n 0, 1) := by decide +kernel
theorem dX12_mend_1 : decode cX12_mend 1 = .ok (.iload_n 1, 1) := by decide +kernel
theorem dX12_mend_2 : decode cX12_mend 2 = .ok (.invokevirtual 147, 3) := by decide +kernel
theorem dX12_mend_5 : decode cX12_mend 5 = .ok (.ifCond .eq 12, 3) := by decide +kernel
theorem dX12_mend_8 : decode cX12_mend 8 = .ok (.iload_n 2, 1) := by decide +kernel
theorem dX12_mend_9 : decode cX12_mend 9 = .ok (.iconst 0, 1) := by decide +kernel
theorem dX12_mend_10 : decode cX12_mend 10 = .ok (.iconst 4, 1) := by decide +kernel
theorem dX12_mend_11 : decode cX12_mend 11 = .ok (.invokestatic 140, 3) := by decide +kernel
theorem dX12_mend_14 : decode cX12_mend 14 = .ok (.ifCond .ne 5, 3) := by decide +kernel
theorem dX12_mend_17 : decode cX12_mend 17 = .ok (.iconst (-1), 1) := by decide +kernel
theorem dX12_mend_18 : decode cX12_mend 18 = .ok (.ireturn, 1) := by decide +kernel
theorem dX12_mend_19 : decode cX12_mend 19 = .ok (.aload_n 0, 1) := by decide +kernel
theorem dX12_mend_20 : decode cX12_mend 20 = .ok (.iload_n 1, 1) := by decide +kernel
theorem dX12_mend_21 : decode cX12_mend 21 = .ok (.invokevirtual 232, 3) := by decide +kernel
theorem dX12_mend_24 : decode cX12_mend 24 = .ok (.aload_n 0, 1) := by decide +kernel
theorem dX12_mend_25 : decode cX12_mend 25 = .ok (.getfield 38, 3) := by decide +kernel
theorem dX12_mend_28 : decode cX12_mend 28 = .ok (.iload_n 1, 1) := by decide +kernel
theorem dX12_mend_29 : decode cX12_mend 29 = .ok (.iaload, 1) := by decide +kernel
theorem dX12_mend_30 : decode cX12_mend 30 = .ok (.istore_n 3, 1) := by decide +kernel
theorem dX12_mend_31 : decode cX12_mend 31 = .ok (.iload_n 2, 1) := by decide +kernel
theorem dX12_mend_32 : decode cX12_mend 32 = .ok (.ifCond .ne 10, 3) := by decide +kernel
theorem dX12_mend_35 : decode cX12_mend 35 = .ok (.aload_n 0, 1) := by decide +kernel
theorem dX12_mend_36 : decode cX12_mend 36 = .ok (.getfield 35, 3) := by decide +kernel
theorem dX12_mend_39 : decode cX12_mend 39 = .ok (.iload_n 1, 1) := by decide +kernel
theorem dX12_mend_40 : decode cX12_mend 40 = .ok (.iaload, 1) := by decide +kernel
theorem dX12_mend_41 : decode cX12_mend 41 = .ok (.ireturn, 1) := by decide +kernel
theorem dX12_mend_42 : decode cX12_mend 42 = .ok (.iload_n 3, 1) := by decide +kernel
theorem dX12_mend_43 : decode cX12_mend 43 = .ok (.iconst (-1), 1) := by decide +kernel
theorem dX12_mend_44 : decode cX12_mend 44 = .ok (.if_icmp .ne 5, 3) := by decide +kernel
theorem dX12_mend_47 : decode cX12_mend 47 = .ok (.iconst (-1), 1) := by decide +kernel
theorem dX12_mend_48 : decode cX12_mend 48 = .ok (.ireturn, 1) := by decide +kernel
theorem dX12_mend_49 : decode cX12_mend 49 = .ok (.iload_n 2, 1) := by decide +kernel
theorem dX12_mend_50 : decode cX12_mend 50 = .ok (.iconst 1, 1) := by decide +kernel
theorem dX12_mend_51 : decode cX12_mend 51 = .ok (.if_icmp .ne 10, 3) := by decide +kernel
theorem dX12_mend_54 : decode cX12_mend 54 = .ok (.iload_n 3, 1) := by decide +kernel
theorem dX12_mend_55 : decode cX12_mend 55 = .ok (.bipush 80, 2) := by decide +kernel
theorem dX12_mend_57 : decode cX12_mend 57 = .ok (.idiv, 1) := by decide +kernel
theorem dX12_mend_58 : decode cX12_mend 58 = .ok (.goto 36, 3) := by decide +kernel
theorem dX12_mend_61 : decode cX12_mend 61 = .ok (.iload_n 2, 1) := by decide +kernel
theorem dX12_mend_62 : decode cX12_mend 62 = .ok (.iconst 2, 1) := by decide +kernel
theorem dX12_mend_63 : decode cX12_mend 63 = .ok (.if_icmp .ne 10, 3) := by decide +kernel
theorem dX12_mend_66 : decode cX12_mend 66 = .ok (.iload_n 3, 1) := by decide +kernel
theorem dX12_mend_67 : decode cX12_mend 67 = .ok (.bipush 10, 2) := by decide +kernel
theorem dX12_mend_69 : decode cX12_mend 69 = .ok (.irem, 1) := by decide +kernel
theorem dX12_mend_70 : decode cX12_mend 70 = .ok (.goto 24, 3) := by decide +kernel
theorem dX12_mend_73 : decode cX12_mend 73 = .ok (.iload_n 2, 1) := by decide +kernel
theorem dX12_mend_74 : decode cX12_mend 74 = .ok (.iconst 3, 1) := by decide +kernel
theorem dX12_mend_75 : decode cX12_mend 75 = .ok (.if_icmp .ne 13, 3) := by decide +kernel
theorem dX12_mend_78 : decode cX12_mend 78 = .ok (.iload_n 3, 1) := by decide +kernel
theorem dX12_mend_79 : decode cX12_mend 79 = .ok (.bipush 80, 2) := by decide +kernel
theorem dX12_mend_81 : decode cX12_mend 81 = .ok (.irem, 1) := by decide +kernel
theorem dX12_mend_82 : decode cX12_mend 82 = .ok (.bipush 10, 2) := by decide +kernel
theorem dX12_mend_84 : decode cX12_mend 84 = .ok (.idiv, 1) := by decide +kernel
theorem dX12_mend_85 : decode cX12_mend 85 = .ok (.goto 9, 3) := by decide +kernel
theorem dX12_mend_88 : decode cX12_mend 88 = .ok (.aload_n 0, 1) := by decide +kernel
theorem dX12_mend_89 : decode cX12_mend 89 = .ok (.getfield 41, 3) := by decide +kernel
theorem dX12_mend_92 : decode cX12_mend 92 = .ok (.iload_n 1, 1) := by decide +kernel
theorem dX12_mend_93 : decode cX12_mend 93 = .ok (.iaload, 1) := by decide +kernel
theorem dX12_mend_94 : decode cX12_mend 94 = .ok (.ireturn, 1) := by decide +kernel
theorem dX12_alikeOf_0 : decode cX12_alikeOf 0 = .ok (.bipush 10, 2) := by decide +kernel
theorem dX12_alikeOf_2 : decode cX12_alikeOf 2 = .ok (.iload_n 1, 1) := by decide +kernel
theorem dX12_alikeOf_3 : decode cX12_alikeOf 3 = .ok (.iload_n 2, 1) := by decide +kernel
theorem dX12_alikeOf_4 : decode cX12_alikeOf 4 = .ok (.invokestatic 236, 3) := by decide +kernel
theorem dX12_alikeOf_7 : decode cX12_alikeOf 7 = .ok (.imul, 1) := by decide +kernel
theorem dX12_alikeOf_8 : decode cX12_alikeOf 8 = .ok (.iload_n 1, 1) := by decide +kernel
theorem dX12_alikeOf_9 : decode cX12_alikeOf 9 = .ok (.iload_n 2, 1) := by decide +kernel
theorem dX12_alikeOf_10 : decode cX12_alikeOf 10 = .ok (.invokestatic 169, 3) := by decide +kernel
theorem dX12_alikeOf_13 : decode cX12_alikeOf 13 = .ok (.iadd, 1) := by decide +kernel
theorem dX12_alikeOf_14 : decode cX12_alikeOf 14 = .ok (.istore_n 3, 1) := by decide +kernel
theorem dX12_alikeOf_15 : decode cX12_alikeOf 15 = .ok (.aload_n 0, 1) := by decide +kernel
theorem dX12_alikeOf_16 : decode cX12_alikeOf 16 = .ok (.getfield 44, 3) := by decide +kernel
theorem dX12_alikeOf_19 : decode cX12_alikeOf 19 = .ok (.iload_n 3, 1) := by decide +kernel
theorem dX12_alikeOf_20 : decode cX12_alikeOf 20 = .ok (.baload, 1) := by decide +kernel
theorem dX12_alikeOf_21 : decode cX12_alikeOf 21 = .ok (.ifCond .ne 13, 3) := by decide +kernel
theorem dX12_alikeOf_24 : decode cX12_alikeOf 24 = .ok (.aload_n 0, 1) := by decide +kernel
theorem dX12_alikeOf_25 : decode cX12_alikeOf 25 = .ok (.dup, 1) := by decide +kernel
theorem dX12_alikeOf_26 : decode cX12_alikeOf 26 = .ok (.getfield 239, 3) := by decide +kernel
theorem dX12_alikeOf_29 : decode cX12_alikeOf 29 = .ok (.iconst 1, 1) := by decide +kernel
theorem dX12_alikeOf_30 : decode cX12_alikeOf 30 = .ok (.iadd, 1) := by decide +kernel
theorem dX12_alikeOf_31 : decode cX12_alikeOf 31 = .ok (.putfield 239, 3) := by decide +kernel
theorem dX12_alikeOf_34 : decode cX12_alikeOf 34 = .ok (.aload_n 0, 1) := by decide +kernel
theorem dX12_alikeOf_35 : decode cX12_alikeOf 35 = .ok (.getfield 44, 3) := by decide +kernel
theorem dX12_alikeOf_38 : decode cX12_alikeOf 38 = .ok (.iload_n 3, 1) := by decide +kernel
theorem dX12_alikeOf_39 : decode cX12_alikeOf 39 = .ok (.iconst 1, 1) := by decide +kernel
theorem dX12_alikeOf_40 : decode cX12_alikeOf 40 = .ok (.bastore, 1) := by decide +kernel
theorem dX12_alikeOf_41 : decode cX12_alikeOf 41 = .ok (.iconst 0, 1) := by decide +kernel
theorem dX12_alikeOf_42 : decode cX12_alikeOf 42 = .ok (.istore 4, 2) := by decide +kernel
theorem dX12_alikeOf_44 : decode cX12_alikeOf 44 = .ok (.iconst 0, 1) := by decide +kernel
theorem dX12_alikeOf_45 : decode cX12_alikeOf 45 = .ok (.istore 5, 2) := by decide +kernel
theorem dX12_alikeOf_47 : decode cX12_alikeOf 47 = .ok (.iload 5, 2) := by decide +kernel
theorem dX12_alikeOf_49 : decode cX12_alikeOf 49 = .ok (.iconst 4, 1) := by decide +kernel
theorem dX12_alikeOf_50 : decode cX12_alikeOf 50 = .ok (.if_icmp .ge 133, 3) := by decide +kernel
theorem dX12_alikeOf_53 : decode cX12_alikeOf 53 = .ok (.iconst 0, 1) := by decide +kernel
theorem dX12_alikeOf_54 : decode cX12_alikeOf 54 = .ok (.istore 6, 2) := by decide +kernel
theorem dX12_alikeOf_56 : decode cX12_alikeOf 56 = .ok (.iconst 0, 1) := by decide +kernel
theorem dX12_alikeOf_57 : decode cX12_alikeOf 57 = .ok (.istore 7, 2) := by decide +kernel
theorem dX12_alikeOf_59 : decode cX12_alikeOf 59 = .ok (.iload 7, 2) := by decide +kernel
theorem dX12_alikeOf_61 : decode cX12_alikeOf 61 = .ok (.bipush 8, 2) := by decide +kernel
theorem dX12_alikeOf_63 : decode cX12_alikeOf 63 = .ok (.if_icmp .ge 105, 3) := by decide +kernel
theorem dX12_alikeOf_66 : decode cX12_alikeOf 66 = .ok (.iconst 0, 1) := by decide +kernel
theorem dX12_alikeOf_67 : decode cX12_alikeOf 67 = .ok (.istore 8, 2) := by decide +kernel
theorem dX12_alikeOf_69 : decode cX12_alikeOf 69 = .ok (.iload 8, 2) := by decide +kernel
theorem dX12_alikeOf_71 : decode cX12_alikeOf 71 = .ok (.bipush 10, 2) := by decide +kernel
theorem dX12_alikeOf_73 : decode cX12_alikeOf 73 = .ok (.if_icmp .ge 89, 3) := by decide +kernel
theorem dX12_alikeOf_76 : decode cX12_alikeOf 76 = .ok (.aload_n 0, 1) := by decide +kernel
theorem dX12_alikeOf_77 : decode cX12_alikeOf 77 = .ok (.iload_n 1, 1) := by decide +kernel
theorem dX12_alikeOf_78 : decode cX12_alikeOf 78 = .ok (.iconst 0, 1) := by decide +kernel
theorem dX12_alikeOf_79 : decode cX12_alikeOf 79 = .ok (.iload 8, 2) := by decide +kernel
theorem dX12_alikeOf_81 : decode cX12_alikeOf 81 = .ok (.iload 7, 2) := by decide +kernel
theorem dX12_alikeOf_83 : decode cX12_alikeOf 83 = .ok (.invokestatic 154, 3) := by decide +kernel
theorem dX12_alikeOf_86 : decode cX12_alikeOf 86 = .ok (.invokevirtual 158, 3) := by decide +kernel
theorem dX12_alikeOf_89 : decode cX12_alikeOf 89 = .ok (.istore 9, 2) := by decide +kernel
theorem dX12_alikeOf_91 : decode cX12_alikeOf 91 = .ok (.iload 6, 2) := by decide +kernel
theorem dX12_alikeOf_93 : decode cX12_alikeOf 93 = .ok (.iload 9, 2) := by decide +kernel
theorem dX12_alikeOf_95 : decode cX12_alikeOf 95 = .ok (.ifCond .le 54, 3) := by decide +kernel
theorem dX12_alikeOf_98 : decode cX12_alikeOf 98 = .ok (.iload 9, 2) := by decide +kernel
theorem dX12_alikeOf_100 : decode cX12_alikeOf 100 = .ok (.aload_n 0, 1) := by decide +kernel
theorem dX12_alikeOf_101 : decode cX12_alikeOf 101 = .ok (.iload_n 2, 1) := by decide +kernel
theorem dX12_alikeOf_102 : decode cX12_alikeOf 102 = .ok (.iconst 0, 1) := by decide +kernel
theorem dX12_alikeOf_103 : decode cX12_alikeOf 103 = .ok (.iload 5, 2) := by decide +kernel
theorem dX12_alikeOf_105 : decode cX12_alikeOf 105 = .ok (.iconst 2, 1) := by decide +kernel
theorem dX12_alikeOf_106 : decode cX12_alikeOf 106 = .ok (.irem, 1) := by decide +kernel
theorem dX12_alikeOf_107 : decode cX12_alikeOf 107 = .ok (.ifCond .ne 8, 3) := by decide +kernel
theorem dX12_alikeOf_110 : decode cX12_alikeOf 110 = .ok (.iload 8, 2) := by decide +kernel
theorem dX12_alikeOf_112 : decode cX12_alikeOf 112 = .ok (.goto 8, 3) := by decide +kernel
theorem dX12_alikeOf_115 : decode cX12_alikeOf 115 = .ok (.bipush 9, 2) := by decide +kernel
theorem dX12_alikeOf_117 : decode cX12_alikeOf 117 = .ok (.iload 8, 2) := by decide +kernel
theorem dX12_alikeOf_119 : decode cX12_alikeOf 119 = .ok (.isub, 1) := by decide +kernel
theorem dX12_alikeOf_120 : decode cX12_alikeOf 120 = .ok (.iload 5, 2) := by decide +kernel
theorem dX12_alikeOf_122 : decode cX12_alikeOf 122 = .ok (.iconst 2, 1) := by decide +kernel
theorem dX12_alikeOf_123 : decode cX12_alikeOf 123 = .ok (.if_icmp .ge 8, 3) := by decide +kernel
theorem dX12_alikeOf_126 : decode cX12_alikeOf 126 = .ok (.iload 7, 2) := by decide +kernel
theorem dX12_alikeOf_128 : decode cX12_alikeOf 128 = .ok (.goto 8, 3) := by decide +kernel
theorem dX12_alikeOf_131 : decode cX12_alikeOf 131 = .ok (.bipush 7, 2) := by decide +kernel
theorem dX12_alikeOf_133 : decode cX12_alikeOf 133 = .ok (.iload 7, 2) := by decide +kernel
theorem dX12_alikeOf_135 : decode cX12_alikeOf 135 = .ok (.isub, 1) := by decide +kernel
theorem dX12_alikeOf_136 : decode cX12_alikeOf 136 = .ok (.invokestatic 154, 3) := by decide +kernel
theorem dX12_alikeOf_139 : decode cX12_alikeOf 139 = .ok (.invokevirtual 158, 3) := by decide +kernel
theorem dX12_alikeOf_142 : decode cX12_alikeOf 142 = .ok (.if_icmp .ne 7, 3) := by decide +kernel
theorem dX12_alikeOf_145 : decode cX12_alikeOf 145 = .ok (.iconst 1, 1) := by decide +kernel
theorem dX12_alikeOf_146 : decode cX12_alikeOf 146 = .ok (.goto 4, 3) := by decide +kernel
theorem dX12_alikeOf_149 : decode cX12_alikeOf 149 = .ok (.iconst 0, 1) := by decide +kernel
theorem dX12_alikeOf_150 : decode cX12_alikeOf 150 = .ok (.invokestatic 162, 3) := by decide +kernel
theorem dX12_alikeOf_153 : decode cX12_alikeOf 153 = .ok (.iadd, 1) := by decide +kernel
theorem dX12_alikeOf_154 : decode cX12_alikeOf 154 = .ok (.istore 6, 2) := by decide +kernel
theorem dX12_alikeOf_156 : decode cX12_alikeOf 156 = .ok (.iinc 8 1, 3) := by decide +kernel
theorem dX12_alikeOf_159 : decode cX12_alikeOf 159 = .ok (.goto (-90), 3) := by decide +kernel
theorem dX12_alikeOf_162 : decode cX12_alikeOf 162 = .ok (.iinc 7 1, 3) := by decide +kernel
theorem dX12_alikeOf_165 : decode cX12_alikeOf 165 = .ok (.goto (-106), 3) := by decide +kernel
theorem dX12_alikeOf_168 : decode cX12_alikeOf 168 = .ok (.iload 4, 2) := by decide +kernel
theorem dX12_alikeOf_170 : decode cX12_alikeOf 170 = .ok (.iload 6, 2) := by decide +kernel
theorem dX12_alikeOf_172 : decode cX12_alikeOf 172 = .ok (.invokestatic 169, 3) := by decide +kernel
theorem dX12_alikeOf_175 : decode cX12_alikeOf 175 = .ok (.istore 4, 2) := by decide +kernel
theorem dX12_alikeOf_177 : decode cX12_alikeOf 177 = .ok (.iinc 5 1, 3) := by decide +kernel
theorem dX12_alikeOf_180 : decode cX12_alikeOf 180 = .ok (.goto (-133), 3) := by decide +kernel
theorem dX12_alikeOf_183 : decode cX12_alikeOf 183 = .ok (.iload 4, 2) := by decide +kernel
theorem dX12_alikeOf_185 : decode cX12_alikeOf 185 = .ok (.ireturn, 1) := by decide +kernel
theorem dX12_alike_0 : decode cX12_alike 0 = .ok (.aload_n 0, 1) := by decide +kernel
theorem dX12_alike_1 : decode cX12_alike 1 = .ok (.iload_n 1, 1) := by decide +kernel
theorem dX12_alike_2 : decode cX12_alike 2 = .ok (.invokevirtual 147, 3) := by decide +kernel
theorem dX12_alike_5 : decode cX12_alike 5 = .ok (.ifCond .eq 25, 3) := by decide +kernel
theorem dX12_alike_8 : decode cX12_alike 8 = .ok (.aload_n 0, 1) := by decide +kernel
theorem dX12_alike_9 : decode cX12_alike 9 = .ok (.iload_n 2, 1) := by decide +kernel
theorem dX12_alike_10 : decode cX12_alike 10 = .ok (.invokevirtual 147, 3) := by decide +kernel
theorem dX12_alike_13 : decode cX12_alike 13 = .ok (.ifCond .eq 17, 3) := by decide +kernel
theorem dX12_alike_16 : decode cX12_alike 16 = .ok (.iload_n 1, 1) := by decide +kernel
theorem dX12_alike_17 : decode cX12_alike 17 = .ok (.iload_n 2, 1) := by decide +kernel
theorem dX12_alike_18 : decode cX12_alike 18 = .ok (.if_icmp .eq 12, 3) := by decide +kernel
theorem dX12_alike_21 : decode cX12_alike 21 = .ok (.aload_n 0, 1) := by decide +kernel
theorem dX12_alike_22 : decode cX12_alike 22 = .ok (.iload_n 1, 1) := by decide +kernel
theorem dX12_alike_23 : decode cX12_alike 23 = .ok (.iload_n 2, 1) := by decide +kernel
theorem dX12_alike_24 : decode cX12_alike 24 = .ok (.invokevirtual 242, 3) := by decide +kernel
theorem dX12_alike_27 : decode cX12_alike 27 = .ok (.goto 4, 3) := by decide +kernel
theorem dX12_alike_30 : decode cX12_alike 30 = .ok (.iconst (-1), 1) := by decide +kernel
theorem dX12_alike_31 : decode cX12_alike 31 = .ok (.ireturn, 1) := by decide +kernel
theorem dX12_most_0 : decode cX12_most 0 = .ok (.aload_n 0, 1) := by decide +kernel
theorem dX12_most_1 : decode cX12_most 1 = .ok (.getfield 137, 3) := by decide +kernel
theorem dX12_most_4 : decode cX12_most 4 = .ok (.iconst 2, 1) := by decide +kernel
theorem dX12_most_5 : decode cX12_most 5 = .ok (.if_icmp .lt 12, 3) := by decide +kernel
theorem dX12_most_8 : decode cX12_most 8 = .ok (.iload_n 1, 1) := by decide +kernel
theorem dX12_most_9 : decode cX12_most 9 = .ok (.iconst 0, 1) := by decide +kernel
theorem dX12_most_10 : decode cX12_most 10 = .ok (.iconst 2, 1) := by decide +kernel
theorem dX12_most_11 : decode cX12_most 11 = .ok (.invokestatic 140, 3) := by decide +kernel
theorem dX12_most_14 : decode cX12_most 14 = .ok (.ifCond .ne 5, 3) := by decide +kernel
theorem dX12_most_17 : decode cX12_most 17 = .ok (.iconst (-1), 1) := by decide +kernel
theorem dX12_most_18 : decode cX12_most 18 = .ok (.ireturn, 1) := by decide +kernel
theorem dX12_most_19 : decode cX12_most 19 = .ok (.iconst (-1), 1) := by decide +kernel
theorem dX12_most_20 : decode cX12_most 20 = .ok (.istore_n 2, 1) := by decide +kernel
theorem dX12_most_21 : decode cX12_most 21 = .ok (.iconst (-1), 1) := by decide +kernel
theorem dX12_most_22 : decode cX12_most 22 = .ok (.istore_n 3, 1) := by decide +kernel
theorem dX12_most_23 : decode cX12_most 23 = .ok (.iconst (-1), 1) := by decide +kernel
theorem dX12_most_24 : decode cX12_most 24 = .ok (.istore 4, 2) := by decide +kernel
theorem dX12_most_26 : decode cX12_most 26 = .ok (.iconst 0, 1) := by decide +kernel
theorem dX12_most_27 : decode cX12_most 27 = .ok (.istore 5, 2) := by decide +kernel
theorem dX12_most_29 : decode cX12_most 29 = .ok (.iload 5, 2) := by decide +kernel
theorem dX12_most_31 : decode cX12_most 31 = .ok (.aload_n 0, 1) := by decide +kernel
theorem dX12_most_32 : decode cX12_most 32 = .ok (.getfield 137, 3) := by decide +kernel
theorem dX12_most_35 : decode cX12_most 35 = .ok (.if_icmp .ge 59, 3) := by decide +kernel
theorem dX12_most_38 : decode cX12_most 38 = .ok (.iload 5, 2) := by decide +kernel
theorem dX12_most_40 : decode cX12_most 40 = .ok (.iconst 1, 1) := by decide +kernel
theorem dX12_most_41 : decode cX12_most 41 = .ok (.iadd, 1) := by decide +kernel
theorem dX12_most_42 : decode cX12_most 42 = .ok (.istore 6, 2) := by decide +kernel
theorem dX12_most_44 : decode cX12_most 44 = .ok (.iload 6, 2) := by decide +kernel
theorem dX12_most_46 : decode cX12_most 46 = .ok (.aload_n 0, 1) := by decide +kernel
theorem dX12_most_47 : decode cX12_most 47 = .ok (.getfield 137, 3) := by decide +kernel
theorem dX12_most_50 : decode cX12_most 50 = .ok (.if_icmp .ge 38, 3) := by decide +kernel
theorem dX12_most_53 : decode cX12_most 53 = .ok (.aload_n 0, 1) := by decide +kernel
theorem dX12_most_54 : decode cX12_most 54 = .ok (.iload 5, 2) := by decide +kernel
theorem dX12_most_56 : decode cX12_most 56 = .ok (.iload 6, 2) := by decide +kernel
theorem dX12_most_58 : decode cX12_most 58 = .ok (.invokevirtual 242, 3) := by decide +kernel
theorem dX12_most_61 : decode cX12_most 61 = .ok (.istore 7, 2) := by decide +kernel
theorem dX12_most_63 : decode cX12_most 63 = .ok (.iload 7, 2) := by decide +kernel
theorem dX12_most_65 : decode cX12_most 65 = .ok (.iload_n 2, 1) := by decide +kernel
theorem dX12_most_66 : decode cX12_most 66 = .ok (.if_icmp .gt 6, 3) := by decide +kernel
theorem dX12_most_69 : decode cX12_most 69 = .ok (.goto 13, 3) := by decide +kernel
theorem dX12_most_72 : decode cX12_most 72 = .ok (.iload 7, 2) := by decide +kernel
theorem dX12_most_74 : decode cX12_most 74 = .ok (.istore_n 2, 1) := by decide +kernel
theorem dX12_most_75 : decode cX12_most 75 = .ok (.iload 5, 2) := by decide +kernel
theorem dX12_most_77 : decode cX12_most 77 = .ok (.istore_n 3, 1) := by decide +kernel
theorem dX12_most_78 : decode cX12_most 78 = .ok (.iload 6, 2) := by decide +kernel
theorem dX12_most_80 : decode cX12_most 80 = .ok (.istore 4, 2) := by decide +kernel
theorem dX12_most_82 : decode cX12_most 82 = .ok (.iinc 6 1, 3) := by decide +kernel
theorem dX12_most_85 : decode cX12_most 85 = .ok (.goto (-41), 3) := by decide +kernel
theorem dX12_most_88 : decode cX12_most 88 = .ok (.iinc 5 1, 3) := by decide +kernel
theorem dX12_most_91 : decode cX12_most 91 = .ok (.goto (-62), 3) := by decide +kernel
theorem dX12_most_94 : decode cX12_most 94 = .ok (.iload_n 1, 1) := by decide +kernel
theorem dX12_most_95 : decode cX12_most 95 = .ok (.ifCond .ne 7, 3) := by decide +kernel
theorem dX12_most_98 : decode cX12_most 98 = .ok (.iload_n 2, 1) := by decide +kernel
theorem dX12_most_99 : decode cX12_most 99 = .ok (.goto 14, 3) := by decide +kernel
theorem dX12_most_102 : decode cX12_most 102 = .ok (.iload_n 1, 1) := by decide +kernel
theorem dX12_most_103 : decode cX12_most 103 = .ok (.iconst 1, 1) := by decide +kernel
theorem dX12_most_104 : decode cX12_most 104 = .ok (.if_icmp .ne 7, 3) := by decide +kernel
theorem dX12_most_107 : decode cX12_most 107 = .ok (.iload_n 3, 1) := by decide +kernel
theorem dX12_most_108 : decode cX12_most 108 = .ok (.goto 5, 3) := by decide +kernel
theorem dX12_most_111 : decode cX12_most 111 = .ok (.iload 4, 2) := by decide +kernel
theorem dX12_most_113 : decode cX12_most 113 = .ok (.ireturn, 1) := by decide +kernel
theorem dX12_four_0 : decode cX12_four 0 = .ok (.bipush 24, 2) := by decide +kernel
theorem dX12_four_2 : decode cX12_four 2 = .ok (.istore_n 2, 1) := by decide +kernel
theorem dX12_four_3 : decode cX12_four 3 = .ok (.iload_n 2, 1) := by decide +kernel
theorem dX12_four_4 : decode cX12_four 4 = .ok (.ifCond .lt 32, 3) := by decide +kernel
theorem dX12_four_7 : decode cX12_four 7 = .ok (.aload_n 0, 1) := by decide +kernel
theorem dX12_four_8 : decode cX12_four 8 = .ok (.getfield 91, 3) := by decide +kernel
theorem dX12_four_11 : decode cX12_four 11 = .ok (.aload_n 0, 1) := by decide +kernel
theorem dX12_four_12 : decode cX12_four 12 = .ok (.getfield 245, 3) := by decide +kernel
theorem dX12_four_15 : decode cX12_four 15 = .ok (.iload_n 1, 1) := by decide +kernel
theorem dX12_four_16 : decode cX12_four 16 = .ok (.iload_n 2, 1) := by decide +kernel
theorem dX12_four_17 : decode cX12_four 17 = .ok (.ishr, 1) := by decide +kernel
theorem dX12_four_18 : decode cX12_four 18 = .ok (.i2b, 1) := by decide +kernel
theorem dX12_four_19 : decode cX12_four 19 = .ok (.bastore, 1) := by decide +kernel
theorem dX12_four_20 : decode cX12_four 20 = .ok (.aload_n 0, 1) := by decide +kernel
theorem dX12_four_21 : decode cX12_four 21 = .ok (.dup, 1) := by decide +kernel
theorem dX12_four_22 : decode cX12_four 22 = .ok (.getfield 245, 3) := by decide +kernel
theorem dX12_four_25 : decode cX12_four 25 = .ok (.iconst 1, 1) := by decide +kernel
theorem dX12_four_26 : decode cX12_four 26 = .ok (.iadd, 1) := by decide +kernel
theorem dX12_four_27 : decode cX12_four 27 = .ok (.putfield 245, 3) := by decide +kernel
theorem dX12_four_30 : decode cX12_four 30 = .ok (.iinc 2 (-8), 3) := by decide +kernel
theorem dX12_four_33 : decode cX12_four 33 = .ok (.goto (-30), 3) := by decide +kernel
theorem dX12_four_36 : decode cX12_four 36 = .ok (.return_, 1) := by decide +kernel
theorem dX12_feed_0 : decode cX12_feed 0 = .ok (.aload_n 0, 1) := by decide +kernel
theorem dX12_feed_1 : decode cX12_feed 1 = .ok (.getfield 245, 3) := by decide +kernel
theorem dX12_feed_4 : decode cX12_feed 4 = .ok (.bipush 20, 2) := by decide +kernel
theorem dX12_feed_6 : decode cX12_feed 6 = .ok (.iadd, 1) := by decide +kernel
theorem dX12_feed_7 : decode cX12_feed 7 = .ok (.sipush 900, 3) := by decide +kernel
theorem dX12_feed_10 : decode cX12_feed 10 = .ok (.if_icmp .le 5, 3) := by decide +kernel
theorem dX12_feed_13 : decode cX12_feed 13 = .ok (.iconst (-1), 1) := by decide +kernel
theorem dX12_feed_14 : decode cX12_feed 14 = .ok (.ireturn, 1) := by decide +kernel
theorem dX12_feed_15 : decode cX12_feed 15 = .ok (.aload_n 0, 1) := by decide +kernel
theorem dX12_feed_16 : decode cX12_feed 16 = .ok (.iload_n 1, 1) := by decide +kernel
theorem dX12_feed_17 : decode cX12_feed 17 = .ok (.invokevirtual 248, 3) := by decide +kernel
theorem dX12_feed_20 : decode cX12_feed 20 = .ok (.aload_n 0, 1) := by decide +kernel
theorem dX12_feed_21 : decode cX12_feed 21 = .ok (.iload_n 2, 1) := by decide +kernel
theorem dX12_feed_22 : decode cX12_feed 22 = .ok (.invokevirtual 248, 3) := by decide +kernel
theorem dX12_feed_25 : decode cX12_feed 25 = .ok (.aload_n 0, 1) := by decide +kernel
theorem dX12_feed_26 : decode cX12_feed 26 = .ok (.iload_n 3, 1) := by decide +kernel
theorem dX12_feed_27 : decode cX12_feed 27 = .ok (.invokevirtual 248, 3) := by decide +kernel
theorem dX12_feed_30 : decode cX12_feed 30 = .ok (.aload_n 0, 1) := by decide +kernel
theorem dX12_feed_31 : decode cX12_feed 31 = .ok (.iload 4, 2) := by decide +kernel
theorem dX12_feed_33 : decode cX12_feed 33 = .ok (.invokevirtual 248, 3) := by decide +kernel
theorem dX12_feed_36 : decode cX12_feed 36 = .ok (.aload_n 0, 1) := by decide +kernel
theorem dX12_feed_37 : decode cX12_feed 37 = .ok (.iload 5, 2) := by decide +kernel
theorem dX12_feed_39 : decode cX12_feed 39 = .ok (.invokevirtual 248, 3) := by decide +kernel
theorem dX12_feed_42 : decode cX12_feed 42 = .ok (.aload_n 0, 1) := by decide +kernel
theorem dX12_feed_43 : decode cX12_feed 43 = .ok (.getfield 245, 3) := by decide +kernel
theorem dX12_feed_46 : decode cX12_feed 46 = .ok (.ireturn, 1) := by decide +kernel
theorem dX12_takesText_0 : decode cX12_takesText 0 = .ok (.iconst 0, 1) := by decide +kernel
theorem dX12_takesText_1 : decode cX12_takesText 1 = .ok (.istore_n 2, 1) := by decide +kernel
theorem dX12_takesText_2 : decode cX12_takesText 2 = .ok (.iload_n 2, 1) := by decide +kernel
theorem dX12_takesText_3 : decode cX12_takesText 3 = .ok (.iload_n 1, 1) := by decide +kernel
theorem dX12_takesText_4 : decode cX12_takesText 4 = .ok (.if_icmp .ge 21, 3) := by decide +kernel
theorem dX12_takesText_7 : decode cX12_takesText 7 = .ok (.aload_n 0, 1) := by decide +kernel
theorem dX12_takesText_8 : decode cX12_takesText 8 = .ok (.getfield 95, 3) := by decide +kernel
theorem dX12_takesText_11 : decode cX12_takesText 11 = .ok (.iload_n 2, 1) := by decide +kernel
theorem dX12_takesText_12 : decode cX12_takesText 12 = .ok (.aload_n 0, 1) := by decide +kernel
theorem dX12_takesText_13 : decode cX12_takesText 13 = .ok (.getfield 91, 3) := by decide +kernel
theorem dX12_takesText_16 : decode cX12_takesText 16 = .ok (.iload_n 2, 1) := by decide +kernel
theorem dX12_takesText_17 : decode cX12_takesText 17 = .ok (.baload, 1) := by decide +kernel
theorem dX12_takesText_18 : decode cX12_takesText 18 = .ok (.bastore, 1) := by decide +kernel
theorem dX12_takesText_19 : decode cX12_takesText 19 = .ok (.iinc 2 1, 3) := by decide +kernel
theorem dX12_takesText_22 : decode cX12_takesText 22 = .ok (.goto (-20), 3) := by decide +kernel
theorem dX12_takesText_25 : decode cX12_takesText 25 = .ok (.aload_n 0, 1) := by decide +kernel
theorem dX12_takesText_26 : decode cX12_takesText 26 = .ok (.iload_n 1, 1) := by decide +kernel
theorem dX12_takesText_27 : decode cX12_takesText 27 = .ok (.putfield 251, 3) := by decide +kernel
theorem dX12_takesText_30 : decode cX12_takesText 30 = .ok (.aload_n 0, 1) := by decide +kernel
theorem dX12_takesText_31 : decode cX12_takesText 31 = .ok (.iconst 0, 1) := by decide +kernel
theorem dX12_takesText_32 : decode cX12_takesText 32 = .ok (.putfield 245, 3) := by decide +kernel
theorem dX12_takesText_35 : decode cX12_takesText 35 = .ok (.aload_n 0, 1) := by decide +kernel
theorem dX12_takesText_36 : decode cX12_takesText 36 = .ok (.iconst 0, 1) := by decide +kernel
theorem dX12_takesText_37 : decode cX12_takesText 37 = .ok (.putfield 254, 3) := by decide +kernel
theorem dX12_takesText_40 : decode cX12_takesText 40 = .ok (.return_, 1) := by decide +kernel
theorem dX12_blanks_0 : decode cX12_blanks 0 = .ok (.aload_n 0, 1) := by decide +kernel
theorem dX12_blanks_1 : decode cX12_blanks 1 = .ok (.getfield 254, 3) := by decide +kernel
theorem dX12_blanks_4 : decode cX12_blanks 4 = .ok (.aload_n 0, 1) := by decide +kernel
theorem dX12_blanks_5 : decode cX12_blanks 5 = .ok (.getfield 251, 3) := by decide +kernel
theorem dX12_blanks_8 : decode cX12_blanks 8 = .ok (.if_icmp .ge 44, 3) := by decide +kernel
theorem dX12_blanks_11 : decode cX12_blanks 11 = .ok (.aload_n 0, 1) := by decide +kernel
theorem dX12_blanks_12 : decode cX12_blanks 12 = .ok (.getfield 95, 3) := by decide +kernel
theorem dX12_blanks_15 : decode cX12_blanks 15 = .ok (.aload_n 0, 1) := by decide +kernel
theorem dX12_blanks_16 : decode cX12_blanks 16 = .ok (.getfield 254, 3) := by decide +kernel
theorem dX12_blanks_19 : decode cX12_blanks 19 = .ok (.baload, 1) := by decide +kernel
theorem dX12_blanks_20 : decode cX12_blanks 20 = .ok (.bipush 32, 2) := by decide +kernel
theorem dX12_blanks_22 : decode cX12_blanks 22 = .ok (.if_icmp .eq 17, 3) := by decide +kernel
theorem dX12_blanks_25 : decode cX12_blanks 25 = .ok (.aload_n 0, 1) := by decide +kernel
theorem dX12_blanks_26 : decode cX12_blanks 26 = .ok (.getfield 95, 3) := by decide +kernel
theorem dX12_blanks_29 : decode cX12_blanks 29 = .ok (.aload_n 0, 1) := by decide +kernel
theorem dX12_blanks_30 : decode cX12_blanks 30 = .ok (.getfield 254, 3) := by decide +kernel
theorem dX12_blanks_33 : decode cX12_blanks 33 = .ok (.baload, 1) := by decide +kernel
theorem dX12_blanks_34 : decode cX12_blanks 34 = .ok (.bipush 10, 2) := by decide +kernel
theorem dX12_blanks_36 : decode cX12_blanks 36 = .ok (.if_icmp .ne 16, 3) := by decide +kernel
theorem dX12_blanks_39 : decode cX12_blanks 39 = .ok (.aload_n 0, 1) := by decide +kernel
theorem dX12_blanks_40 : decode cX12_blanks 40 = .ok (.dup, 1) := by decide +kernel
theorem dX12_blanks_41 : decode cX12_blanks 41 = .ok (.getfield 254, 3) := by decide +kernel
theorem dX12_blanks_44 : decode cX12_blanks 44 = .ok (.iconst 1, 1) := by decide +kernel
theorem dX12_blanks_45 : decode cX12_blanks 45 = .ok (.iadd, 1) := by decide +kernel
theorem dX12_blanks_46 : decode cX12_blanks 46 = .ok (.putfield 254, 3) := by decide +kernel
theorem dX12_blanks_49 : decode cX12_blanks 49 = .ok (.goto (-49), 3) := by decide +kernel
theorem dX12_blanks_52 : decode cX12_blanks 52 = .ok (.return_, 1) := by decide +kernel
theorem dX12_word__0 : decode cX12_word_ 0 = .ok (.aload_n 0, 1) := by decide +kernel
theorem dX12_word__1 : decode cX12_word_ 1 = .ok (.invokevirtual 256, 3) := by decide +kernel
theorem dX12_word__4 : decode cX12_word_ 4 = .ok (.aload_n 0, 1) := by decide +kernel
theorem dX12_word__5 : decode cX12_word_ 5 = .ok (.aload_n 0, 1) := by decide +kernel
theorem dX12_word__6 : decode cX12_word_ 6 = .ok (.getfield 254, 3) := by decide +kernel
theorem dX12_word__9 : decode cX12_word_ 9 = .ok (.putfield 259, 3) := by decide +kernel
theorem dX12_word__12 : decode cX12_word_ 12 = .ok (.lconst 0, 1) := by decide +kernel
theorem dX12_word__13 : decode cX12_word_ 13 = .ok (.lstore_n 1, 1) := by decide +kernel
theorem dX12_word__14 : decode cX12_word_ 14 = .ok (.aload_n 0, 1) := by decide +kernel
theorem dX12_word__15 : decode cX12_word_ 15 = .ok (.getfield 259, 3) := by decide +kernel
theorem dX12_word__18 : decode cX12_word_ 18 = .ok (.aload_n 0, 1) := by decide +kernel
theorem dX12_word__19 : decode cX12_word_ 19 = .ok (.getfield 251, 3) := by decide +kernel
theorem dX12_word__22 : decode cX12_word_ 22 = .ok (.if_icmp .ge 78, 3) := by decide +kernel
theorem dX12_word__25 : decode cX12_word_ 25 = .ok (.aload_n 0, 1) := by decide +kernel
theorem dX12_word__26 : decode cX12_word_ 26 = .ok (.getfield 95, 3) := by decide +kernel
theorem dX12_word__29 : decode cX12_word_ 29 = .ok (.aload_n 0, 1) := by decide +kernel
theorem dX12_word__30 : decode cX12_word_ 30 = .ok (.getfield 259, 3) := by decide +kernel
theorem dX12_word__33 : decode cX12_word_ 33 = .ok (.baload, 1) := by decide +kernel
theorem dX12_word__34 : decode cX12_word_ 34 = .ok (.bipush 97, 2) := by decide +kernel
theorem dX12_word__36 : decode cX12_word_ 36 = .ok (.if_icmp .lt 64, 3) := by decide +kernel
theorem dX12_word__39 : decode cX12_word_ 39 = .ok (.aload_n 0, 1) := by decide +kernel
theorem dX12_word__40 : decode cX12_word_ 40 = .ok (.getfield 95, 3) := by decide +kernel
theorem dX12_word__43 : decode cX12_word_ 43 = .ok (.aload_n 0, 1) := by decide +kernel
theorem dX12_word__44 : decode cX12_word_ 44 = .ok (.getfield 259, 3) := by decide +kernel
theorem dX12_word__47 : decode cX12_word_ 47 = .ok (.baload, 1) := by decide +kernel
theorem dX12_word__48 : decode cX12_word_ 48 = .ok (.bipush 122, 2) := by decide +kernel
theorem dX12_word__50 : decode cX12_word_ 50 = .ok (.if_icmp .gt 50, 3) := by decide +kernel
theorem dX12_word__53 : decode cX12_word_ 53 = .ok (.aload_n 0, 1) := by decide +kernel
theorem dX12_word__54 : decode cX12_word_ 54 = .ok (.getfield 259, 3) := by decide +kernel
theorem dX12_word__57 : decode cX12_word_ 57 = .ok (.aload_n 0, 1) := by decide +kernel
theorem dX12_word__58 : decode cX12_word_ 58 = .ok (.getfield 254, 3) := by decide +kernel
theorem dX12_word__61 : decode cX12_word_ 61 = .ok (.isub, 1) := by decide +kernel
theorem dX12_word__62 : decode cX12_word_ 62 = .ok (.bipush 8, 2) := by decide +kernel
theorem dX12_word__64 : decode cX12_word_ 64 = .ok (.if_icmp .ge 21, 3) := by decide +kernel
theorem dX12_word__67 : decode cX12_word_ 67 = .ok (.lload_n 1, 1) := by decide +kernel
theorem dX12_word__68 : decode cX12_word_ 68 = .ok (.bipush 8, 2) := by decide +kernel
theorem dX12_word__70 : decode cX12_word_ 70 = .ok (.lshl, 1) := by decide +kernel
theorem dX12_word__71 : decode cX12_word_ 71 = .ok (.aload_n 0, 1) := by decide +kernel
theorem dX12_word__72 : decode cX12_word_ 72 = .ok (.getfield 95, 3) := by decide +kernel
theorem dX12_word__75 : decode cX12_word_ 75 = .ok (.aload_n 0, 1) := by decide +kernel
theorem dX12_word__76 : decode cX12_word_ 76 = .ok (.getfield 259, 3) := by decide +kernel
theorem dX12_word__79 : decode cX12_word_ 79 = .ok (.baload, 1) := by decide +kernel
theorem dX12_word__80 : decode cX12_word_ 80 = .ok (.i2l, 1) := by decide +kernel
theorem dX12_word__81 : decode cX12_word_ 81 = .ok (.lor, 1) := by decide +kernel
theorem dX12_word__82 : decode cX12_word_ 82 = .ok (.goto 4, 3) := by decide +kernel
theorem dX12_word__85 : decode cX12_word_ 85 = .ok (.lconst 0, 1) := by decide +kernel
theorem dX12_word__86 : decode cX12_word_ 86 = .ok (.lstore_n 1, 1) := by decide +kernel
theorem dX12_word__87 : decode cX12_word_ 87 = .ok (.aload_n 0, 1) := by decide +kernel
theorem dX12_word__88 : decode cX12_word_ 88 = .ok (.dup, 1) := by decide +kernel
theorem dX12_word__89 : decode cX12_word_ 89 = .ok (.getfield 259, 3) := by decide +kernel
theorem dX12_word__92 : decode cX12_word_ 92 = .ok (.iconst 1, 1) := by decide +kernel
theorem dX12_word__93 : decode cX12_word_ 93 = .ok (.iadd, 1) := by decide +kernel
theorem dX12_word__94 : decode cX12_word_ 94 = .ok (.putfield 259, 3) := by decide +kernel
theorem dX12_word__97 : decode cX12_word_ 97 = .ok (.goto (-83), 3) := by decide +kernel
theorem dX12_word__100 : decode cX12_word_ 100 = .ok (.aload_n 0, 1) := by decide +kernel
theorem dX12_word__101 : decode cX12_word_ 101 = .ok (.getfield 259, 3) := by decide +kernel
theorem dX12_word__104 : decode cX12_word_ 104 = .ok (.aload_n 0, 1) := by decide +kernel
theorem dX12_word__105 : decode cX12_word_ 105 = .ok (.getfield 254, 3) := by decide +kernel
theorem dX12_word__108 : decode cX12_word_ 108 = .ok (.isub, 1) := by decide +kernel
theorem dX12_word__109 : decode cX12_word_ 109 = .ok (.bipush 8, 2) := by decide +kernel
theorem dX12_word__111 : decode cX12_word_ 111 = .ok (.if_icmp .le 7, 3) := by decide +kernel
theorem dX12_word__114 : decode cX12_word_ 114 = .ok (.lconst 0, 1) := by decide +kernel
theorem dX12_word__115 : decode cX12_word_ 115 = .ok (.goto 4, 3) := by decide +kernel
theorem dX12_word__118 : decode cX12_word_ 118 = .ok (.lload_n 1, 1) := by decide +kernel
theorem dX12_word__119 : decode cX12_word_ 119 = .ok (.lreturn, 1) := by decide +kernel
theorem dX12_takes_0 : decode cX12_takes 0 = .ok (.aload_n 0, 1) := by decide +kernel
theorem dX12_takes_1 : decode cX12_takes 1 = .ok (.invokevirtual 262, 3) := by decide +kernel
theorem dX12_takes_4 : decode cX12_takes 4 = .ok (.lload_n 1, 1) := by decide +kernel
theorem dX12_takes_5 : decode cX12_takes 5 = .ok (.lcmp, 1) := by decide +kernel
theorem dX12_takes_6 : decode cX12_takes 6 = .ok (.ifCond .eq 5, 3) := by decide +kernel
theorem dX12_takes_9 : decode cX12_takes 9 = .ok (.iconst 0, 1) := by decide +kernel
theorem dX12_takes_10 : decode cX12_takes 10 = .ok (.ireturn, 1) := by decide +kernel
theorem dX12_takes_11 : decode cX12_takes 11 = .ok (.aload_n 0, 1) := by decide +kernel
theorem dX12_takes_12 : decode cX12_takes 12 = .ok (.aload_n 0, 1) := by decide +kernel
theorem dX12_takes_13 : decode cX12_takes 13 = .ok (.getfield 259, 3) := by decide +kernel
theorem dX12_takes_16 : decode cX12_takes 16 = .ok (.putfield 254, 3) := by decide +kernel
theorem dX12_takes_19 : decode cX12_takes 19 = .ok (.iconst 1, 1) := by decide +kernel
theorem dX12_takes_20 : decode cX12_takes 20 = .ok (.ireturn, 1) := by decide +kernel
theorem dX12_takesSign_0 : decode cX12_takesSign 0 = .ok (.aload_n 0, 1) := by decide +kernel
theorem dX12_takesSign_1 : decode cX12_takesSign 1 = .ok (.invokevirtual 256, 3) := by decide +kernel
theorem dX12_takesSign_4 : decode cX12_takesSign 4 = .ok (.aload_n 0, 1) := by decide +kernel
theorem dX12_takesSign_5 : decode cX12_takesSign 5 = .ok (.getfield 254, 3) := by decide +kernel
theorem dX12_takesSign_8 : decode cX12_takesSign 8 = .ok (.aload_n 0, 1) := by decide +kernel
theorem dX12_takesSign_9 : decode cX12_takesSign 9 = .ok (.getfield 251, 3) := by decide +kernel
theorem dX12_takesSign_12 : decode cX12_takesSign 12 = .ok (.if_icmp .eq 16, 3) := by decide +kernel
theorem dX12_takesSign_15 : decode cX12_takesSign 15 = .ok (.aload_n 0, 1) := by decide +kernel
theorem dX12_takesSign_16 : decode cX12_takesSign 16 = .ok (.getfield 95, 3) := by decide +kernel
theorem dX12_takesSign_19 : decode cX12_takesSign 19 = .ok (.aload_n 0, 1) := by decide +kernel
theorem dX12_takesSign_20 : decode cX12_takesSign 20 = .ok (.getfield 254, 3) := by decide +kernel
theorem dX12_takesSign_23 : decode cX12_takesSign 23 = .ok (.baload, 1) := by decide +kernel
theorem dX12_takesSign_24 : decode cX12_takesSign 24 = .ok (.iload_n 1, 1) := by decide +kernel
theorem dX12_takesSign_25 : decode cX12_takesSign 25 = .ok (.if_icmp .eq 5, 3) := by decide +kernel
theorem dX12_takesSign_28 : decode cX12_takesSign 28 = .ok (.iconst 0, 1) := by decide +kernel
theorem dX12_takesSign_29 : decode cX12_takesSign 29 = .ok (.ireturn, 1) := by decide +kernel
theorem dX12_takesSign_30 : decode cX12_takesSign 30 = .ok (.aload_n 0, 1) := by decide +kernel
theorem dX12_takesSign_31 : decode cX12_takesSign 31 = .ok (.dup, 1) := by decide +kernel
theorem dX12_takesSign_32 : decode cX12_takesSign 32 = .ok (.getfield 254, 3) := by decide +kernel
theorem dX12_takesSign_35 : decode cX12_takesSign 35 = .ok (.iconst 1, 1) := by decide +kernel
theorem dX12_takesSign_36 : decode cX12_takesSign 36 = .ok (.iadd, 1) := by decide +kernel
theorem dX12_takesSign_37 : decode cX12_takesSign 37 = .ok (.putfield 254, 3) := by decide +kernel
theorem dX12_takesSign_40 : decode cX12_takesSign 40 = .ok (.iconst 1, 1) := by decide +kernel
theorem dX12_takesSign_41 : decode cX12_takesSign 41 = .ok (.ireturn, 1) := by decide +kernel
theorem dX12_takesNumber_0 : decode cX12_takesNumber 0 = .ok (.aload_n 0, 1) := by decide +kernel
theorem dX12_takesNumber_1 : decode cX12_takesNumber 1 = .ok (.invokevirtual 256, 3) := by decide +kernel
theorem dX12_takesNumber_4 : decode cX12_takesNumber 4 = .ok (.aload_n 0, 1) := by decide +kernel
theorem dX12_takesNumber_5 : decode cX12_takesNumber 5 = .ok (.getfield 254, 3) := by decide +kernel
theorem dX12_takesNumber_8 : decode cX12_takesNumber 8 = .ok (.istore_n 3, 1) := by decide +kernel
theorem dX12_takesNumber_9 : decode cX12_takesNumber 9 = .ok (.aload_n 0, 1) := by decide +kernel
theorem dX12_takesNumber_10 : decode cX12_takesNumber 10 = .ok (.iconst 0, 1) := by decide +kernel
theorem dX12_takesNumber_11 : decode cX12_takesNumber 11 = .ok (.putfield 265, 3) := by decide +kernel
theorem dX12_takesNumber_14 : decode cX12_takesNumber 14 = .ok (.iload_n 3, 1) := by decide +kernel
theorem dX12_takesNumber_15 : decode cX12_takesNumber 15 = .ok (.aload_n 0, 1) := by decide +kernel
theorem dX12_takesNumber_16 : decode cX12_takesNumber 16 = .ok (.getfield 251, 3) := by decide +kernel
theorem dX12_takesNumber_19 : decode cX12_takesNumber 19 = .ok (.if_icmp .ge 63, 3) := by decide +kernel
theorem dX12_takesNumber_22 : decode cX12_takesNumber 22 = .ok (.aload_n 0, 1) := by decide +kernel
theorem dX12_takesNumber_23 : decode cX12_takesNumber 23 = .ok (.getfield 95, 3) := by decide +kernel
theorem dX12_takesNumber_26 : decode cX12_takesNumber 26 = .ok (.iload_n 3, 1) := by decide +kernel
theorem dX12_takesNumber_27 : decode cX12_takesNumber 27 = .ok (.baload, 1) := by decide +kernel
theorem dX12_takesNumber_28 : decode cX12_takesNumber 28 = .ok (.bipush 48, 2) := by decide +kernel
theorem dX12_takesNumber_30 : decode cX12_takesNumber 30 = .ok (.if_icmp .lt 52, 3) := by decide +kernel
theorem dX12_takesNumber_33 : decode cX12_takesNumber 33 = .ok (.aload_n 0, 1) := by decide +kernel
theorem dX12_takesNumber_34 : decode cX12_takesNumber 34 = .ok (.getfield 95, 3) := by decide +kernel
theorem dX12_takesNumber_37 : decode cX12_takesNumber 37 = .ok (.iload_n 3, 1) := by decide +kernel
theorem dX12_takesNumber_38 : decode cX12_takesNumber 38 = .ok (.baload, 1) := by decide +kernel
theorem dX12_takesNumber_39 : decode cX12_takesNumber 39 = .ok (.bipush 57, 2) := by decide +kernel
theorem dX12_takesNumber_41 : decode cX12_takesNumber 41 = .ok (.if_icmp .gt 41, 3) := by decide +kernel
theorem dX12_takesNumber_44 : decode cX12_takesNumber 44 = .ok (.iload_n 3, 1) := by decide +kernel
theorem dX12_takesNumber_45 : decode cX12_takesNumber 45 = .ok (.aload_n 0, 1) := by decide +kernel
theorem dX12_takesNumber_46 : decode cX12_takesNumber 46 = .ok (.getfield 254, 3) := by decide +kernel
theorem dX12_takesNumber_49 : decode cX12_takesNumber 49 = .ok (.isub, 1) := by decide +kernel
theorem dX12_takesNumber_50 : decode cX12_takesNumber 50 = .ok (.bipush 6, 2) := by decide +kernel
theorem dX12_takesNumber_52 : decode cX12_takesNumber 52 = .ok (.if_icmp .ge 24, 3) := by decide +kernel
theorem dX12_takesNumber_55 : decode cX12_takesNumber 55 = .ok (.aload_n 0, 1) := by decide +kernel
theorem dX12_takesNumber_56 : decode cX12_takesNumber 56 = .ok (.bipush 10, 2) := by decide +kernel
theorem dX12_takesNumber_58 : decode cX12_takesNumber 58 = .ok (.aload_n 0, 1) := by decide +kernel
theorem dX12_takesNumber_59 : decode cX12_takesNumber 59 = .ok (.getfield 265, 3) := by decide +kernel
theorem dX12_takesNumber_62 : decode cX12_takesNumber 62 = .ok (.imul, 1) := by decide +kernel
theorem dX12_takesNumber_63 : decode cX12_takesNumber 63 = .ok (.aload_n 0, 1) := by decide +kernel
theorem dX12_takesNumber_64 : decode cX12_takesNumber 64 = .ok (.getfield 95, 3) := by decide +kernel
theorem dX12_takesNumber_67 : decode cX12_takesNumber 67 = .ok (.iload_n 3, 1) := by decide +kernel
theorem dX12_takesNumber_68 : decode cX12_takesNumber 68 = .ok (.baload, 1) := by decide +kernel
theorem dX12_takesNumber_69 : decode cX12_takesNumber 69 = .ok (.iadd, 1) := by decide +kernel
theorem dX12_takesNumber_70 : decode cX12_takesNumber 70 = .ok (.bipush 48, 2) := by decide +kernel
theorem dX12_takesNumber_72 : decode cX12_takesNumber 72 = .ok (.isub, 1) := by decide +kernel
theorem dX12_takesNumber_73 : decode cX12_takesNumber 73 = .ok (.putfield 265, 3) := by decide +kernel
theorem dX12_takesNumber_76 : decode cX12_takesNumber 76 = .ok (.iinc 3 1, 3) := by decide +kernel
theorem dX12_takesNumber_79 : decode cX12_takesNumber 79 = .ok (.goto (-65), 3) := by decide +kernel
theorem dX12_takesNumber_82 : decode cX12_takesNumber 82 = .ok (.iload_n 3, 1) := by decide +kernel
theorem dX12_takesNumber_83 : decode cX12_takesNumber 83 = .ok (.aload_n 0, 1) := by decide +kernel
theorem dX12_takesNumber_84 : decode cX12_takesNumber 84 = .ok (.getfield 254, 3) := by decide +kernel
theorem dX12_takesNumber_87 : decode cX12_takesNumber 87 = .ok (.if_icmp .eq 26, 3) := by decide +kernel
theorem dX12_takesNumber_90 : decode cX12_takesNumber 90 = .ok (.iload_n 3, 1) := by decide +kernel
theorem dX12_takesNumber_91 : decode cX12_takesNumber 91 = .ok (.aload_n 0, 1) := by decide +kernel
theorem dX12_takesNumber_92 : decode cX12_takesNumber 92 = .ok (.getfield 254, 3) := by decide +kernel
theorem dX12_takesNumber_95 : decode cX12_takesNumber 95 = .ok (.isub, 1) := by decide +kernel
theorem dX12_takesNumber_96 : decode cX12_takesNumber 96 = .ok (.bipush 6, 2) := by decide +kernel
theorem dX12_takesNumber_98 : decode cX12_takesNumber 98 = .ok (.if_icmp .gt 15, 3) := by decide +kernel
theorem dX12_takesNumber_101 : decode cX12_takesNumber 101 = .ok (.aload_n 0, 1) := by decide +kernel
theorem dX12_takesNumber_102 : decode cX12_takesNumber 102 = .ok (.getfield 265, 3) := by decide +kernel
theorem dX12_takesNumber_105 : decode cX12_takesNumber 105 = .ok (.iload_n 1, 1) := by decide +kernel
theorem dX12_takesNumber_106 : decode cX12_takesNumber 106 = .ok (.iload_n 2, 1) := by decide +kernel
theorem dX12_takesNumber_107 : decode cX12_takesNumber 107 = .ok (.invokestatic 140, 3) := by decide +kernel
theorem dX12_takesNumber_110 : decode cX12_takesNumber 110 = .ok (.ifCond .ne 5, 3) := by decide +kernel
theorem dX12_takesNumber_113 : decode cX12_takesNumber 113 = .ok (.iconst 0, 1) := by decide +kernel
theorem dX12_takesNumber_114 : decode cX12_takesNumber 114 = .ok (.ireturn, 1) := by decide +kernel
theorem dX12_takesNumber_115 : decode cX12_takesNumber 115 = .ok (.aload_n 0, 1) := by decide +kernel
theorem dX12_takesNumber_116 : decode cX12_takesNumber 116 = .ok (.iload_n 3, 1) := by decide +kernel
theorem dX12_takesNumber_117 : decode cX12_takesNumber 117 = .ok (.putfield 254, 3) := by decide +kernel
theorem dX12_takesNumber_120 : decode cX12_takesNumber 120 = .ok (.iconst 1, 1) := by decide +kernel
theorem dX12_takesNumber_121 : decode cX12_takesNumber 121 = .ok (.ireturn, 1) := by decide +kernel
theorem dX12_takesPlain_0 : decode cX12_takesPlain 0 = .ok (.aload_n 0, 1) := by decide +kernel
theorem dX12_takesPlain_1 : decode cX12_takesPlain 1 = .ok (.iconst 0, 1) := by decide +kernel
theorem dX12_takesPlain_2 : decode cX12_takesPlain 2 = .ok (.ldc_w 268, 3) := by decide +kernel
theorem dX12_takesPlain_5 : decode cX12_takesPlain 5 = .ok (.invokevirtual 269, 3) := by decide +kernel
theorem dX12_takesPlain_8 : decode cX12_takesPlain 8 = .ok (.ireturn, 1) := by decide +kernel
theorem dX12_named_0 : decode cX12_named 0 = .ok (.iconst 1, 1) := by decide +kernel
theorem dX12_named_1 : decode cX12_named 1 = .ok (.istore_n 3, 1) := by decide +kernel
theorem dX12_named_2 : decode cX12_named 2 = .ok (.iload_n 3, 1) := by decide +kernel
theorem dX12_named_3 : decode cX12_named 3 = .ok (.aload_n 0, 1) := by decide +kernel
theorem dX12_named_4 : decode cX12_named 4 = .ok (.getfield 273, 3) := by decide +kernel
theorem dX12_named_7 : decode cX12_named 7 = .ok (.if_icmp .gt 22, 3) := by decide +kernel
theorem dX12_named_10 : decode cX12_named 10 = .ok (.aload_n 0, 1) := by decide +kernel
theorem dX12_named_11 : decode cX12_named 11 = .ok (.getfield 87, 3) := by decide +kernel
theorem dX12_named_14 : decode cX12_named 14 = .ok (.iload_n 3, 1) := by decide +kernel
theorem dX12_named_15 : decode cX12_named 15 = .ok (.laload, 1) := by decide +kernel
theorem dX12_named_16 : decode cX12_named 16 = .ok (.lload_n 1, 1) := by decide +kernel
theorem dX12_named_17 : decode cX12_named 17 = .ok (.lcmp, 1) := by decide +kernel
theorem dX12_named_18 : decode cX12_named 18 = .ok (.ifCond .ne 5, 3) := by decide +kernel
theorem dX12_named_21 : decode cX12_named 21 = .ok (.iload_n 3, 1) := by decide +kernel
theorem dX12_named_22 : decode cX12_named 22 = .ok (.ireturn, 1) := by decide +kernel
theorem dX12_named_23 : decode cX12_named 23 = .ok (.iinc 3 1, 3) := by decide +kernel
theorem dX12_named_26 : decode cX12_named 26 = .ok (.goto (-24), 3) := by decide +kernel
theorem dX12_named_29 : decode cX12_named 29 = .ok (.iconst (-1), 1) := by decide +kernel
theorem dX12_named_30 : decode cX12_named 30 = .ok (.ireturn, 1) := by decide +kernel
theorem dX12_asked_0 : decode cX12_asked 0 = .ok (.lload_n 0, 1) := by decide +kernel
theorem dX12_asked_1 : decode cX12_asked 1 = .ok (.ldc2_w 276, 3) := by decide +kernel
theorem dX12_asked_4 : decode cX12_asked 4 = .ok (.lcmp, 1) := by decide +kernel
theorem dX12_asked_5 : decode cX12_asked 5 = .ok (.ifCond .ne 7, 3) := by decide +kernel
theorem dX12_asked_8 : decode cX12_asked 8 = .ok (.iconst 0, 1) := by decide +kernel
theorem dX12_asked_9 : decode cX12_asked 9 = .ok (.goto 90, 3) := by decide +kernel
theorem dX12_asked_12 : decode cX12_asked 12 = .ok (.lload_n 0, 1) := by decide +kernel
theorem dX12_asked_13 : decode cX12_asked 13 = .ok (.ldc2_w 278, 3) := by decide +kernel
theorem dX12_asked_16 : decode cX12_asked 16 = .ok (.lcmp, 1) := by decide +kernel
theorem dX12_asked_17 : decode cX12_asked 17 = .ok (.ifCond .ne 7, 3) := by decide +kernel
theorem dX12_asked_20 : decode cX12_asked 20 = .ok (.iconst 1, 1) := by decide +kernel
theorem dX12_asked_21 : decode cX12_asked 21 = .ok (.goto 78, 3) := by decide +kernel
theorem dX12_asked_24 : decode cX12_asked 24 = .ok (.lload_n 0, 1) := by decide +kernel
theorem dX12_asked_25 : decode cX12_asked 25 = .ok (.ldc2_w 280, 3) := by decide +kernel
theorem dX12_asked_28 : decode cX12_asked 28 = .ok (.lcmp, 1) := by decide +kernel
theorem dX12_asked_29 : decode cX12_asked 29 = .ok (.ifCond .ne 7, 3) := by decide +kernel
theorem dX12_asked_32 : decode cX12_asked 32 = .ok (.iconst 2, 1) := by decide +kernel
theorem dX12_asked_33 : decode cX12_asked 33 = .ok (.goto 66, 3) := by decide +kernel
theorem dX12_asked_36 : decode cX12_asked 36 = .ok (.lload_n 0, 1) := by decide +kernel
theorem dX12_asked_37 : decode cX12_asked 37 = .ok (.ldc2_w 282, 3) := by decide +kernel
theorem dX12_asked_40 : decode cX12_asked 40 = .ok (.lcmp, 1) := by decide +kernel
theorem dX12_asked_41 : decode cX12_asked 41 = .ok (.ifCond .ne 7, 3) := by decide +kernel
theorem dX12_asked_44 : decode cX12_asked 44 = .ok (.iconst 3, 1) := by decide +kernel
theorem dX12_asked_45 : decode cX12_asked 45 = .ok (.goto 54, 3) := by decide +kernel
theorem dX12_asked_48 : decode cX12_asked 48 = .ok (.lload_n 0, 1) := by decide +kernel
theorem dX12_asked_49 : decode cX12_asked 49 = .ok (.ldc2_w 284, 3) := by decide +kernel
theorem dX12_asked_52 : decode cX12_asked 52 = .ok (.lcmp, 1) := by decide +kernel
theorem dX12_asked_53 : decode cX12_asked 53 = .ok (.ifCond .ne 7, 3) := by decide +kernel
theorem dX12_asked_56 : decode cX12_asked 56 = .ok (.iconst 4, 1) := by decide +kernel
theorem dX12_asked_57 : decode cX12_asked 57 = .ok (.goto 42, 3) := by decide +kernel
theorem dX12_asked_60 : decode cX12_asked 60 = .ok (.lload_n 0, 1) := by decide +kernel
theorem dX12_asked_61 : decode cX12_asked 61 = .ok (.ldc2_w 286, 3) := by decide +kernel
theorem dX12_asked_64 : decode cX12_asked 64 = .ok (.lcmp, 1) := by decide +kernel
theorem dX12_asked_65 : decode cX12_asked 65 = .ok (.ifCond .ne 7, 3) := by decide +kernel
theorem dX12_asked_68 : decode cX12_asked 68 = .ok (.iconst 5, 1) := by decide +kernel
theorem dX12_asked_69 : decode cX12_asked 69 = .ok (.goto 30, 3) := by decide +kernel
theorem dX12_asked_72 : decode cX12_asked 72 = .ok (.lload_n 0, 1) := by decide +kernel
theorem dX12_asked_73 : decode cX12_asked 73 = .ok (.ldc2_w 288, 3) := by decide +kernel
theorem dX12_asked_76 : decode cX12_asked 76 = .ok (.lcmp, 1) := by decide +kernel
theorem dX12_asked_77 : decode cX12_asked 77 = .ok (.ifCond .ne 8, 3) := by decide +kernel
theorem dX12_asked_80 : decode cX12_asked 80 = .ok (.bipush 6, 2) := by decide +kernel
theorem dX12_asked_82 : decode cX12_asked 82 = .ok (.goto 17, 3) := by decide +kernel
theorem dX12_asked_85 : decode cX12_asked 85 = .ok (.lload_n 0, 1) := by decide +kernel
theorem dX12_asked_86 : decode cX12_asked 86 = .ok (.ldc2_w 290, 3) := by decide +kernel
theorem dX12_asked_89 : decode cX12_asked 89 = .ok (.lcmp, 1) := by decide +kernel
theorem dX12_asked_90 : decode cX12_asked 90 = .ok (.ifCond .ne 8, 3) := by decide +kernel
theorem dX12_asked_93 : decode cX12_asked 93 = .ok (.bipush 7, 2) := by decide +kernel
theorem dX12_asked_95 : decode cX12_asked 95 = .ok (.goto 4, 3) := by decide +kernel
theorem dX12_asked_98 : decode cX12_asked 98 = .ok (.iconst (-1), 1) := by decide +kernel
theorem dX12_asked_99 : decode cX12_asked 99 = .ok (.ireturn, 1) := by decide +kernel
theorem dX12_isKept_0 : decode cX12_isKept 0 = .ok (.lload_n 0, 1) := by decide +kernel
theorem dX12_isKept_1 : decode cX12_isKept 1 = .ok (.ldc2_w 292, 3) := by decide +kernel
theorem dX12_isKept_4 : decode cX12_isKept 4 = .ok (.lcmp, 1) := by decide +kernel
theorem dX12_isKept_5 : decode cX12_isKept 5 = .ok (.ifCond .eq 115, 3) := by decide +kernel
theorem dX12_isKept_8 : decode cX12_isKept 8 = .ok (.lload_n 0, 1) := by decide +kernel
theorem dX12_isKept_9 : decode cX12_isKept 9 = .ok (.ldc2_w 294, 3) := by decide +kernel
theorem dX12_isKept_12 : decode cX12_isKept 12 = .ok (.lcmp, 1) := by decide +kernel
theorem dX12_isKept_13 : decode cX12_isKept 13 = .ok (.ifCond .eq 107, 3) := by decide +kernel
theorem dX12_isKept_16 : decode cX12_isKept 16 = .ok (.lload_n 0, 1) := by decide +kernel
theorem dX12_isKept_17 : decode cX12_isKept 17 = .ok (.ldc2_w 296, 3) := by decide +kernel
theorem dX12_isKept_20 : decode cX12_isKept 20 = .ok (.lcmp, 1) := by decide +kernel
theorem dX12_isKept_21 : decode cX12_isKept 21 = .ok (.ifCond .eq 99, 3) := by decide +kernel
theorem dX12_isKept_24 : decode cX12_isKept 24 = .ok (.lload_n 0, 1) := by decide +kernel
theorem dX12_isKept_25 : decode cX12_isKept 25 = .ok (.ldc2_w 298, 3) := by decide +kernel
theorem dX12_isKept_28 : decode cX12_isKept 28 = .ok (.lcmp, 1) := by decide +kernel
theorem dX12_isKept_29 : decode cX12_isKept 29 = .ok (.ifCond .eq 91, 3) := by decide +kernel
theorem dX12_isKept_32 : decode cX12_isKept 32 = .ok (.lload_n 0, 1) := by decide +kernel
theorem dX12_isKept_33 : decode cX12_isKept 33 = .ok (.ldc2_w 300, 3) := by decide +kernel
theorem dX12_isKept_36 : decode cX12_isKept 36 = .ok (.lcmp, 1) := by decide +kernel
theorem dX12_isKept_37 : decode cX12_isKept 37 = .ok (.ifCond .eq 83, 3) := by decide +kernel
theorem dX12_isKept_40 : decode cX12_isKept 40 = .ok (.lload_n 0, 1) := by decide +kernel
theorem dX12_isKept_41 : decode cX12_isKept 41 = .ok (.ldc2_w 302, 3) := by decide +kernel
theorem dX12_isKept_44 : decode cX12_isKept 44 = .ok (.lcmp, 1) := by decide +kernel
theorem dX12_isKept_45 : decode cX12_isKept 45 = .ok (.ifCond .eq 75, 3) := by decide +kernel
theorem dX12_isKept_48 : decode cX12_isKept 48 = .ok (.lload_n 0, 1) := by decide +kernel
theorem dX12_isKept_49 : decode cX12_isKept 49 = .ok (.ldc2_w 304, 3) := by decide +kernel
theorem dX12_isKept_52 : decode cX12_isKept 52 = .ok (.lcmp, 1) := by decide +kernel
theorem dX12_isKept_53 : decode cX12_isKept 53 = .ok (.ifCond .eq 67, 3) := by decide +kernel
theorem dX12_isKept_56 : decode cX12_isKept 56 = .ok (.lload_n 0, 1) := by decide +kernel
theorem dX12_isKept_57 : decode cX12_isKept 57 = .ok (.ldc2_w 306, 3) := by decide +kernel
theorem dX12_isKept_60 : decode cX12_isKept 60 = .ok (.lcmp, 1) := by decide +kernel
