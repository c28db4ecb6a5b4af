theorem dX0_wipe_0 : decode cX0_wipe 0 = .ok (.aload_n 0, 1) := by decide +kernel
theorem dX0_wipe_1 : decode cX0_wipe 1 = .ok (.iconst 0, 1) := by decide +kernel
theorem dX0_wipe_2 : decode cX0_wipe 2 = .ok (.putfield 20, 3) := by decide +kernel
theorem dX0_wipe_5 : decode cX0_wipe 5 = .ok (.aload_n 0, 1) := by decide +kernel
theorem dX0_wipe_6 : decode cX0_wipe 6 = .ok (.iconst 0, 1) := by decide +kernel
theorem dX0_wipe_7 : decode cX0_wipe 7 = .ok (.putfield 24, 3) := by decide +kernel
theorem dX0_wipe_10 : decode cX0_wipe 10 = .ok (.iconst 0, 1) := by decide +kernel
theorem dX0_wipe_11 : decode cX0_wipe 11 = .ok (.istore_n 1, 1) := by decide +kernel
theorem dX0_wipe_12 : decode cX0_wipe 12 = .ok (.iload_n 1, 1) := by decide +kernel
theorem dX0_wipe_13 : decode cX0_wipe 13 = .ok (.aload_n 0, 1) := by decide +kernel
theorem dX0_wipe_14 : decode cX0_wipe 14 = .ok (.getfield 11, 3) := by decide +kernel
theorem dX0_wipe_17 : decode cX0_wipe 17 = .ok (.arraylength, 1) := by decide +kernel
theorem dX0_wipe_18 : decode cX0_wipe 18 = .ok (.if_icmp .ge 28, 3) := by decide +kernel
theorem dX0_wipe_21 : decode cX0_wipe 21 = .ok (.iload_n 1, 1) := by decide +kernel
theorem dX0_wipe_22 : decode cX0_wipe 22 = .ok (.getstatic 54, 3) := by decide +kernel
theorem dX0_wipe_25 : decode cX0_wipe 25 = .ok (.arraylength, 1) := by decide +kernel
theorem dX0_wipe_26 : decode cX0_wipe 26 = .ok (.if_icmp .ge 20, 3) := by decide +kernel
theorem dX0_wipe_29 : decode cX0_wipe 29 = .ok (.aload_n 0, 1) := by decide +kernel
theorem dX0_wipe_30 : decode cX0_wipe 30 = .ok (.getfield 11, 3) := by decide +kernel
theorem dX0_wipe_33 : decode cX0_wipe 33 = .ok (.iload_n 1, 1) := by decide +kernel
theorem dX0_wipe_34 : decode cX0_wipe 34 = .ok (.getstatic 54, 3) := by decide +kernel
theorem dX0_wipe_37 : decode cX0_wipe 37 = .ok (.iload_n 1, 1) := by decide +kernel
theorem dX0_wipe_38 : decode cX0_wipe 38 = .ok (.iaload, 1) := by decide +kernel
theorem dX0_wipe_39 : decode cX0_wipe 39 = .ok (.iastore, 1) := by decide +kernel
theorem dX0_wipe_40 : decode cX0_wipe 40 = .ok (.iinc 1 1, 3) := by decide +kernel
theorem dX0_wipe_43 : decode cX0_wipe 43 = .ok (.goto (-31), 3) := by decide +kernel
theorem dX0_wipe_46 : decode cX0_wipe 46 = .ok (.iconst 0, 1) := by decide +kernel
theorem dX0_wipe_47 : decode cX0_wipe 47 = .ok (.istore_n 1, 1) := by decide +kernel
theorem dX0_wipe_48 : decode cX0_wipe 48 = .ok (.iload_n 1, 1) := by decide +kernel
theorem dX0_wipe_49 : decode cX0_wipe 49 = .ok (.aload_n 0, 1) := by decide +kernel
theorem dX0_wipe_50 : decode cX0_wipe 50 = .ok (.getfield 17, 3) := by decide +kernel
theorem dX0_wipe_53 : decode cX0_wipe 53 = .ok (.arraylength, 1) := by decide +kernel
theorem dX0_wipe_54 : decode cX0_wipe 54 = .ok (.if_icmp .ge 17, 3) := by decide +kernel
theorem dX0_wipe_57 : decode cX0_wipe 57 = .ok (.aload_n 0, 1) := by decide +kernel
theorem dX0_wipe_58 : decode cX0_wipe 58 = .ok (.getfield 17, 3) := by decide +kernel
theorem dX0_wipe_61 : decode cX0_wipe 61 = .ok (.iload_n 1, 1) := by decide +kernel
theorem dX0_wipe_62 : decode cX0_wipe 62 = .ok (.bipush 100, 2) := by decide +kernel
theorem dX0_wipe_64 : decode cX0_wipe 64 = .ok (.iastore, 1) := by decide +kernel
theorem dX0_wipe_65 : decode cX0_wipe 65 = .ok (.iinc 1 1, 3) := by decide +kernel
theorem dX0_wipe_68 : decode cX0_wipe 68 = .ok (.goto (-20), 3) := by decide +kernel
theorem dX0_wipe_71 : decode cX0_wipe 71 = .ok (.return_, 1) := by decide +kernel
theorem dX0_term_0 : decode cX0_term 0 = .ok (.iload_n 1, 1) := by decide +kernel
theorem dX0_term_1 : decode cX0_term 1 = .ok (.ifCond .lt 21, 3) := by decide +kernel
theorem dX0_term_4 : decode cX0_term 4 = .ok (.iload_n 1, 1) := by decide +kernel
theorem dX0_term_5 : decode cX0_term 5 = .ok (.aload_n 0, 1) := by decide +kernel
theorem dX0_term_6 : decode cX0_term 6 = .ok (.getfield 11, 3) := by decide +kernel
theorem dX0_term_9 : decode cX0_term 9 = .ok (.arraylength, 1) := by decide +kernel
theorem dX0_term_10 : decode cX0_term 10 = .ok (.if_icmp .ge 12, 3) := by decide +kernel
theorem dX0_term_13 : decode cX0_term 13 = .ok (.aload_n 0, 1) := by decide +kernel
theorem dX0_term_14 : decode cX0_term 14 = .ok (.getfield 11, 3) := by decide +kernel
theorem dX0_term_17 : decode cX0_term 17 = .ok (.iload_n 1, 1) := by decide +kernel
theorem dX0_term_18 : decode cX0_term 18 = .ok (.iaload, 1) := by decide +kernel
theorem dX0_term_19 : decode cX0_term 19 = .ok (.goto 4, 3) := by decide +kernel
theorem dX0_term_22 : decode cX0_term 22 = .ok (.iconst (-1), 1) := by decide +kernel
theorem dX0_term_23 : decode cX0_term 23 = .ok (.ireturn, 1) := by decide +kernel
theorem dX0_setTerm_0 : decode cX0_setTerm 0 = .ok (.iload_n 1, 1) := by decide +kernel
theorem dX0_setTerm_1 : decode cX0_setTerm 1 = .ok (.ifCond .lt 19, 3) := by decide +kernel
theorem dX0_setTerm_4 : decode cX0_setTerm 4 = .ok (.iload_n 1, 1) := by decide +kernel
theorem dX0_setTerm_5 : decode cX0_setTerm 5 = .ok (.aload_n 0, 1) := by decide +kernel
theorem dX0_setTerm_6 : decode cX0_setTerm 6 = .ok (.getfield 11, 3) := by decide +kernel
theorem dX0_setTerm_9 : decode cX0_setTerm 9 = .ok (.arraylength, 1) := by decide +kernel
theorem dX0_setTerm_10 : decode cX0_setTerm 10 = .ok (.if_icmp .ge 10, 3) := by decide +kernel
theorem dX0_setTerm_13 : decode cX0_setTerm 13 = .ok (.aload_n 0, 1) := by decide +kernel
theorem dX0_setTerm_14 : decode cX0_setTerm 14 = .ok (.getfield 11, 3) := by decide +kernel
theorem dX0_setTerm_17 : decode cX0_setTerm 17 = .ok (.iload_n 1, 1) := by decide +kernel
theorem dX0_setTerm_18 : decode cX0_setTerm 18 = .ok (.iload_n 2, 1) := by decide +kernel
theorem dX0_setTerm_19 : decode cX0_setTerm 19 = .ok (.iastore, 1) := by decide +kernel
theorem dX0_setTerm_20 : decode cX0_setTerm 20 = .ok (.return_, 1) := by decide +kernel
theorem dX0_rate_0 : decode cX0_rate 0 = .ok (.iload_n 1, 1) := by decide +kernel
theorem dX0_rate_1 : decode cX0_rate 1 = .ok (.iconst 1, 1) := by decide +kernel
theorem dX0_rate_2 : decode cX0_rate 2 = .ok (.if_icmp .lt 21, 3) := by decide +kernel
theorem dX0_rate_5 : decode cX0_rate 5 = .ok (.iload_n 1, 1) := by decide +kernel
theorem dX0_rate_6 : decode cX0_rate 6 = .ok (.aload_n 0, 1) := by decide +kernel
theorem dX0_rate_7 : decode cX0_rate 7 = .ok (.getfield 17, 3) := by decide +kernel
theorem dX0_rate_10 : decode cX0_rate 10 = .ok (.arraylength, 1) := by decide +kernel
theorem dX0_rate_11 : decode cX0_rate 11 = .ok (.if_icmp .ge 12, 3) := by decide +kernel
theorem dX0_rate_14 : decode cX0_rate 14 = .ok (.aload_n 0, 1) := by decide +kernel
theorem dX0_rate_15 : decode cX0_rate 15 = .ok (.getfield 17, 3) := by decide +kernel
theorem dX0_rate_18 : decode cX0_rate 18 = .ok (.iload_n 1, 1) := by decide +kernel
theorem dX0_rate_19 : decode cX0_rate 19 = .ok (.iaload, 1) := by decide +kernel
theorem dX0_rate_20 : decode cX0_rate 20 = .ok (.goto 4, 3) := by decide +kernel
theorem dX0_rate_23 : decode cX0_rate 23 = .ok (.iconst (-1), 1) := by decide +kernel
theorem dX0_rate_24 : decode cX0_rate 24 = .ok (.ireturn, 1) := by decide +kernel
theorem dX0_setRate_0 : decode cX0_setRate 0 = .ok (.iload_n 1, 1) := by decide +kernel
theorem dX0_setRate_1 : decode cX0_setRate 1 = .ok (.iconst 1, 1) := by decide +kernel
theorem dX0_setRate_2 : decode cX0_setRate 2 = .ok (.if_icmp .lt 19, 3) := by decide +kernel
theorem dX0_setRate_5 : decode cX0_setRate 5 = .ok (.iload_n 1, 1) := by decide +kernel
theorem dX0_setRate_6 : decode cX0_setRate 6 = .ok (.aload_n 0, 1) := by decide +kernel
theorem dX0_setRate_7 : decode cX0_setRate 7 = .ok (.getfield 17, 3) := by decide +kernel
theorem dX0_setRate_10 : decode cX0_setRate 10 = .ok (.arraylength, 1) := by decide +kernel
theorem dX0_setRate_11 : decode cX0_setRate 11 = .ok (.if_icmp .ge 10, 3) := by decide +kernel
theorem dX0_setRate_14 : decode cX0_setRate 14 = .ok (.aload_n 0, 1) := by decide +kernel
theorem dX0_setRate_15 : decode cX0_setRate 15 = .ok (.getfield 17, 3) := by decide +kernel
theorem dX0_setRate_18 : decode cX0_setRate 18 = .ok (.iload_n 1, 1) := by decide +kernel
theorem dX0_setRate_19 : decode cX0_setRate 19 = .ok (.iload_n 2, 1) := by decide +kernel
theorem dX0_setRate_20 : decode cX0_setRate 20 = .ok (.iastore, 1) := by decide +kernel
theorem dX0_setRate_21 : decode cX0_setRate 21 = .ok (.return_, 1) := by decide +kernel
theorem dX0_isFull_0 : decode cX0_isFull 0 = .ok (.aload_n 0, 1) := by decide +kernel
theorem dX0_isFull_1 : decode cX0_isFull 1 = .ok (.getfield 20, 3) := by decide +kernel
theorem dX0_isFull_4 : decode cX0_isFull 4 = .ok (.bipush 40, 2) := by decide +kernel
theorem dX0_isFull_6 : decode cX0_isFull 6 = .ok (.if_icmp .lt 7, 3) := by decide +kernel
theorem dX0_isFull_9 : decode cX0_isFull 9 = .ok (.iconst 1, 1) := by decide +kernel
theorem dX0_isFull_10 : decode cX0_isFull 10 = .ok (.goto 4, 3) := by decide +kernel
theorem dX0_isFull_13 : decode cX0_isFull 13 = .ok (.iconst 0, 1) := by decide +kernel
theorem dX0_isFull_14 : decode cX0_isFull 14 = .ok (.ireturn, 1) := by decide +kernel
theorem dX0_add_0 : decode cX0_add 0 = .ok (.aload_n 0, 1) := by decide +kernel
theorem dX0_add_1 : decode cX0_add 1 = .ok (.getfield 20, 3) := by decide +kernel
theorem dX0_add_4 : decode cX0_add 4 = .ok (.ifCond .lt 102, 3) := by decide +kernel
theorem dX0_add_7 : decode cX0_add 7 = .ok (.aload_n 0, 1) := by decide +kernel
theorem dX0_add_8 : decode cX0_add 8 = .ok (.getfield 20, 3) := by decide +kernel
theorem dX0_add_11 : decode cX0_add 11 = .ok (.aload_n 0, 1) := by decide +kernel
theorem dX0_add_12 : decode cX0_add 12 = .ok (.getfield 36, 3) := by decide +kernel
theorem dX0_add_15 : decode cX0_add 15 = .ok (.arraylength, 1) := by decide +kernel
theorem dX0_add_16 : decode cX0_add 16 = .ok (.if_icmp .ge 90, 3) := by decide +kernel
theorem dX0_add_19 : decode cX0_add 19 = .ok (.aload_n 0, 1) := by decide +kernel
theorem dX0_add_20 : decode cX0_add 20 = .ok (.getfield 20, 3) := by decide +kernel
theorem dX0_add_23 : decode cX0_add 23 = .ok (.aload_n 0, 1) := by decide +kernel
theorem dX0_add_24 : decode cX0_add 24 = .ok (.getfield 39, 3) := by decide +kernel
theorem dX0_add_27 : decode cX0_add 27 = .ok (.arraylength, 1) := by decide +kernel
theorem dX0_add_28 : decode cX0_add 28 = .ok (.if_icmp .ge 78, 3) := by decide +kernel
theorem dX0_add_31 : decode cX0_add 31 = .ok (.aload_n 0, 1) := by decide +kernel
theorem dX0_add_32 : decode cX0_add 32 = .ok (.getfield 20, 3) := by decide +kernel
theorem dX0_add_35 : decode cX0_add 35 = .ok (.aload_n 0, 1) := by decide +kernel
theorem dX0_add_36 : decode cX0_add 36 = .ok (.getfield 42, 3) := by decide +kernel
theorem dX0_add_39 : decode cX0_add 39 = .ok (.arraylength, 1) := by decide +kernel
theorem dX0_add_40 : decode cX0_add 40 = .ok (.if_icmp .ge 66, 3) := by decide +kernel
theorem dX0_add_43 : decode cX0_add 43 = .ok (.aload_n 0, 1) := by decide +kernel
theorem dX0_add_44 : decode cX0_add 44 = .ok (.getfield 20, 3) := by decide +kernel
theorem dX0_add_47 : decode cX0_add 47 = .ok (.aload_n 0, 1) := by decide +kernel
theorem dX0_add_48 : decode cX0_add 48 = .ok (.getfield 45, 3) := by decide +kernel
theorem dX0_add_51 : decode cX0_add 51 = .ok (.arraylength, 1) := by decide +kernel
theorem dX0_add_52 : decode cX0_add 52 = .ok (.if_icmp .ge 54, 3) := by decide +kernel
theorem dX0_add_55 : decode cX0_add 55 = .ok (.aload_n 0, 1) := by decide +kernel
theorem dX0_add_56 : decode cX0_add 56 = .ok (.getfield 36, 3) := by decide +kernel
theorem dX0_add_59 : decode cX0_add 59 = .ok (.aload_n 0, 1) := by decide +kernel
theorem dX0_add_60 : decode cX0_add 60 = .ok (.getfield 20, 3) := by decide +kernel
theorem dX0_add_63 : decode cX0_add 63 = .ok (.iload_n 1, 1) := by decide +kernel
theorem dX0_add_64 : decode cX0_add 64 = .ok (.iastore, 1) := by decide +kernel
theorem dX0_add_65 : decode cX0_add 65 = .ok (.aload_n 0, 1) := by decide +kernel
theorem dX0_add_66 : decode cX0_add 66 = .ok (.getfield 39, 3) := by decide +kernel
theorem dX0_add_69 : decode cX0_add 69 = .ok (.aload_n 0, 1) := by decide +kernel
theorem dX0_add_70 : decode cX0_add 70 = .ok (.getfield 20, 3) := by decide +kernel
theorem dX0_add_73 : decode cX0_add 73 = .ok (.iload_n 2, 1) := by decide +kernel
theorem dX0_add_74 : decode cX0_add 74 = .ok (.iastore, 1) := by decide +kernel
theorem dX0_add_75 : decode cX0_add 75 = .ok (.aload_n 0, 1) := by decide +kernel
theorem dX0_add_76 : decode cX0_add 76 = .ok (.getfield 42, 3) := by decide +kernel
theorem dX0_add_79 : decode cX0_add 79 = .ok (.aload_n 0, 1) := by decide +kernel
theorem dX0_add_80 : decode cX0_add 80 = .ok (.getfield 20, 3) := by decide +kernel
theorem dX0_add_83 : decode cX0_add 83 = .ok (.iload_n 3, 1) := by decide +kernel
theorem dX0_add_84 : decode cX0_add 84 = .ok (.iastore, 1) := by decide +kernel
theorem dX0_add_85 : decode cX0_add 85 = .ok (.aload_n 0, 1) := by decide +kernel
theorem dX0_add_86 : decode cX0_add 86 = .ok (.getfield 45, 3) := by decide +kernel
theorem dX0_add_89 : decode cX0_add 89 = .ok (.aload_n 0, 1) := by decide +kernel
theorem dX0_add_90 : decode cX0_add 90 = .ok (.getfield 20, 3) := by decide +kernel
theorem dX0_add_93 : decode cX0_add 93 = .ok (.iload 4, 2) := by decide +kernel
theorem dX0_add_95 : decode cX0_add 95 = .ok (.iastore, 1) := by decide +kernel
theorem dX0_add_96 : decode cX0_add 96 = .ok (.aload_n 0, 1) := by decide +kernel
theorem dX0_add_97 : decode cX0_add 97 = .ok (.dup, 1) := by decide +kernel
theorem dX0_add_98 : decode cX0_add 98 = .ok (.getfield 20, 3) := by decide +kernel
theorem dX0_add_101 : decode cX0_add 101 = .ok (.iconst 1, 1) := by decide +kernel
theorem dX0_add_102 : decode cX0_add 102 = .ok (.iadd, 1) := by decide +kernel
theorem dX0_add_103 : decode cX0_add 103 = .ok (.putfield 20, 3) := by decide +kernel
theorem dX0_add_106 : decode cX0_add 106 = .ok (.return_, 1) := by decide +kernel
theorem dX0_emit_0 : decode cX0_emit 0 = .ok (.aload_n 0, 1) := by decide +kernel
theorem dX0_emit_1 : decode cX0_emit 1 = .ok (.getfield 24, 3) := by decide +kernel
theorem dX0_emit_4 : decode cX0_emit 4 = .ok (.ifCond .lt 15, 3) := by decide +kernel
theorem dX0_emit_7 : decode cX0_emit 7 = .ok (.aload_n 0, 1) := by decide +kernel
theorem dX0_emit_8 : decode cX0_emit 8 = .ok (.getfield 24, 3) := by decide +kernel
theorem dX0_emit_11 : decode cX0_emit 11 = .ok (.aload_n 0, 1) := by decide +kernel
theorem dX0_emit_12 : decode cX0_emit 12 = .ok (.getfield 48, 3) := by decide +kernel
theorem dX0_emit_15 : decode cX0_emit 15 = .ok (.arraylength, 1) := by decide +kernel
theorem dX0_emit_16 : decode cX0_emit 16 = .ok (.if_icmp .lt 5, 3) := by decide +kernel
theorem dX0_emit_19 : decode cX0_emit 19 = .ok (.iconst 0, 1) := by decide +kernel
theorem dX0_emit_20 : decode cX0_emit 20 = .ok (.ireturn, 1) := by decide +kernel
theorem dX0_emit_21 : decode cX0_emit 21 = .ok (.aload_n 0, 1) := by decide +kernel
theorem dX0_emit_22 : decode cX0_emit 22 = .ok (.getfield 48, 3) := by decide +kernel
theorem dX0_emit_25 : decode cX0_emit 25 = .ok (.aload_n 0, 1) := by decide +kernel
theorem dX0_emit_26 : decode cX0_emit 26 = .ok (.getfield 24, 3) := by decide +kernel
theorem dX0_emit_29 : decode cX0_emit 29 = .ok (.iload_n 1, 1) := by decide +kernel
theorem dX0_emit_30 : decode cX0_emit 30 = .ok (.iastore, 1) := by decide +kernel
theorem dX0_emit_31 : decode cX0_emit 31 = .ok (.aload_n 0, 1) := by decide +kernel
theorem dX0_emit_32 : decode cX0_emit 32 = .ok (.dup, 1) := by decide +kernel
theorem dX0_emit_33 : decode cX0_emit 33 = .ok (.getfield 24, 3) := by decide +kernel
theorem dX0_emit_36 : decode cX0_emit 36 = .ok (.iconst 1, 1) := by decide +kernel
theorem dX0_emit_37 : decode cX0_emit 37 = .ok (.iadd, 1) := by decide +kernel
theorem dX0_emit_38 : decode cX0_emit 38 = .ok (.putfield 24, 3) := by decide +kernel
theorem dX0_emit_41 : decode cX0_emit 41 = .ok (.iconst 1, 1) := by decide +kernel
theorem dX0_emit_42 : decode cX0_emit 42 = .ok (.ireturn, 1) := by decide +kernel
theorem dX0_comparison_0 : decode cX0_comparison 0 = .ok (.iload_n 2, 1) := by decide +kernel
theorem dX0_comparison_1 : decode cX0_comparison 1 = .ok (.bipush 8, 2) := by decide +kernel
theorem dX0_comparison_3 : decode cX0_comparison 3 = .ok (.ishl, 1) := by decide +kernel
theorem dX0_comparison_4 : decode cX0_comparison 4 = .ok (.iload_n 0, 1) := by decide +kernel
theorem dX0_comparison_5 : decode cX0_comparison 5 = .ok (.iconst 2, 1) := by decide +kernel
theorem dX0_comparison_6 : decode cX0_comparison 6 = .ok (.ishl, 1) := by decide +kernel
theorem dX0_comparison_7 : decode cX0_comparison 7 = .ok (.ior, 1) := by decide +kernel
theorem dX0_comparison_8 : decode cX0_comparison 8 = .ok (.iload_n 1, 1) := by decide +kernel
theorem dX0_comparison_9 : decode cX0_comparison 9 = .ok (.bipush 60, 2) := by decide +kernel
theorem dX0_comparison_11 : decode cX0_comparison 11 = .ok (.isub, 1) := by decide +kernel
theorem dX0_comparison_12 : decode cX0_comparison 12 = .ok (.iconst 3, 1) := by decide +kernel
theorem dX0_comparison_13 : decode cX0_comparison 13 = .ok (.iand, 1) := by decide +kernel
theorem dX0_comparison_14 : decode cX0_comparison 14 = .ok (.ior, 1) := by decide +kernel
theorem dX0_comparison_15 : decode cX0_comparison 15 = .ok (.ireturn, 1) := by decide +kernel
theorem dX0_subjectOf_0 : decode cX0_subjectOf 0 = .ok (.iload_n 0, 1) := by decide +kernel
theorem dX0_subjectOf_1 : decode cX0_subjectOf 1 = .ok (.iconst 2, 1) := by decide +kernel
theorem dX0_subjectOf_2 : decode cX0_subjectOf 2 = .ok (.iushr, 1) := by decide +kernel
theorem dX0_subjectOf_3 : decode cX0_subjectOf 3 = .ok (.bipush 63, 2) := by decide +kernel
theorem dX0_subjectOf_5 : decode cX0_subjectOf 5 = .ok (.iand, 1) := by decide +kernel
theorem dX0_subjectOf_6 : decode cX0_subjectOf 6 = .ok (.ireturn, 1) := by decide +kernel
theorem dX0_holds_0 : decode cX0_holds 0 = .ok (.iload_n 0, 1) := by decide +kernel
theorem dX0_holds_1 : decode cX0_holds 1 = .ok (.bipush 8, 2) := by decide +kernel
theorem dX0_holds_3 : decode cX0_holds 3 = .ok (.iushr, 1) := by decide +kernel
theorem dX0_holds_4 : decode cX0_holds 4 = .ok (.istore_n 2, 1) := by decide +kernel
theorem dX0_holds_5 : decode cX0_holds 5 = .ok (.iload_n 0, 1) := by decide +kernel
theorem dX0_holds_6 : decode cX0_holds 6 = .ok (.iconst 3, 1) := by decide +kernel
theorem dX0_holds_7 : decode cX0_holds 7 = .ok (.iand, 1) := by decide +kernel
theorem dX0_holds_8 : decode cX0_holds 8 = .ok (.lookupswitch 50 #[(0, 28), (1, 39)], 28) := by decide +kernel
theorem dX0_holds_36 : decode cX0_holds 36 = .ok (.iload_n 1, 1) := by decide +kernel
theorem dX0_holds_37 : decode cX0_holds 37 = .ok (.iload_n 2, 1) := by decide +kernel
theorem dX0_holds_38 : decode cX0_holds 38 = .ok (.if_icmp .ge 7, 3) := by decide +kernel
theorem dX0_holds_41 : decode cX0_holds 41 = .ok (.iconst 1, 1) := by decide +kernel
theorem dX0_holds_42 : decode cX0_holds 42 = .ok (.goto 4, 3) := by decide +kernel
theorem dX0_holds_45 : decode cX0_holds 45 = .ok (.iconst 0, 1) := by decide +kernel
theorem dX0_holds_46 : decode cX0_holds 46 = .ok (.ireturn, 1) := by decide +kernel
theorem dX0_holds_47 : decode cX0_holds 47 = .ok (.iload_n 1, 1) := by decide +kernel
theorem dX0_holds_48 : decode cX0_holds 48 = .ok (.iload_n 2, 1) := by decide +kernel
theorem dX0_holds_49 : decode cX0_holds 49 = .ok (.if_icmp .ne 7, 3) := by decide +kernel
theorem dX0_holds_52 : decode cX0_holds 52 = .ok (.iconst 1, 1) := by decide +kernel
theorem dX0_holds_53 : decode cX0_holds 53 = .ok (.goto 4, 3) := by decide +kernel
theorem dX0_holds_56 : decode cX0_holds 56 = .ok (.iconst 0, 1) := by decide +kernel
theorem dX0_holds_57 : decode cX0_holds 57 = .ok (.ireturn, 1) := by decide +kernel
theorem dX0_holds_58 : decode cX0_holds 58 = .ok (.iload_n 1, 1) := by decide +kernel
theorem dX0_holds_59 : decode cX0_holds 59 = .ok (.iload_n 2, 1) := by decide +kernel
theorem dX0_holds_60 : decode cX0_holds 60 = .ok (.if_icmp .le 7, 3) := by decide +kernel
theorem dX0_holds_63 : decode cX0_holds 63 = .ok (.iconst 1, 1) := by decide +kernel
theorem dX0_holds_64 : decode cX0_holds 64 = .ok (.goto 4, 3) := by decide +kernel
theorem dX0_holds_67 : decode cX0_holds 67 = .ok (.iconst 0, 1) := by decide +kernel
theorem dX0_holds_68 : decode cX0_holds 68 = .ok (.ireturn, 1) := by decide +kernel
theorem dX0_leastOf_0 : decode cX0_leastOf 0 = .ok (.iconst 0, 1) := by decide +kernel
theorem dX0_leastOf_1 : decode cX0_leastOf 1 = .ok (.istore_n 2, 1) := by decide +kernel
theorem dX0_leastOf_2 : decode cX0_leastOf 2 = .ok (.iconst 0, 1) := by decide +kernel
theorem dX0_leastOf_3 : decode cX0_leastOf 3 = .ok (.istore_n 3, 1) := by decide +kernel
theorem dX0_leastOf_4 : decode cX0_leastOf 4 = .ok (.iload_n 3, 1) := by decide +kernel
theorem dX0_leastOf_5 : decode cX0_leastOf 5 = .ok (.aload_n 0, 1) := by decide +kernel
theorem dX0_leastOf_6 : decode cX0_leastOf 6 = .ok (.getfield 20, 3) := by decide +kernel
theorem dX0_leastOf_9 : decode cX0_leastOf 9 = .ok (.if_icmp .ge 48, 3) := by decide +kernel
theorem dX0_leastOf_12 : decode cX0_leastOf 12 = .ok (.iload_n 3, 1) := by decide +kernel
theorem dX0_leastOf_13 : decode cX0_leastOf 13 = .ok (.aload_n 0, 1) := by decide +kernel
theorem dX0_leastOf_14 : decode cX0_leastOf 14 = .ok (.getfield 36, 3) := by decide +kernel
theorem dX0_leastOf_17 : decode cX0_leastOf 17 = .ok (.arraylength, 1) := by decide +kernel
theorem dX0_leastOf_18 : decode cX0_leastOf 18 = .ok (.if_icmp .ge 39, 3) := by decide +kernel
theorem dX0_leastOf_21 : decode cX0_leastOf 21 = .ok (.aload_n 0, 1) := by decide +kernel
theorem dX0_leastOf_22 : decode cX0_leastOf 22 = .ok (.getfield 36, 3) := by decide +kernel
theorem dX0_leastOf_25 : decode cX0_leastOf 25 = .ok (.iload_n 3, 1) := by decide +kernel
theorem dX0_leastOf_26 : decode cX0_leastOf 26 = .ok (.iaload, 1) := by decide +kernel
theorem dX0_leastOf_27 : decode cX0_leastOf 27 = .ok (.ifCond .ne 24, 3) := by decide +kernel
theorem dX0_leastOf_30 : decode cX0_leastOf 30 = .ok (.aload_n 0, 1) := by decide +kernel
theorem dX0_leastOf_31 : decode cX0_leastOf 31 = .ok (.getfield 39, 3) := by decide +kernel
theorem dX0_leastOf_34 : decode cX0_leastOf 34 = .ok (.iload_n 3, 1) := by decide +kernel
theorem dX0_leastOf_35 : decode cX0_leastOf 35 = .ok (.iaload, 1) := by decide +kernel
theorem dX0_leastOf_36 : decode cX0_leastOf 36 = .ok (.iload_n 1, 1) := by decide +kernel
theorem dX0_leastOf_37 : decode cX0_leastOf 37 = .ok (.if_icmp .ne 14, 3) := by decide +kernel
theorem dX0_leastOf_40 : decode cX0_leastOf 40 = .ok (.iload_n 2, 1) := by decide +kernel
theorem dX0_leastOf_41 : decode cX0_leastOf 41 = .ok (.aload_n 0, 1) := by decide +kernel
theorem dX0_leastOf_42 : decode cX0_leastOf 42 = .ok (.getfield 42, 3) := by decide +kernel
theorem dX0_leastOf_45 : decode cX0_leastOf 45 = .ok (.iload_n 3, 1) := by decide +kernel
theorem dX0_leastOf_46 : decode cX0_leastOf 46 = .ok (.iaload, 1) := by decide +kernel
theorem dX0_leastOf_47 : decode cX0_leastOf 47 = .ok (.invokestatic 30, 3) := by decide +kernel
theorem dX0_leastOf_50 : decode cX0_leastOf 50 = .ok (.istore_n 2, 1) := by decide +kernel
theorem dX0_leastOf_51 : decode cX0_leastOf 51 = .ok (.iinc 3 1, 3) := by decide +kernel
theorem dX0_leastOf_54 : decode cX0_leastOf 54 = .ok (.goto (-50), 3) := by decide +kernel
theorem dX0_leastOf_57 : decode cX0_leastOf 57 = .ok (.iload_n 2, 1) := by decide +kernel
theorem dX0_leastOf_58 : decode cX0_leastOf 58 = .ok (.ireturn, 1) := by decide +kernel
theorem dX0_canBeMet_0 : decode cX0_canBeMet 0 = .ok (.lconst 0, 1) := by decide +kernel
theorem dX0_canBeMet_1 : decode cX0_canBeMet 1 = .ok (.lstore_n 1, 1) := by decide +kernel
theorem dX0_canBeMet_2 : decode cX0_canBeMet 2 = .ok (.lconst 0, 1) := by decide +kernel
theorem dX0_canBeMet_3 : decode cX0_canBeMet 3 = .ok (.lstore_n 3, 1) := by decide +kernel
theorem dX0_canBeMet_4 : decode cX0_canBeMet 4 = .ok (.iconst 1, 1) := by decide +kernel
theorem dX0_canBeMet_5 : decode cX0_canBeMet 5 = .ok (.istore 5, 2) := by decide +kernel
theorem dX0_canBeMet_7 : decode cX0_canBeMet 7 = .ok (.iload 5, 2) := by decide +kernel
theorem dX0_canBeMet_9 : decode cX0_canBeMet 9 = .ok (.bipush 12, 2) := by decide +kernel
theorem dX0_canBeMet_11 : decode cX0_canBeMet 11 = .ok (.if_icmp .gt 36, 3) := by decide +kernel
theorem dX0_canBeMet_14 : decode cX0_canBeMet 14 = .ok (.aload_n 0, 1) := by decide +kernel
theorem dX0_canBeMet_15 : decode cX0_canBeMet 15 = .ok (.iload 5, 2) := by decide +kernel
theorem dX0_canBeMet_17 : decode cX0_canBeMet 17 = .ok (.invokevirtual 57, 3) := by decide +kernel
theorem dX0_canBeMet_20 : decode cX0_canBeMet 20 = .ok (.i2l, 1) := by decide +kernel
theorem dX0_canBeMet_21 : decode cX0_canBeMet 21 = .ok (.lstore 6, 2) := by decide +kernel
theorem dX0_canBeMet_23 : decode cX0_canBeMet 23 = .ok (.lload_n 1, 1) := by decide +kernel
theorem dX0_canBeMet_24 : decode cX0_canBeMet 24 = .ok (.lload 6, 2) := by decide +kernel
theorem dX0_canBeMet_26 : decode cX0_canBeMet 26 = .ok (.ladd, 1) := by decide +kernel
theorem dX0_canBeMet_27 : decode cX0_canBeMet 27 = .ok (.lstore_n 1, 1) := by decide +kernel
theorem dX0_canBeMet_28 : decode cX0_canBeMet 28 = .ok (.lload_n 3, 1) := by decide +kernel
theorem dX0_canBeMet_29 : decode cX0_canBeMet 29 = .ok (.lload 6, 2) := by decide +kernel
theorem dX0_canBeMet_31 : decode cX0_canBeMet 31 = .ok (.aload_n 0, 1) := by decide +kernel
theorem dX0_canBeMet_32 : decode cX0_canBeMet 32 = .ok (.iload 5, 2) := by decide +kernel
theorem dX0_canBeMet_34 : decode cX0_canBeMet 34 = .ok (.invokevirtual 61, 3) := by decide +kernel
theorem dX0_canBeMet_37 : decode cX0_canBeMet 37 = .ok (.i2l, 1) := by decide +kernel
theorem dX0_canBeMet_38 : decode cX0_canBeMet 38 = .ok (.lmul, 1) := by decide +kernel
theorem dX0_canBeMet_39 : decode cX0_canBeMet 39 = .ok (.ladd, 1) := by decide +kernel
theorem dX0_canBeMet_40 : decode cX0_canBeMet 40 = .ok (.lstore_n 3, 1) := by decide +kernel
theorem dX0_canBeMet_41 : decode cX0_canBeMet 41 = .ok (.iinc 5 1, 3) := by decide +kernel
theorem dX0_canBeMet_44 : decode cX0_canBeMet 44 = .ok (.goto (-37), 3) := by decide +kernel
theorem dX0_canBeMet_47 : decode cX0_canBeMet 47 = .ok (.lload_n 1, 1) := by decide +kernel
theorem dX0_canBeMet_48 : decode cX0_canBeMet 48 = .ok (.ldc2_w 64, 3) := by decide +kernel
theorem dX0_canBeMet_51 : decode cX0_canBeMet 51 = .ok (.lcmp, 1) := by decide +kernel
theorem dX0_canBeMet_52 : decode cX0_canBeMet 52 = .ok (.ifCond .le 5, 3) := by decide +kernel
theorem dX0_canBeMet_55 : decode cX0_canBeMet 55 = .ok (.iconst 1, 1) := by decide +kernel
theorem dX0_canBeMet_56 : decode cX0_canBeMet 56 = .ok (.ireturn, 1) := by decide +kernel
theorem dX0_canBeMet_57 : decode cX0_canBeMet 57 = .ok (.iconst 0, 1) := by decide +kernel
theorem dX0_canBeMet_58 : decode cX0_canBeMet 58 = .ok (.istore 5, 2) := by decide +kernel
theorem dX0_canBeMet_60 : decode cX0_canBeMet 60 = .ok (.iload 5, 2) := by decide +kernel
theorem dX0_canBeMet_62 : decode cX0_canBeMet 62 = .ok (.aload_n 0, 1) := by decide +kernel
theorem dX0_canBeMet_63 : decode cX0_canBeMet 63 = .ok (.getfield 20, 3) := by decide +kernel
theorem dX0_canBeMet_66 : decode cX0_canBeMet 66 = .ok (.if_icmp .ge 46, 3) := by decide +kernel
theorem dX0_canBeMet_69 : decode cX0_canBeMet 69 = .ok (.iload 5, 2) := by decide +kernel
theorem dX0_canBeMet_71 : decode cX0_canBeMet 71 = .ok (.aload_n 0, 1) := by decide +kernel
theorem dX0_canBeMet_72 : decode cX0_canBeMet 72 = .ok (.getfield 36, 3) := by decide +kernel
theorem dX0_canBeMet_75 : decode cX0_canBeMet 75 = .ok (.arraylength, 1) := by decide +kernel
theorem dX0_canBeMet_76 : decode cX0_canBeMet 76 = .ok (.if_icmp .ge 36, 3) := by decide +kernel
theorem dX0_canBeMet_79 : decode cX0_canBeMet 79 = .ok (.aload_n 0, 1) := by decide +kernel
theorem dX0_canBeMet_80 : decode cX0_canBeMet 80 = .ok (.getfield 36, 3) := by decide +kernel
theorem dX0_canBeMet_83 : decode cX0_canBeMet 83 = .ok (.iload 5, 2) := by decide +kernel
theorem dX0_canBeMet_85 : decode cX0_canBeMet 85 = .ok (.iaload, 1) := by decide +kernel
theorem dX0_canBeMet_86 : decode cX0_canBeMet 86 = .ok (.bipush 7, 2) := by decide +kernel
theorem dX0_canBeMet_88 : decode cX0_canBeMet 88 = .ok (.if_icmp .ne 18, 3) := by decide +kernel
theorem dX0_canBeMet_91 : decode cX0_canBeMet 91 = .ok (.lload_n 3, 1) := by decide +kernel
theorem dX0_canBeMet_92 : decode cX0_canBeMet 92 = .ok (.aload_n 0, 1) := by decide +kernel
theorem dX0_canBeMet_93 : decode cX0_canBeMet 93 = .ok (.getfield 39, 3) := by decide +kernel
theorem dX0_canBeMet_96 : decode cX0_canBeMet 96 = .ok (.iload 5, 2) := by decide +kernel
theorem dX0_canBeMet_98 : decode cX0_canBeMet 98 = .ok (.iaload, 1) := by decide +kernel
theorem dX0_canBeMet_99 : decode cX0_canBeMet 99 = .ok (.i2l, 1) := by decide +kernel
theorem dX0_canBeMet_100 : decode cX0_canBeMet 100 = .ok (.lcmp, 1) := by decide +kernel
theorem dX0_canBeMet_101 : decode cX0_canBeMet 101 = .ok (.ifCond .le 5, 3) := by decide +kernel
theorem dX0_canBeMet_104 : decode cX0_canBeMet 104 = .ok (.iconst 2, 1) := by decide +kernel
theorem dX0_canBeMet_105 : decode cX0_canBeMet 105 = .ok (.ireturn, 1) := by decide +kernel
theorem dX0_canBeMet_106 : decode cX0_canBeMet 106 = .ok (.iinc 5 1, 3) := by decide +kernel
theorem dX0_canBeMet_109 : decode cX0_canBeMet 109 = .ok (.goto (-49), 3) := by decide +kernel
theorem dX0_canBeMet_112 : decode cX0_canBeMet 112 = .ok (.iconst 0, 1) := by decide +kernel
theorem dX0_canBeMet_113 : decode cX0_canBeMet 113 = .ok (.ireturn, 1) := by decide +kernel
theorem dX1_isFull_0 : decode cX1_isFull 0 = .ok (.aload_n 0, 1) := by decide +kernel
theorem dX1_isFull_1 : decode cX1_isFull 1 = .ok (.getfield 24, 3) := by decide +kernel
theorem dX1_isFull_4 : decode cX1_isFull 4 = .ok (.bipush 6, 2) := by decide +kernel
theorem dX1_isFull_6 : decode cX1_isFull 6 = .ok (.if_icmp .lt 7, 3) := by decide +kernel
theorem dX1_isFull_9 : decode cX1_isFull 9 = .ok (.iconst 1, 1) := by decide +kernel
theorem dX1_isFull_10 : decode cX1_isFull 10 = .ok (.goto 4, 3) := by decide +kernel
theorem dX1_isFull_13 : decode cX1_isFull 13 = .ok (.iconst 0, 1) := by decide +kernel
theorem dX1_isFull_14 : decode cX1_isFull 14 = .ok (.ireturn, 1) := by decide +kernel
theorem dX1_take_0 : decode cX1_take 0 = .ok (.aload_n 0, 1) := by decide +kernel
theorem dX1_take_1 : decode cX1_take 1 = .ok (.getfield 24, 3) := by decide +kernel
theorem dX1_take_4 : decode cX1_take 4 = .ok (.ifCond .lt 15, 3) := by decide +kernel
theorem dX1_take_7 : decode cX1_take 7 = .ok (.aload_n 0, 1) := by decide +kernel
theorem dX1_take_8 : decode cX1_take 8 = .ok (.getfield 24, 3) := by decide +kernel
theorem dX1_take_11 : decode cX1_take 11 = .ok (.aload_n 0, 1) := by decide +kernel
theorem dX1_take_12 : decode cX1_take 12 = .ok (.getfield 13, 3) := by decide +kernel
theorem dX1_take_15 : decode cX1_take 15 = .ok (.arraylength, 1) := by decide +kernel
theorem dX1_take_16 : decode cX1_take 16 = .ok (.if_icmp .lt 6, 3) := by decide +kernel
theorem dX1_take_19 : decode cX1_take 19 = .ok (.bipush (-3), 2) := by decide +kernel
theorem dX1_take_21 : decode cX1_take 21 = .ok (.ireturn, 1) := by decide +kernel
theorem dX1_take_22 : decode cX1_take 22 = .ok (.aload_n 1, 1) := by decide +kernel
theorem dX1_take_23 : decode cX1_take 23 = .ok (.iload_n 2, 1) := by decide +kernel
theorem dX1_take_24 : decode cX1_take 24 = .ok (.putfield 31, 3) := by decide +kernel
theorem dX1_take_27 : decode cX1_take 27 = .ok (.aload_n 0, 1) := by decide +kernel
theorem dX1_take_28 : decode cX1_take 28 = .ok (.getfield 13, 3) := by decide +kernel
theorem dX1_take_31 : decode cX1_take 31 = .ok (.aload_n 0, 1) := by decide +kernel
theorem dX1_take_32 : decode cX1_take 32 = .ok (.getfield 24, 3) := by decide +kernel
theorem dX1_take_35 : decode cX1_take 35 = .ok (.aload_n 1, 1) := by decide +kernel
theorem dX1_take_36 : decode cX1_take 36 = .ok (.aastore, 1) := by decide +kernel
theorem dX1_take_37 : decode cX1_take 37 = .ok (.aload_n 0, 1) := by decide +kernel
theorem dX1_take_38 : decode cX1_take 38 = .ok (.aconst_null, 1) := by decide +kernel
theorem dX1_take_39 : decode cX1_take 39 = .ok (.putfield 28, 3) := by decide +kernel
theorem dX1_take_42 : decode cX1_take 42 = .ok (.aload_n 0, 1) := by decide +kernel
theorem dX1_take_43 : decode cX1_take 43 = .ok (.dup, 1) := by decide +kernel
theorem dX1_take_44 : decode cX1_take 44 = .ok (.getfield 24, 3) := by decide +kernel
theorem dX1_take_47 : decode cX1_take 47 = .ok (.iconst 1, 1) := by decide +kernel
theorem dX1_take_48 : decode cX1_take 48 = .ok (.iadd, 1) := by decide +kernel
theorem dX1_take_49 : decode cX1_take 49 = .ok (.putfield 24, 3) := by decide +kernel
theorem dX1_take_52 : decode cX1_take 52 = .ok (.aload_n 0, 1) := by decide +kernel
theorem dX1_take_53 : decode cX1_take 53 = .ok (.getfield 24, 3) := by decide +kernel
theorem dX1_take_56 : decode cX1_take 56 = .ok (.iconst 1, 1) := by decide +kernel
theorem dX1_take_57 : decode cX1_take 57 = .ok (.isub, 1) := by decide +kernel
theorem dX1_take_58 : decode cX1_take 58 = .ok (.ireturn, 1) := by decide +kernel
theorem dX1_numberOn_0 : decode cX1_numberOn 0 = .ok (.aload_n 0, 1) := by decide +kernel
theorem dX1_numberOn_1 : decode cX1_numberOn 1 = .ok (.getfield 24, 3) := by decide +kernel
theorem dX1_numberOn_4 : decode cX1_numberOn 4 = .ok (.aload_n 0, 1) := by decide +kernel
theorem dX1_numberOn_5 : decode cX1_numberOn 5 = .ok (.getfield 13, 3) := by decide +kernel
theorem dX1_numberOn_8 : decode cX1_numberOn 8 = .ok (.arraylength, 1) := by decide +kernel
theorem dX1_numberOn_9 : decode cX1_numberOn 9 = .ok (.invokestatic 34, 3) := by decide +kernel
theorem dX1_numberOn_12 : decode cX1_numberOn 12 = .ok (.iconst 1, 1) := by decide +kernel
theorem dX1_numberOn_13 : decode cX1_numberOn 13 = .ok (.isub, 1) := by decide +kernel
theorem dX1_numberOn_14 : decode cX1_numberOn 14 = .ok (.istore_n 2, 1) := by decide +kernel
theorem dX1_numberOn_15 : decode cX1_numberOn 15 = .ok (.iload_n 2, 1) := by decide +kernel
theorem dX1_numberOn_16 : decode cX1_numberOn 16 = .ok (.ifCond .lt 30, 3) := by decide +kernel
theorem dX1_numberOn_19 : decode cX1_numberOn 19 = .ok (.aload_n 0, 1) := by decide +kernel
theorem dX1_numberOn_20 : decode cX1_numberOn 20 = .ok (.getfield 13, 3) := by decide +kernel
theorem dX1_numberOn_23 : decode cX1_numberOn 23 = .ok (.iload_n 2, 1) := by decide +kernel
theorem dX1_numberOn_24 : decode cX1_numberOn 24 = .ok (.aaload, 1) := by decide +kernel
theorem dX1_numberOn_25 : decode cX1_numberOn 25 = .ok (.astore_n 3, 1) := by decide +kernel
theorem dX1_numberOn_26 : decode cX1_numberOn 26 = .ok (.aload_n 3, 1) := by decide +kernel
theorem dX1_numberOn_27 : decode cX1_numberOn 27 = .ok (.ifnull 13, 3) := by decide +kernel
theorem dX1_numberOn_30 : decode cX1_numberOn 30 = .ok (.aload_n 3, 1) := by decide +kernel
theorem dX1_numberOn_31 : decode cX1_numberOn 31 = .ok (.getfield 31, 3) := by decide +kernel
theorem dX1_numberOn_34 : decode cX1_numberOn 34 = .ok (.iload_n 1, 1) := by decide +kernel
theorem dX1_numberOn_35 : decode cX1_numberOn 35 = .ok (.if_icmp .gt 5, 3) := by decide +kernel
theorem dX1_numberOn_38 : decode cX1_numberOn 38 = .ok (.iload_n 2, 1) := by decide +kernel
theorem dX1_numberOn_39 : decode cX1_numberOn 39 = .ok (.ireturn, 1) := by decide +kernel
theorem dX1_numberOn_40 : decode cX1_numberOn 40 = .ok (.iinc 2 (-1), 3) := by decide +kernel
theorem dX1_numberOn_43 : decode cX1_numberOn 43 = .ok (.goto (-28), 3) := by decide +kernel
theorem dX1_numberOn_46 : decode cX1_numberOn 46 = .ok (.iconst (-1), 1) := by decide +kernel
theorem dX1_numberOn_47 : decode cX1_numberOn 47 = .ok (.ireturn, 1) := by decide +kernel
theorem dX1_on_0 : decode cX1_on 0 = .ok (.aload_n 0, 1) := by decide +kernel
theorem dX1_on_1 : decode cX1_on 1 = .ok (.iload_n 1, 1) := by decide +kernel
theorem dX1_on_2 : decode cX1_on 2 = .ok (.invokevirtual 40, 3) := by decide +kernel
theorem dX1_on_5 : decode cX1_on 5 = .ok (.istore_n 2, 1) := by decide +kernel
theorem dX1_on_6 : decode cX1_on 6 = .ok (.iload_n 2, 1) := by decide +kernel
theorem dX1_on_7 : decode cX1_on 7 = .ok (.ifCond .lt 21, 3) := by decide +kernel
theorem dX1_on_10 : decode cX1_on 10 = .ok (.iload_n 2, 1) := by decide +kernel
theorem dX1_on_11 : decode cX1_on 11 = .ok (.aload_n 0, 1) := by decide +kernel
theorem dX1_on_12 : decode cX1_on 12 = .ok (.getfield 13, 3) := by decide +kernel
theorem dX1_on_15 : decode cX1_on 15 = .ok (.arraylength, 1) := by decide +kernel
theorem dX1_on_16 : decode cX1_on 16 = .ok (.if_icmp .ge 12, 3) := by decide +kernel
theorem dX1_on_19 : decode cX1_on 19 = .ok (.aload_n 0, 1) := by decide +kernel
theorem dX1_on_20 : decode cX1_on 20 = .ok (.getfield 13, 3) := by decide +kernel
theorem dX1_on_23 : decode cX1_on 23 = .ok (.iload_n 2, 1) := by decide +kernel
theorem dX1_on_24 : decode cX1_on 24 = .ok (.aaload, 1) := by decide +kernel
theorem dX1_on_25 : decode cX1_on 25 = .ok (.goto 4, 3) := by decide +kernel
theorem dX1_on_28 : decode cX1_on 28 = .ok (.aconst_null, 1) := by decide +kernel
theorem dX1_on_29 : decode cX1_on 29 = .ok (.astore_n 3, 1) := by decide +kernel
theorem dX1_on_30 : decode cX1_on 30 = .ok (.aload_n 3, 1) := by decide +kernel
theorem dX1_on_31 : decode cX1_on 31 = .ok (.ifnonnull 10, 3) := by decide +kernel
theorem dX1_on_34 : decode cX1_on 34 = .ok (.aload_n 0, 1) := by decide +kernel
theorem dX1_on_35 : decode cX1_on 35 = .ok (.getfield 20, 3) := by decide +kernel
theorem dX1_on_38 : decode cX1_on 38 = .ok (.goto 4, 3) := by decide +kernel
theorem dX1_on_41 : decode cX1_on 41 = .ok (.aload_n 3, 1) := by decide +kernel
theorem dX1_on_42 : decode cX1_on 42 = .ok (.areturn, 1) := by decide +kernel
theorem dX2_add_0 : decode cX2_add 0 = .ok (.aload_n 0, 1) := by decide +kernel
theorem dX2_add_1 : decode cX2_add 1 = .ok (.getfield 15, 3) := by decide +kernel
theorem dX2_add_4 : decode cX2_add 4 = .ok (.bipush 7, 2) := by decide +kernel
theorem dX2_add_6 : decode cX2_add 6 = .ok (.if_icmp .lt 5, 3) := by decide +kernel
theorem dX2_add_9 : decode cX2_add 9 = .ok (.iconst (-1), 1) := by decide +kernel
theorem dX2_add_10 : decode cX2_add 10 = .ok (.ireturn, 1) := by decide +kernel
theorem dX2_add_11 : decode cX2_add 11 = .ok (.aload_n 0, 1) := by decide +kernel
theorem dX2_add_12 : decode cX2_add 12 = .ok (.dup, 1) := by decide +kernel
theorem dX2_add_13 : decode cX2_add 13 = .ok (.getfield 15, 3) := by decide +kernel
theorem dX2_add_16 : decode cX2_add 16 = .ok (.iconst 1, 1) := by decide +kernel
theorem dX2_add_17 : decode cX2_add 17 = .ok (.iadd, 1) := by decide +kernel
theorem dX2_add_18 : decode cX2_add 18 = .ok (.putfield 15, 3) := by decide +kernel
theorem dX2_add_21 : decode cX2_add 21 = .ok (.aload_n 0, 1) := by decide +kernel
theorem dX2_add_22 : decode cX2_add 22 = .ok (.getfield 15, 3) := by decide +kernel
theorem dX2_add_25 : decode cX2_add 25 = .ok (.iconst 1, 1) := by decide +kernel
theorem dX2_add_26 : decode cX2_add 26 = .ok (.isub, 1) := by decide +kernel
theorem dX2_add_27 : decode cX2_add 27 = .ok (.ireturn, 1) := by decide +kernel
theorem dX2_has_0 : decode cX2_has 0 = .ok (.iload_n 1, 1) := by decide +kernel
theorem dX2_has_1 : decode cX2_has 1 = .ok (.ifCond .lt 15, 3) := by decide +kernel
theorem dX2_has_4 : decode cX2_has 4 = .ok (.iload_n 1, 1) := by decide +kernel
theorem dX2_has_5 : decode cX2_has 5 = .ok (.aload_n 0, 1) := by decide +kernel
theorem dX2_has_6 : decode cX2_has 6 = .ok (.getfield 15, 3) := by decide +kernel
theorem dX2_has_9 : decode cX2_has 9 = .ok (.if_icmp .ge 7, 3) := by decide +kernel
theorem dX2_has_12 : decode cX2_has 12 = .ok (.iconst 1, 1) := by decide +kernel
theorem dX2_has_13 : decode cX2_has 13 = .ok (.goto 4, 3) := by decide +kernel
theorem dX2_has_16 : decode cX2_has 16 = .ok (.iconst 0, 1) := by decide +kernel
theorem dX2_has_17 : decode cX2_has 17 = .ok (.ireturn, 1) := by decide +kernel
theorem dX2_tell_0 : decode cX2_tell 0 = .ok (.iload_n 1, 1) := by decide +kernel
theorem dX2_tell_1 : decode cX2_tell 1 = .ok (.bipush 40, 2) := by decide +kernel
theorem dX2_tell_3 : decode cX2_tell 3 = .ok (.imul, 1) := by decide +kernel
theorem dX2_tell_4 : decode cX2_tell 4 = .ok (.iload_n 2, 1) := by decide +kernel
theorem dX2_tell_5 : decode cX2_tell 5 = .ok (.iadd, 1) := by decide +kernel
theorem dX2_tell_6 : decode cX2_tell 6 = .ok (.istore 4, 2) := by decide +kernel
theorem dX2_tell_8 : decode cX2_tell 8 = .ok (.iload 4, 2) := by decide +kernel
theorem dX2_tell_10 : decode cX2_tell 10 = .ok (.ifCond .lt 31, 3) := by decide +kernel
theorem dX2_tell_13 : decode cX2_tell 13 = .ok (.iload 4, 2) := by decide +kernel
theorem dX2_tell_15 : decode cX2_tell 15 = .ok (.aload_n 0, 1) := by decide +kernel
theorem dX2_tell_16 : decode cX2_tell 16 = .ok (.getfield 11, 3) := by decide +kernel
theorem dX2_tell_19 : decode cX2_tell 19 = .ok (.arraylength, 1) := by decide +kernel
theorem dX2_tell_20 : decode cX2_tell 20 = .ok (.if_icmp .ge 21, 3) := by decide +kernel
theorem dX2_tell_23 : decode cX2_tell 23 = .ok (.aload_n 0, 1) := by decide +kernel
theorem dX2_tell_24 : decode cX2_tell 24 = .ok (.getfield 11, 3) := by decide +kernel
theorem dX2_tell_27 : decode cX2_tell 27 = .ok (.iload 4, 2) := by decide +kernel
theorem dX2_tell_29 : decode cX2_tell 29 = .ok (.aload_n 0, 1) := by decide +kernel
theorem dX2_tell_30 : decode cX2_tell 30 = .ok (.getfield 11, 3) := by decide +kernel
theorem dX2_tell_33 : decode cX2_tell 33 = .ok (.iload 4, 2) := by decide +kernel
theorem dX2_tell_35 : decode cX2_tell 35 = .ok (.iaload, 1) := by decide +kernel
theorem dX2_tell_36 : decode cX2_tell 36 = .ok (.iload_n 3, 1) := by decide +kernel
theorem dX2_tell_37 : decode cX2_tell 37 = .ok (.invokestatic 19, 3) := by decide +kernel
theorem dX2_tell_40 : decode cX2_tell 40 = .ok (.iastore, 1) := by decide +kernel
theorem dX2_tell_41 : decode cX2_tell 41 = .ok (.return_, 1) := by decide +kernel
theorem dX2_knowsBy_0 : decode cX2_knowsBy 0 = .ok (.iload_n 1, 1) := by decide +kernel
theorem dX2_knowsBy_1 : decode cX2_knowsBy 1 = .ok (.bipush 40, 2) := by decide +kernel
theorem dX2_knowsBy_3 : decode cX2_knowsBy 3 = .ok (.imul, 1) := by decide +kernel
theorem dX2_knowsBy_4 : decode cX2_knowsBy 4 = .ok (.iload_n 2, 1) := by decide +kernel
theorem dX2_knowsBy_5 : decode cX2_knowsBy 5 = .ok (.iadd, 1) := by decide +kernel
theorem dX2_knowsBy_6 : decode cX2_knowsBy 6 = .ok (.istore 4, 2) := by decide +kernel
theorem dX2_knowsBy_8 : decode cX2_knowsBy 8 = .ok (.iload 4, 2) := by decide +kernel
theorem dX2_knowsBy_10 : decode cX2_knowsBy 10 = .ok (.ifCond .lt 28, 3) := by decide +kernel
theorem dX2_knowsBy_13 : decode cX2_knowsBy 13 = .ok (.iload 4, 2) := by decide +kernel
theorem dX2_knowsBy_15 : decode cX2_knowsBy 15 = .ok (.aload_n 0, 1) := by decide +kernel
theorem dX2_knowsBy_16 : decode cX2_knowsBy 16 = .ok (.getfield 11, 3) := by decide +kernel
theorem dX2_knowsBy_19 : decode cX2_knowsBy 19 = .ok (.arraylength, 1) := by decide +kernel
theorem dX2_knowsBy_20 : decode cX2_knowsBy 20 = .ok (.if_icmp .ge 18, 3) := by decide +kernel
theorem dX2_knowsBy_23 : decode cX2_knowsBy 23 = .ok (.aload_n 0, 1) := by decide +kernel
theorem dX2_knowsBy_24 : decode cX2_knowsBy 24 = .ok (.getfield 11, 3) := by decide +kernel
theorem dX2_knowsBy_27 : decode cX2_knowsBy 27 = .ok (.iload 4, 2) := by decide +kernel
theorem dX2_knowsBy_29 : decode cX2_knowsBy 29 = .ok (.iaload, 1) := by decide +kernel
theorem dX2_knowsBy_30 : decode cX2_knowsBy 30 = .ok (.iload_n 3, 1) := by decide +kernel
theorem dX2_knowsBy_31 : decode cX2_knowsBy 31 = .ok (.if_icmp .gt 7, 3) := by decide +kernel
theorem dX2_knowsBy_34 : decode cX2_knowsBy 34 = .ok (.iconst 1, 1) := by decide +kernel
theorem dX2_knowsBy_35 : decode cX2_knowsBy 35 = .ok (.goto 4, 3) := by decide +kernel
theorem dX2_knowsBy_38 : decode cX2_knowsBy 38 = .ok (.iconst 0, 1) := by decide +kernel
theorem dX2_knowsBy_39 : decode cX2_knowsBy 39 = .ok (.ireturn, 1) := by decide +kernel
theorem dX3_isFull_0 : decode cX3_isFull 0 = .ok (.aload_n 0, 1) := by decide +kernel
theorem dX3_isFull_1 : decode cX3_isFull 1 = .ok (.getfield 25, 3) := by decide +kernel
theorem dX3_isFull_4 : decode cX3_isFull 4 = .ok (.bipush 50, 2) := by decide +kernel
theorem dX3_isFull_6 : decode cX3_isFull 6 = .ok (.if_icmp .lt 7, 3) := by decide +kernel
theorem dX3_isFull_9 : decode cX3_isFull 9 = .ok (.iconst 1, 1) := by decide +kernel
theorem dX3_isFull_10 : decode cX3_isFull 10 = .ok (.goto 4, 3) := by decide +kernel
theorem dX3_isFull_13 : decode cX3_isFull 13 = .ok (.iconst 0, 1) := by decide +kernel
theorem dX3_isFull_14 : decode cX3_isFull 14 = .ok (.ireturn, 1) := by decide +kernel
theorem dX3_nameAuthor_0 : decode cX3_nameAuthor 0 = .ok (.iload_n 1, 1) := by decide +kernel
theorem dX3_nameAuthor_1 : decode cX3_nameAuthor 1 = .ok (.ifCond .lt 19, 3) := by decide +kernel
theorem dX3_nameAuthor_4 : decode cX3_nameAuthor 4 = .ok (.iload_n 1, 1) := by decide +kernel
theorem dX3_nameAuthor_5 : decode cX3_nameAuthor 5 = .ok (.aload_n 0, 1) := by decide +kernel
theorem dX3_nameAuthor_6 : decode cX3_nameAuthor 6 = .ok (.getfield 9, 3) := by decide +kernel
theorem dX3_nameAuthor_9 : decode cX3_nameAuthor 9 = .ok (.arraylength, 1) := by decide +kernel
theorem dX3_nameAuthor_10 : decode cX3_nameAuthor 10 = .ok (.if_icmp .ge 10, 3) := by decide +kernel
theorem dX3_nameAuthor_13 : decode cX3_nameAuthor 13 = .ok (.aload_n 0, 1) := by decide +kernel
theorem dX3_nameAuthor_14 : decode cX3_nameAuthor 14 = .ok (.getfield 9, 3) := by decide +kernel
theorem dX3_nameAuthor_17 : decode cX3_nameAuthor 17 = .ok (.iload_n 1, 1) := by decide +kernel
theorem dX3_nameAuthor_18 : decode cX3_nameAuthor 18 = .ok (.lload_n 2, 1) := by decide +kernel
theorem dX3_nameAuthor_19 : decode cX3_nameAuthor 19 = .ok (.lastore, 1) := by decide +kernel
theorem dX3_nameAuthor_20 : decode cX3_nameAuthor 20 = .ok (.return_, 1) := by decide +kernel
theorem dX9_at_0 : decode cX9_at 0 = .ok (.iload_n 1, 1) := by decide +kernel
theorem dX9_at_1 : decode cX9_at 1 = .ok (.ifCond .lt 29, 3) := by decide +kernel
theorem dX9_at_4 : decode cX9_at 4 = .ok (.iload_n 1, 1) := by decide +kernel
theorem dX9_at_5 : decode cX9_at 5 = .ok (.aload_n 0, 1) := by decide +kernel
theorem dX9_at_6 : decode cX9_at 6 = .ok (.getfield 15, 3) := by decide +kernel
theorem dX9_at_9 : decode cX9_at 9 = .ok (.if_icmp .ge 21, 3) := by decide +kernel
theorem dX9_at_12 : decode cX9_at 12 = .ok (.iload_n 1, 1) := by decide +kernel
theorem dX9_at_13 : decode cX9_at 13 = .ok (.aload_n 0, 1) := by decide +kernel
theorem dX9_at_14 : decode cX9_at 14 = .ok (.getfield 11, 3) := by decide +kernel
theorem dX9_at_17 : decode cX9_at 17 = .ok (.arraylength, 1) := by decide +kernel
theorem dX9_at_18 : decode cX9_at 18 = .ok (.if_icmp .ge 12, 3) := by decide +kernel
theorem dX9_at_21 : decode cX9_at 21 = .ok (.aload_n 0, 1) := by decide +kernel
theorem dX9_at_22 : decode cX9_at 22 = .ok (.getfield 11, 3) := by decide +kernel
theorem dX9_at_25 : decode cX9_at 25 = .ok (.iload_n 1, 1) := by decide +kernel
theorem dX9_at_26 : decode cX9_at 26 = .ok (.iaload, 1) := by decide +kernel
theorem dX9_at_27 : decode cX9_at 27 = .ok (.goto 4, 3) := by decide +kernel
theorem dX9_at_30 : decode cX9_at 30 = .ok (.iconst (-1), 1) := by decide +kernel
theorem dX9_at_31 : decode cX9_at 31 = .ok (.ireturn, 1) := by decide +kernel
theorem dX10_isLetter_0 : decode cX10_isLetter 0 = .ok (.iload_n 0, 1) := by decide +kernel
theorem dX10_isLetter_1 : decode cX10_isLetter 1 = .ok (.bipush 97, 2) := by decide +kernel
theorem dX10_isLetter_3 : decode cX10_isLetter 3 = .ok (.if_icmp .lt 13, 3) := by decide +kernel
theorem dX10_isLetter_6 : decode cX10_isLetter 6 = .ok (.iload_n 0, 1) := by decide +kernel
theorem dX10_isLetter_7 : decode cX10_isLetter 7 = .ok (.bipush 122, 2) := by decide +kernel
theorem dX10_isLetter_9 : decode cX10_isLetter 9 = .ok (.if_icmp .gt 7, 3) := by decide +kernel
theorem dX10_isLetter_12 : decode cX10_isLetter 12 = .ok (.iconst 1, 1) := by decide +kernel
theorem dX10_isLetter_13 : decode cX10_isLetter 13 = .ok (.goto 4, 3) := by decide +kernel
theorem dX10_isLetter_16 : decode cX10_isLetter 16 = .ok (.iconst 0, 1) := by decide +kernel
theorem dX10_isLetter_17 : decode cX10_isLetter 17 = .ok (.ireturn, 1) := by decide +kernel
theorem dX10_join_0 : decode cX10_join 0 = .ok (.lload_n 0, 1) := by decide +kernel
theorem dX10_join_1 : decode cX10_join 1 = .ok (.ldc2_w 39, 3) := by decide +kernel
theorem dX10_join_4 : decode cX10_join 4 = .ok (.lmul, 1) := by decide +kernel
theorem dX10_join_5 : decode cX10_join 5 = .ok (.iload_n 2, 1) := by decide +kernel
theorem dX10_join_6 : decode cX10_join 6 = .ok (.bipush 97, 2) := by decide +kernel
theorem dX10_join_8 : decode cX10_join 8 = .ok (.isub, 1) := by decide +kernel
theorem dX10_join_9 : decode cX10_join 9 = .ok (.iconst 1, 1) := by decide +kernel
theorem dX10_join_10 : decode cX10_join 10 = .ok (.iadd, 1) := by decide +kernel
theorem dX10_join_11 : decode cX10_join 11 = .ok (.i2l, 1) := by decide +kernel
theorem dX10_join_12 : decode cX10_join 12 = .ok (.ladd, 1) := by decide +kernel
theorem dX10_join_13 : decode cX10_join 13 = .ok (.lreturn, 1) := by decide +kernel
theorem dX3_isName_0 : decode cX3_isName 0 = .ok (.iconst 0, 1) := by decide +kernel
theorem dX3_isName_1 : decode cX3_isName 1 = .ok (.istore_n 3, 1) := by decide +kernel
theorem dX3_isName_2 : decode cX3_isName 2 = .ok (.iload_n 3, 1) := by decide +kernel
theorem dX3_isName_3 : decode cX3_isName 3 = .ok (.aload_n 0, 1) := by decide +kernel
theorem dX3_isName_4 : decode cX3_isName 4 = .ok (.getfield 9, 3) := by decide +kernel
theorem dX3_isName_7 : decode cX3_isName 7 = .ok (.arraylength, 1) := by decide +kernel
theorem dX3_isName_8 : decode cX3_isName 8 = .ok (.if_icmp .ge 22, 3) := by decide +kernel
theorem dX3_isName_11 : decode cX3_isName 11 = .ok (.aload_n 0, 1) := by decide +kernel
theorem dX3_isName_12 : decode cX3_isName 12 = .ok (.getfield 9, 3) := by decide +kernel
theorem dX3_isName_15 : decode cX3_isName 15 = .ok (.iload_n 3, 1) := by decide +kernel
theorem dX3_isName_16 : decode cX3_isName 16 = .ok (.laload, 1) := by decide +kernel
theorem dX3_isName_17 : decode cX3_isName 17 = .ok (.lload_n 1, 1) := by decide +kernel
theorem dX3_isName_18 : decode cX3_isName 18 = .ok (.lcmp, 1) := by decide +kernel
theorem dX3_isName_19 : decode cX3_isName 19 = .ok (.ifCond .ne 5, 3) := by decide +kernel
theorem dX3_isName_22 : decode cX3_isName 22 = .ok (.iconst 1, 1) := by decide +kernel
theorem dX3_isName_23 : decode cX3_isName 23 = .ok (.ireturn, 1) := by decide +kernel
theorem dX3_isName_24 : decode cX3_isName 24 = .ok (.iinc 3 1, 3) := by decide +kernel
theorem dX3_isName_27 : decode cX3_isName 27 = .ok (.goto (-25), 3) := by decide +kernel
theorem dX3_isName_30 : decode cX3_isName 30 = .ok (.iconst 0, 1) := by decide +kernel
theorem dX3_isName_31 : decode cX3_isName 31 = .ok (.ireturn, 1) := by decide +kernel
theorem dX3_keep_0 : decode cX3_keep 0 = .ok (.aload_n 0, 1) := by decide +kernel
theorem dX3_keep_1 : decode cX3_keep 1 = .ok (.getfield 25, 3) := by decide +kernel
theorem dX3_keep_4 : decode cX3_keep 4 = .ok (.ifCond .lt 39, 3) := by decide +kernel
theorem dX3_keep_7 : decode cX3_keep 7 = .ok (.aload_n 0, 1) := by decide +kernel
theorem dX3_keep_8 : decode cX3_keep 8 = .ok (.getfield 25, 3) := by decide +kernel
theorem dX3_keep_11 : decode cX3_keep 11 = .ok (.aload_n 0, 1) := by decide +kernel
theorem dX3_keep_12 : decode cX3_keep 12 = .ok (.getfield 15, 3) := by decide +kernel
theorem dX3_keep_15 : decode cX3_keep 15 = .ok (.arraylength, 1) := by decide +kernel
theorem dX3_keep_16 : decode cX3_keep 16 = .ok (.if_icmp .ge 27, 3) := by decide +kernel
theorem dX3_keep_19 : decode cX3_keep 19 = .ok (.aload_n 0, 1) := by decide +kernel
theorem dX3_keep_20 : decode cX3_keep 20 = .ok (.getfield 25, 3) := by decide +kernel
theorem dX3_keep_23 : decode cX3_keep 23 = .ok (.aload_n 0, 1) := by decide +kernel
theorem dX3_keep_24 : decode cX3_keep 24 = .ok (.getfield 19, 3) := by decide +kernel
theorem dX3_keep_27 : decode cX3_keep 27 = .ok (.arraylength, 1) := by decide +kernel
theorem dX3_keep_28 : decode cX3_keep 28 = .ok (.if_icmp .ge 15, 3) := by decide +kernel
theorem dX3_keep_31 : decode cX3_keep 31 = .ok (.aload_n 0, 1) := by decide +kernel
theorem dX3_keep_32 : decode cX3_keep 32 = .ok (.getfield 25, 3) := by decide +kernel
theorem dX3_keep_35 : decode cX3_keep 35 = .ok (.aload_n 0, 1) := by decide +kernel
theorem dX3_keep_36 : decode cX3_keep 36 = .ok (.getfield 22, 3) := by decide +kernel
theorem dX3_keep_39 : decode cX3_keep 39 = .ok (.arraylength, 1) := by decide +kernel
theorem dX3_keep_40 : decode cX3_keep 40 = .ok (.if_icmp .lt 6, 3) := by decide +kernel
theorem dX3_keep_43 : decode cX3_keep 43 = .ok (.bipush (-2), 2) := by decide +kernel
theorem dX3_keep_45 : decode cX3_keep 45 = .ok (.ireturn, 1) := by decide +kernel
theorem dX3_keep_46 : decode cX3_keep 46 = .ok (.aload_n 0, 1) := by decide +kernel
theorem dX3_keep_47 : decode cX3_keep 47 = .ok (.getfield 15, 3) := by decide +kernel
theorem dX3_keep_50 : decode cX3_keep 50 = .ok (.aload_n 0, 1) := by decide +kernel
theorem dX3_keep_51 : decode cX3_keep 51 = .ok (.getfield 25, 3) := by decide +kernel
theorem dX3_keep_54 : decode cX3_keep 54 = .ok (.iload_n 1, 1) := by decide +kernel
theorem dX3_keep_55 : decode cX3_keep 55 = .ok (.iastore, 1) := by decide +kernel
theorem dX3_keep_56 : decode cX3_keep 56 = .ok (.aload_n 0, 1) := by decide +kernel
theorem dX3_keep_57 : decode cX3_keep 57 = .ok (.getfield 19, 3) := by decide +kernel
theorem dX3_keep_60 : decode cX3_keep 60 = .ok (.aload_n 0, 1) := by decide +kernel
theorem dX3_keep_61 : decode cX3_keep 61 = .ok (.getfield 25, 3) := by decide +kernel
theorem dX3_keep_64 : decode cX3_keep 64 = .ok (.iload_n 2, 1) := by decide +kernel
theorem dX3_keep_65 : decode cX3_keep 65 = .ok (.iastore, 1) := by decide +kernel
theorem dX3_keep_66 : decode cX3_keep 66 = .ok (.aload_n 0, 1) := by decide +kernel
theorem dX3_keep_67 : decode cX3_keep 67 = .ok (.getfield 22, 3) := by decide +kernel
theorem dX3_keep_70 : decode cX3_keep 70 = .ok (.aload_n 0, 1) := by decide +kernel
theorem dX3_keep_71 : decode cX3_keep 71 = .ok (.getfield 25, 3) := by decide +kernel
theorem dX3_keep_74 : decode cX3_keep 74 = .ok (.iload_n 3, 1) := by decide +kernel
theorem dX3_keep_75 : decode cX3_keep 75 = .ok (.iastore, 1) := by decide +kernel
theorem dX3_keep_76 : decode cX3_keep 76 = .ok (.aload_n 0, 1) := by decide +kernel
theorem dX3_keep_77 : decode cX3_keep 77 = .ok (.dup, 1) := by decide +kernel
theorem dX3_keep_78 : decode cX3_keep 78 = .ok (.getfield 25, 3) := by decide +kernel
theorem dX3_keep_81 : decode cX3_keep 81 = .ok (.iconst 1, 1) := by decide +kernel
theorem dX3_keep_82 : decode cX3_keep 82 = .ok (.iadd, 1) := by decide +kernel
theorem dX3_keep_83 : decode cX3_keep 83 = .ok (.putfield 25, 3) := by decide +kernel
theorem dX3_keep_86 : decode cX3_keep 86 = .ok (.aload_n 0, 1) := by decide +kernel
theorem dX3_keep_87 : decode cX3_keep 87 = .ok (.getfield 25, 3) := by decide +kernel
theorem dX3_keep_90 : decode cX3_keep 90 = .ok (.iconst 1, 1) := by decide +kernel
theorem dX3_keep_91 : decode cX3_keep 91 = .ok (.isub, 1) := by decide +kernel
theorem dX3_keep_92 : decode cX3_keep 92 = .ok (.ireturn, 1) := by decide +kernel
theorem dX3_put_0 : decode cX3_put 0 = .ok (.iconst 0, 1) := by decide +kernel
theorem dX3_put_1 : decode cX3_put 1 = .ok (.istore 5, 2) := by decide +kernel
theorem dX3_put_3 : decode cX3_put 3 = .ok (.iconst 0, 1) := by decide +kernel
theorem dX3_put_4 : decode cX3_put 4 = .ok (.istore 6, 2) := by decide +kernel
theorem dX3_put_6 : decode cX3_put 6 = .ok (.lconst 0, 1) := by decide +kernel
theorem dX3_put_7 : decode cX3_put 7 = .ok (.lstore 7, 2) := by decide +kernel
theorem dX3_put_9 : decode cX3_put 9 = .ok (.iconst 0, 1) := by decide +kernel
theorem dX3_put_10 : decode cX3_put 10 = .ok (.istore 9, 2) := by decide +kernel
theorem dX3_put_12 : decode cX3_put 12 = .ok (.iconst 0, 1) := by decide +kernel
theorem dX3_put_13 : decode cX3_put 13 = .ok (.istore 10, 2) := by decide +kernel
theorem dX3_put_15 : decode cX3_put 15 = .ok (.iload 10, 2) := by decide +kernel
theorem dX3_put_17 : decode cX3_put 17 = .ok (.iload_n 2, 1) := by decide +kernel
theorem dX3_put_18 : decode cX3_put 18 = .ok (.if_icmp .gt 101, 3) := by decide +kernel
theorem dX3_put_21 : decode cX3_put 21 = .ok (.iload 10, 2) := by decide +kernel
theorem dX3_put_23 : decode cX3_put 23 = .ok (.iload_n 2, 1) := by decide +kernel
theorem dX3_put_24 : decode cX3_put 24 = .ok (.if_icmp .ge 12, 3) := by decide +kernel
theorem dX3_put_27 : decode cX3_put 27 = .ok (.aload_n 1, 1) := by decide +kernel
theorem dX3_put_28 : decode cX3_put 28 = .ok (.iload 10, 2) := by decide +kernel
theorem dX3_put_30 : decode cX3_put 30 = .ok (.invokevirtual 32, 3) := by decide +kernel
theorem dX3_put_33 : decode cX3_put 33 = .ok (.goto 4, 3) := by decide +kernel
theorem dX3_put_36 : decode cX3_put 36 = .ok (.iconst (-1), 1) := by decide +kernel
theorem dX3_put_37 : decode cX3_put 37 = .ok (.istore 11, 2) := by decide +kernel
theorem dX3_put_39 : decode cX3_put 39 = .ok (.iload 11, 2) := by decide +kernel
theorem dX3_put_41 : decode cX3_put 41 = .ok (.invokestatic 38, 3) := by decide +kernel
theorem dX3_put_44 : decode cX3_put 44 = .ok (.ifCond .eq 29, 3) := by decide +kernel
theorem dX3_put_47 : decode cX3_put 47 = .ok (.iload 6, 2) := by decide +kernel
theorem dX3_put_49 : decode cX3_put 49 = .ok (.bipush 8, 2) := by decide +kernel
theorem dX3_put_51 : decode cX3_put 51 = .ok (.if_icmp .ge 13, 3) := by decide +kernel
theorem dX3_put_54 : decode cX3_put 54 = .ok (.lload 7, 2) := by decide +kernel
theorem dX3_put_56 : decode cX3_put 56 = .ok (.iload 11, 2) := by decide +kernel
theorem dX3_put_58 : decode cX3_put 58 = .ok (.invokestatic 44, 3) := by decide +kernel
theorem dX3_put_61 : decode cX3_put 61 = .ok (.goto 4, 3) := by decide +kernel
theorem dX3_put_64 : decode cX3_put 64 = .ok (.lconst 0, 1) := by decide +kernel
theorem dX3_put_65 : decode cX3_put 65 = .ok (.lstore 7, 2) := by decide +kernel
theorem dX3_put_67 : decode cX3_put 67 = .ok (.iinc 6 1, 3) := by decide +kernel
theorem dX3_put_70 : decode cX3_put 70 = .ok (.goto 43, 3) := by decide +kernel
theorem dX3_put_73 : decode cX3_put 73 = .ok (.iload 6, 2) := by decide +kernel
theorem dX3_put_75 : decode cX3_put 75 = .ok (.ifCond .le 38, 3) := by decide +kernel
theorem dX3_put_78 : decode cX3_put 78 = .ok (.iload 9, 2) := by decide +kernel
theorem dX3_put_80 : decode cX3_put 80 = .ok (.iload 6, 2) := by decide +kernel
theorem dX3_put_82 : decode cX3_put 82 = .ok (.bipush 8, 2) := by decide +kernel
theorem dX3_put_84 : decode cX3_put 84 = .ok (.if_icmp .gt 16, 3) := by decide +kernel
theorem dX3_put_87 : decode cX3_put 87 = .ok (.aload_n 0, 1) := by decide +kernel
theorem dX3_put_88 : decode cX3_put 88 = .ok (.lload 7, 2) := by decide +kernel
theorem dX3_put_90 : decode cX3_put 90 = .ok (.invokevirtual 48, 3) := by decide +kernel
theorem dX3_put_93 : decode cX3_put 93 = .ok (.ifCond .eq 7, 3) := by decide +kernel
theorem dX3_put_96 : decode cX3_put 96 = .ok (.iconst 1, 1) := by decide +kernel
theorem dX3_put_97 : decode cX3_put 97 = .ok (.goto 4, 3) := by decide +kernel
theorem dX3_put_100 : decode cX3_put 100 = .ok (.iconst 0, 1) := by decide +kernel
theorem dX3_put_101 : decode cX3_put 101 = .ok (.ior, 1) := by decide +kernel
theorem dX3_put_102 : decode cX3_put 102 = .ok (.istore 9, 2) := by decide +kernel
theorem dX3_put_104 : decode cX3_put 104 = .ok (.iinc 5 1, 3) := by decide +kernel
theorem dX3_put_107 : decode cX3_put 107 = .ok (.iconst 0, 1) := by decide +kernel
theorem dX3_put_108 : decode cX3_put 108 = .ok (.istore 6, 2) := by decide +kernel
theorem dX3_put_110 : decode cX3_put 110 = .ok (.lconst 0, 1) := by decide +kernel
theorem dX3_put_111 : decode cX3_put 111 = .ok (.lstore 7, 2) := by decide +kernel
theorem dX3_put_113 : decode cX3_put 113 = .ok (.iinc 10 1, 3) := by decide +kernel
theorem dX3_put_116 : decode cX3_put 116 = .ok (.goto (-101), 3) := by decide +kernel
theorem dX3_put_119 : decode cX3_put 119 = .ok (.iload 9, 2) := by decide +kernel
theorem dX3_put_121 : decode cX3_put 121 = .ok (.ifCond .eq 15, 3) := by decide +kernel
theorem dX3_put_124 : decode cX3_put 124 = .ok (.aload_n 0, 1) := by decide +kernel
theorem dX3_put_125 : decode cX3_put 125 = .ok (.dup, 1) := by decide +kernel
theorem dX3_put_126 : decode cX3_put 126 = .ok (.getfield 29, 3) := by decide +kernel
theorem dX3_put_129 : decode cX3_put 129 = .ok (.iconst 1, 1) := by decide +kernel
theorem dX3_put_130 : decode cX3_put 130 = .ok (.iadd, 1) := by decide +kernel
theorem dX3_put_131 : decode cX3_put 131 = .ok (.putfield 29, 3) := by decide +kernel
theorem dX3_put_134 : decode cX3_put 134 = .ok (.iconst (-1), 1) := by decide +kernel
theorem dX3_put_135 : decode cX3_put 135 = .ok (.ireturn, 1) := by decide +kernel
theorem dX3_put_136 : decode cX3_put 136 = .ok (.aload_n 0, 1) := by decide +kernel
theorem dX3_put_137 : decode cX3_put 137 = .ok (.iload 4, 2) := by decide +kernel
theorem dX3_put_139 : decode cX3_put 139 = .ok (.iload_n 3, 1) := by decide +kernel
theorem dX3_put_140 : decode cX3_put 140 = .ok (.iload 5, 2) := by decide +kernel
theorem dX3_put_142 : decode cX3_put 142 = .ok (.invokevirtual 52, 3) := by decide +kernel
theorem dX3_put_145 : decode cX3_put 145 = .ok (.ireturn, 1) := by decide +kernel
theorem dX3_part_0 : decode cX3_part 0 = .ok (.iload_n 1, 1) := by decide +kernel
theorem dX3_part_1 : decode cX3_part 1 = .ok (.ifCond .lt 38, 3) := by decide +kernel
theorem dX3_part_4 : decode cX3_part 4 = .ok (.iload_n 1, 1) := by decide +kernel
theorem dX3_part_5 : decode cX3_part 5 = .ok (.aload_n 0, 1) := by decide +kernel
theorem dX3_part_6 : decode cX3_part 6 = .ok (.getfield 25, 3) := by decide +kernel
theorem dX3_part_9 : decode cX3_part 9 = .ok (.if_icmp .ge 30, 3) := by decide +kernel
theorem dX3_part_12 : decode cX3_part 12 = .ok (.iload_n 1, 1) := by decide +kernel
theorem dX3_part_13 : decode cX3_part 13 = .ok (.aload_n 0, 1) := by decide +kernel
theorem dX3_part_14 : decode cX3_part 14 = .ok (.getfield 15, 3) := by decide +kernel
theorem dX3_part_17 : decode cX3_part 17 = .ok (.arraylength, 1) := by decide +kernel
theorem dX3_part_18 : decode cX3_part 18 = .ok (.if_icmp .ge 21, 3) := by decide +kernel
theorem dX3_part_21 : decode cX3_part 21 = .ok (.iload_n 1, 1) := by decide +kernel
theorem dX3_part_22 : decode cX3_part 22 = .ok (.aload_n 0, 1) := by decide +kernel
theorem dX3_part_23 : decode cX3_part 23 = .ok (.getfield 19, 3) := by decide +kernel
theorem dX3_part_26 : decode cX3_part 26 = .ok (.arraylength, 1) := by decide +kernel
theorem dX3_part_27 : decode cX3_part 27 = .ok (.if_icmp .ge 12, 3) := by decide +kernel
theorem dX3_part_30 : decode cX3_part 30 = .ok (.iload_n 1, 1) := by decide +kernel
theorem dX3_part_31 : decode cX3_part 31 = .ok (.aload_n 0, 1) := by decide +kernel
theorem dX3_part_32 : decode cX3_part 32 = .ok (.getfield 22, 3) := by decide +kernel
theorem dX3_part_35 : decode cX3_part 35 = .ok (.arraylength, 1) := by decide +kernel
theorem dX3_part_36 : decode cX3_part 36 = .ok (.if_icmp .lt 5, 3) := by decide +kernel
theorem dX3_part_39 : decode cX3_part 39 = .ok (.iconst (-1), 1) := by decide +kernel
theorem dX3_part_40 : decode cX3_part 40 = .ok (.ireturn, 1) := by decide +kernel
theorem dX3_part_41 : decode cX3_part 41 = .ok (.iload_n 2, 1) := by decide +kernel
theorem dX3_part_42 : decode cX3_part 42 = .ok (.tableswitch 47 0 2 #[26, 33, 40], 26) := by decide +kernel
theorem dX3_part_68 : decode cX3_part 68 = .ok (.aload_n 0, 1) := by decide +kernel
theorem dX3_part_69 : decode cX3_part 69 = .ok (.getfield 15, 3) := by decide +kernel
theorem dX3_part_72 : decode cX3_part 72 = .ok (.iload_n 1, 1) := by decide +kernel
theorem dX3_part_73 : decode cX3_part 73 = .ok (.iaload, 1) := by decide +kernel
theorem dX3_part_74 : decode cX3_part 74 = .ok (.ireturn, 1) := by decide +kernel
theorem dX3_part_75 : decode cX3_part 75 = .ok (.aload_n 0, 1) := by decide +kernel
theorem dX3_part_76 : decode cX3_part 76 = .ok (.getfield 19, 3) := by decide +kernel
theorem dX3_part_79 : decode cX3_part 79 = .ok (.iload_n 1, 1) := by decide +kernel
theorem dX3_part_80 : decode cX3_part 80 = .ok (.iaload, 1) := by decide +kernel
theorem dX3_part_81 : decode cX3_part 81 = .ok (.ireturn, 1) := by decide +kernel
theorem dX3_part_82 : decode cX3_part 82 = .ok (.aload_n 0, 1) := by decide +kernel
theorem dX3_part_83 : decode cX3_part 83 = .ok (.getfield 22, 3) := by decide +kernel
theorem dX3_part_86 : decode cX3_part 86 = .ok (.iload_n 1, 1) := by decide +kernel
theorem dX3_part_87 : decode cX3_part 87 = .ok (.iaload, 1) := by decide +kernel
theorem dX3_part_88 : decode cX3_part 88 = .ok (.ireturn, 1) := by decide +kernel
theorem dX3_part_89 : decode cX3_part 89 = .ok (.iconst (-1), 1) := by decide +kernel
theorem dX3_part_90 : decode cX3_part 90 = .ok (.ireturn, 1) := by decide +kernel
theorem dX4_place_0 : decode cX4_place 0 = .ok (.aload_n 0, 1) := by decide +kernel
theorem dX4_place_1 : decode cX4_place 1 = .ok (.getfield 44, 3) := by decide +kernel
theorem dX4_place_4 : decode cX4_place 4 = .ok (.ifCond .lt 27, 3) := by decide +kernel
theorem dX4_place_7 : decode cX4_place 7 = .ok (.aload_n 0, 1) := by decide +kernel
theorem dX4_place_8 : decode cX4_place 8 = .ok (.getfield 44, 3) := by decide +kernel
theorem dX4_place_11 : decode cX4_place 11 = .ok (.aload_n 0, 1) := by decide +kernel
theorem dX4_place_12 : decode cX4_place 12 = .ok (.getfield 24, 3) := by decide +kernel
theorem dX4_place_15 : decode cX4_place 15 = .ok (.arraylength, 1) := by decide +kernel
theorem dX4_place_16 : decode cX4_place 16 = .ok (.if_icmp .ge 15, 3) := by decide +kernel
theorem dX4_place_19 : decode cX4_place 19 = .ok (.aload_n 0, 1) := by decide +kernel
theorem dX4_place_20 : decode cX4_place 20 = .ok (.getfield 24, 3) := by decide +kernel
theorem dX4_place_23 : decode cX4_place 23 = .ok (.aload_n 0, 1) := by decide +kernel
theorem dX4_place_24 : decode cX4_place 24 = .ok (.getfield 44, 3) := by decide +kernel
theorem dX4_place_27 : decode cX4_place 27 = .ok (.iaload, 1) := by decide +kernel
theorem dX4_place_28 : decode cX4_place 28 = .ok (.goto 4, 3) := by decide +kernel
theorem dX4_place_31 : decode cX4_place 31 = .ok (.iconst (-1), 1) := by decide +kernel
theorem dX4_place_32 : decode cX4_place 32 = .ok (.ireturn, 1) := by decide +kernel
theorem dX4_isBlank_0 : decode cX4_isBlank 0 = .ok (.iload_n 0, 1) := by decide +kernel
theorem dX4_isBlank_1 : decode cX4_isBlank 1 = .ok (.bipush 32, 2) := by decide +kernel
theorem dX4_isBlank_3 : decode cX4_isBlank 3 = .ok (.if_icmp .eq 9, 3) := by decide +kernel
theorem dX4_isBlank_6 : decode cX4_isBlank 6 = .ok (.iload_n 0, 1) := by decide +kernel
theorem dX4_isBlank_7 : decode cX4_isBlank 7 = .ok (.bipush 10, 2) := by decide +kernel
theorem dX4_isBlank_9 : decode cX4_isBlank 9 = .ok (.if_icmp .ne 7, 3) := by decide +kernel
theorem dX4_isBlank_12 : decode cX4_isBlank 12 = .ok (.iconst 1, 1) := by decide +kernel
theorem dX4_isBlank_13 : decode cX4_isBlank 13 = .ok (.goto 4, 3) := by decide +kernel
theorem dX4_isBlank_16 : decode cX4_isBlank 16 = .ok (.iconst 0, 1) := by decide +kernel
theorem dX4_isBlank_17 : decode cX4_isBlank 17 = .ok (.ireturn, 1) := by decide +kernel
theorem dX4_isDigit_0 : decode cX4_isDigit 0 = .ok (.iload_n 0, 1) := by decide +kernel
theorem dX4_isDigit_1 : decode cX4_isDigit 1 = .ok (.bipush 48, 2) := by decide +kernel
theorem dX4_isDigit_3 : decode cX4_isDigit 3 = .ok (.if_icmp .lt 13, 3) := by decide +kernel
theorem dX4_isDigit_6 : decode cX4_isDigit 6 = .ok (.iload_n 0, 1) := by decide +kernel
theorem dX4_isDigit_7 : decode cX4_isDigit 7 = .ok (.bipush 57, 2) := by decide +kernel
theorem dX4_isDigit_9 : decode cX4_isDigit 9 = .ok (.if_icmp .gt 7, 3) := by decide +kernel
theorem dX4_isDigit_12 : decode cX4_isDigit 12 = .ok (.iconst 1, 1) := by decide +kernel
theorem dX4_isDigit_13 : decode cX4_isDigit 13 = .ok (.goto 4, 3) := by decide +kernel
theorem dX4_isDigit_16 : decode cX4_isDigit 16 = .ok (.iconst 0, 1) := by decide +kernel
theorem dX4_isDigit_17 : decode cX4_isDigit 17 = .ok (.ireturn, 1) := by decide +kernel
theorem dX4_isKnownSign_0 : decode cX4_isKnownSign 0 = .ok (.iload_n 0, 1) := by decide +kernel
theorem dX4_isKnownSign_1 : decode cX4_isKnownSign 1 = .ok (.bipush 59, 2) := by decide +kernel
theorem dX4_isKnownSign_3 : decode cX4_isKnownSign 3 = .ok (.if_icmp .eq 33, 3) := by decide +kernel
theorem dX4_isKnownSign_6 : decode cX4_isKnownSign 6 = .ok (.iload_n 0, 1) := by decide +kernel
theorem dX4_isKnownSign_7 : decode cX4_isKnownSign 7 = .ok (.bipush 40, 2) := by decide +kernel
theorem dX4_isKnownSign_9 : decode cX4_isKnownSign 9 = .ok (.if_icmp .eq 27, 3) := by decide +kernel
theorem dX4_isKnownSign_12 : decode cX4_isKnownSign 12 = .ok (.iload_n 0, 1) := by decide +kernel
theorem dX4_isKnownSign_13 : decode cX4_isKnownSign 13 = .ok (.bipush 41, 2) := by decide +kernel
theorem dX4_isKnownSign_15 : decode cX4_isKnownSign 15 = .ok (.if_icmp .eq 21, 3) := by decide +kernel
theorem dX4_isKnownSign_18 : decode cX4_isKnownSign 18 = .ok (.iload_n 0, 1) := by decide +kernel
theorem dX4_isKnownSign_19 : decode cX4_isKnownSign 19 = .ok (.bipush 60, 2) := by decide +kernel
theorem dX4_isKnownSign_21 : decode cX4_isKnownSign 21 = .ok (.if_icmp .eq 15, 3) := by decide +kernel
theorem dX4_isKnownSign_24 : decode cX4_isKnownSign 24 = .ok (.iload_n 0, 1) := by decide +kernel
theorem dX4_isKnownSign_25 : decode cX4_isKnownSign 25 = .ok (.bipush 62, 2) := by decide +kernel
theorem dX4_isKnownSign_27 : decode cX4_isKnownSign 27 = .ok (.if_icmp .eq 9, 3) := by decide +kernel
theorem dX4_isKnownSign_30 : decode cX4_isKnownSign 30 = .ok (.iload_n 0, 1) := by decide +kernel
theorem dX4_isKnownSign_31 : decode cX4_isKnownSign 31 = .ok (.bipush 61, 2) := by decide +kernel
theorem dX4_isKnownSign_33 : decode cX4_isKnownSign 33 = .ok (.if_icmp .ne 7, 3) := by decide +kernel
theorem dX4_isKnownSign_36 : decode cX4_isKnownSign 36 = .ok (.iconst 1, 1) := by decide +kernel
theorem dX4_isKnownSign_37 : decode cX4_isKnownSign 37 = .ok (.goto 4, 3) := by decide +kernel
theorem dX4_isKnownSign_40 : decode cX4_isKnownSign 40 = .ok (.iconst 0, 1) := by decide +kernel
theorem dX4_isKnownSign_41 : decode cX4_isKnownSign 41 = .ok (.ireturn, 1) := by decide +kernel
theorem dX4_put_0 : decode cX4_put 0 = .ok (.iload_n 1, 1) := by decide +kernel
theorem dX4_put_1 : decode cX4_put 1 = .ok (.ifCond .lt 52, 3) := by decide +kernel
theorem dX4_put_4 : decode cX4_put 4 = .ok (.iload_n 1, 1) := by decide +kernel
theorem dX4_put_5 : decode cX4_put 5 = .ok (.aload_n 0, 1) := by decide +kernel
theorem dX4_put_6 : decode cX4_put 6 = .ok (.getfield 20, 3) := by decide +kernel
theorem dX4_put_9 : decode cX4_put 9 = .ok (.arraylength, 1) := by decide +kernel
theorem dX4_put_10 : decode cX4_put 10 = .ok (.if_icmp .ge 43, 3) := by decide +kernel
theorem dX4_put_13 : decode cX4_put 13 = .ok (.iload_n 1, 1) := by decide +kernel
theorem dX4_put_14 : decode cX4_put 14 = .ok (.aload_n 0, 1) := by decide +kernel
theorem dX4_put_15 : decode cX4_put 15 = .ok (.getfield 24, 3) := by decide +kernel
theorem dX4_put_18 : decode cX4_put 18 = .ok (.arraylength, 1) := by decide +kernel
theorem dX4_put_19 : decode cX4_put 19 = .ok (.if_icmp .ge 34, 3) := by decide +kernel
theorem dX4_put_22 : decode cX4_put 22 = .ok (.iload_n 1, 1) := by decide +kernel
theorem dX4_put_23 : decode cX4_put 23 = .ok (.aload_n 0, 1) := by decide +kernel
theorem dX4_put_24 : decode cX4_put 24 = .ok (.getfield 27, 3) := by decide +kernel
theorem dX4_put_27 : decode cX4_put 27 = .ok (.arraylength, 1) := by decide +kernel
theorem dX4_put_28 : decode cX4_put 28 = .ok (.if_icmp .ge 25, 3) := by decide +kernel
theorem dX4_put_31 : decode cX4_put 31 = .ok (.aload_n 0, 1) := by decide +kernel
theorem dX4_put_32 : decode cX4_put 32 = .ok (.getfield 20, 3) := by decide +kernel
theorem dX4_put_35 : decode cX4_put 35 = .ok (.iload_n 1, 1) := by decide +kernel
theorem dX4_put_36 : decode cX4_put 36 = .ok (.iload_n 2, 1) := by decide +kernel
theorem dX4_put_37 : decode cX4_put 37 = .ok (.iastore, 1) := by decide +kernel
theorem dX4_put_38 : decode cX4_put 38 = .ok (.aload_n 0, 1) := by decide +kernel
theorem dX4_put_39 : decode cX4_put 39 = .ok (.getfield 24, 3) := by decide +kernel
theorem dX4_put_42 : decode cX4_put 42 = .ok (.iload_n 1, 1) := by decide +kernel
theorem dX4_put_43 : decode cX4_put 43 = .ok (.iload_n 3, 1) := by decide +kernel
theorem dX4_put_44 : decode cX4_put 44 = .ok (.iastore, 1) := by decide +kernel
theorem dX4_put_45 : decode cX4_put 45 = .ok (.aload_n 0, 1) := by decide +kernel
theorem dX4_put_46 : decode cX4_put 46 = .ok (.getfield 27, 3) := by decide +kernel
theorem dX4_put_49 : decode cX4_put 49 = .ok (.iload_n 1, 1) := by decide +kernel
theorem dX4_put_50 : decode cX4_put 50 = .ok (.lload 4, 2) := by decide +kernel
theorem dX4_put_52 : decode cX4_put 52 = .ok (.lastore, 1) := by decide +kernel
theorem dX4_put_53 : decode cX4_put 53 = .ok (.return_, 1) := by decide +kernel
theorem dX10_codeOf_0 : decode cX10_codeOf 0 = .ok (.iconst 0, 1) := by decide +kernel
theorem dX10_codeOf_1 : decode cX10_codeOf 1 = .ok (.istore_n 3, 1) := by decide +kernel
theorem dX10_codeOf_2 : decode cX10_codeOf 2 = .ok (.iload_n 3, 1) := by decide +kernel
theorem dX10_codeOf_3 : decode cX10_codeOf 3 = .ok (.aload_n 0, 1) := by decide +kernel
theorem dX10_codeOf_4 : decode cX10_codeOf 4 = .ok (.getfield 11, 3) := by decide +kernel
theorem dX10_codeOf_7 : decode cX10_codeOf 7 = .ok (.arraylength, 1) := by decide +kernel
theorem dX10_codeOf_8 : decode cX10_codeOf 8 = .ok (.if_icmp .ge 22, 3) := by decide +kernel
theorem dX10_codeOf_11 : decode cX10_codeOf 11 = .ok (.aload_n 0, 1) := by decide +kernel
theorem dX10_codeOf_12 : decode cX10_codeOf 12 = .ok (.getfield 11, 3) := by decide +kernel
theorem dX10_codeOf_15 : decode cX10_codeOf 15 = .ok (.iload_n 3, 1) := by decide +kernel
theorem dX10_codeOf_16 : decode cX10_codeOf 16 = .ok (.laload, 1) := by decide +kernel
theorem dX10_codeOf_17 : decode cX10_codeOf 17 = .ok (.lload_n 1, 1) := by decide +kernel
theorem dX10_codeOf_18 : decode cX10_codeOf 18 = .ok (.lcmp, 1) := by decide +kernel
theorem dX10_codeOf_19 : decode cX10_codeOf 19 = .ok (.ifCond .ne 5, 3) := by decide +kernel
theorem dX10_codeOf_22 : decode cX10_codeOf 22 = .ok (.iload_n 3, 1) := by decide +kernel
theorem dX10_codeOf_23 : decode cX10_codeOf 23 = .ok (.ireturn, 1) := by decide +kernel
theorem dX10_codeOf_24 : decode cX10_codeOf 24 = .ok (.iinc 3 1, 3) := by decide +kernel
theorem dX10_codeOf_27 : decode cX10_codeOf 27 = .ok (.goto (-25), 3) := by decide +kernel
theorem dX10_codeOf_30 : decode cX10_codeOf 30 = .ok (.iconst (-1), 1) := by decide +kernel
theorem dX10_codeOf_31 : decode cX10_codeOf 31 = .ok (.ireturn, 1) := by decide +kernel
theorem dX4_tokenAt_0 : decode cX4_tokenAt 0 = .ok (.aload_n 0, 1) := by decide +kernel
theorem dX4_tokenAt_1 : decode cX4_tokenAt 1 = .ok (.getfield 51, 3) := by decide +kernel
theorem dX4_tokenAt_4 : decode cX4_tokenAt 4 = .ok (.iload_n 1, 1) := by decide +kernel
theorem dX4_tokenAt_5 : decode cX4_tokenAt 5 = .ok (.invokevirtual 83, 3) := by decide +kernel
theorem dX4_tokenAt_8 : decode cX4_tokenAt 8 = .ok (.istore 4, 2) := by decide +kernel
theorem dX4_tokenAt_10 : decode cX4_tokenAt 10 = .ok (.iload 4, 2) := by decide +kernel
theorem dX4_tokenAt_12 : decode cX4_tokenAt 12 = .ok (.invokestatic 97, 3) := by decide +kernel
theorem dX4_tokenAt_15 : decode cX4_tokenAt 15 = .ok (.istore 5, 2) := by decide +kernel
theorem dX4_tokenAt_17 : decode cX4_tokenAt 17 = .ok (.iload 5, 2) := by decide +kernel
theorem dX4_tokenAt_19 : decode cX4_tokenAt 19 = .ok (.ifCond .ne 35, 3) := by decide +kernel
theorem dX4_tokenAt_22 : decode cX4_tokenAt 22 = .ok (.iload 4, 2) := by decide +kernel
theorem dX4_tokenAt_24 : decode cX4_tokenAt 24 = .ok (.invokestatic 100, 3) := by decide +kernel
theorem dX4_tokenAt_27 : decode cX4_tokenAt 27 = .ok (.ifCond .ne 27, 3) := by decide +kernel
theorem dX4_tokenAt_30 : decode cX4_tokenAt 30 = .ok (.aload_n 0, 1) := by decide +kernel
theorem dX4_tokenAt_31 : decode cX4_tokenAt 31 = .ok (.iload_n 3, 1) := by decide +kernel
theorem dX4_tokenAt_32 : decode cX4_tokenAt 32 = .ok (.iload 4, 2) := by decide +kernel
theorem dX4_tokenAt_34 : decode cX4_tokenAt 34 = .ok (.invokestatic 103, 3) := by decide +kernel
theorem dX4_tokenAt_37 : decode cX4_tokenAt 37 = .ok (.ifCond .eq 7, 3) := by decide +kernel
theorem dX4_tokenAt_40 : decode cX4_tokenAt 40 = .ok (.iconst 4, 1) := by decide +kernel
theorem dX4_tokenAt_41 : decode cX4_tokenAt 41 = .ok (.goto 4, 3) := by decide +kernel
theorem dX4_tokenAt_44 : decode cX4_tokenAt 44 = .ok (.iconst 5, 1) := by decide +kernel
theorem dX4_tokenAt_45 : decode cX4_tokenAt 45 = .ok (.iload_n 1, 1) := by decide +kernel
theorem dX4_tokenAt_46 : decode cX4_tokenAt 46 = .ok (.iload 4, 2) := by decide +kernel
theorem dX4_tokenAt_48 : decode cX4_tokenAt 48 = .ok (.i2l, 1) := by decide +kernel
theorem dX4_tokenAt_49 : decode cX4_tokenAt 49 = .ok (.invokevirtual 93, 3) := by decide +kernel
theorem dX4_tokenAt_52 : decode cX4_tokenAt 52 = .ok (.iconst 1, 1) := by decide +kernel
theorem dX4_tokenAt_53 : decode cX4_tokenAt 53 = .ok (.ireturn, 1) := by decide +kernel
theorem dX4_tokenAt_54 : decode cX4_tokenAt 54 = .ok (.iconst 0, 1) := by decide +kernel
theorem dX4_tokenAt_55 : decode cX4_tokenAt 55 = .ok (.istore 6, 2) := by decide +kernel
theorem dX4_tokenAt_57 : decode cX4_tokenAt 57 = .ok (.lconst 0, 1) := by decide +kernel
theorem dX4_tokenAt_58 : decode cX4_tokenAt 58 = .ok (.lstore 7, 2) := by decide +kernel
theorem dX4_tokenAt_60 : decode cX4_tokenAt 60 = .ok (.iload_n 1, 1) := by decide +kernel
theorem dX4_tokenAt_61 : decode cX4_tokenAt 61 = .ok (.istore 9, 2) := by decide +kernel
theorem dX4_tokenAt_63 : decode cX4_tokenAt 63 = .ok (.iload 9, 2) := by decide +kernel
theorem dX4_tokenAt_65 : decode cX4_tokenAt 65 = .ok (.iload_n 2, 1) := by decide +kernel
theorem dX4_tokenAt_66 : decode cX4_tokenAt 66 = .ok (.if_icmp .ge 111, 3) := by decide +kernel
theorem dX4_tokenAt_69 : decode cX4_tokenAt 69 = .ok (.iload 9, 2) := by decide +kernel
theorem dX4_tokenAt_71 : decode cX4_tokenAt 71 = .ok (.iload_n 1, 1) := by decide +kernel
theorem dX4_tokenAt_72 : decode cX4_tokenAt 72 = .ok (.isub, 1) := by decide +kernel
theorem dX4_tokenAt_73 : decode cX4_tokenAt 73 = .ok (.iload 6, 2) := by decide +kernel
theorem dX4_tokenAt_75 : decode cX4_tokenAt 75 = .ok (.if_icmp .ne 102, 3) := by decide +kernel
theorem dX4_tokenAt_78 : decode cX4_tokenAt 78 = .ok (.aload_n 0, 1) := by decide +kernel
theorem dX4_tokenAt_79 : decode cX4_tokenAt 79 = .ok (.getfield 51, 3) := by decide +kernel
theorem dX4_tokenAt_82 : decode cX4_tokenAt 82 = .ok (.iload 9, 2) := by decide +kernel
theorem dX4_tokenAt_84 : decode cX4_tokenAt 84 = .ok (.invokevirtual 83, 3) := by decide +kernel
theorem dX4_tokenAt_87 : decode cX4_tokenAt 87 = .ok (.istore 10, 2) := by decide +kernel
theorem dX4_tokenAt_89 : decode cX4_tokenAt 89 = .ok (.iload 5, 2) := by decide +kernel
theorem dX4_tokenAt_91 : decode cX4_tokenAt 91 = .ok (.ifCond .eq 37, 3) := by decide +kernel
theorem dX4_tokenAt_94 : decode cX4_tokenAt 94 = .ok (.iload 10, 2) := by decide +kernel
theorem dX4_tokenAt_96 : decode cX4_tokenAt 96 = .ok (.invokestatic 97, 3) := by decide +kernel
theorem dX4_tokenAt_99 : decode cX4_tokenAt 99 = .ok (.ifCond .eq 29, 3) := by decide +kernel
theorem dX4_tokenAt_102 : decode cX4_tokenAt 102 = .ok (.iload 6, 2) := by decide +kernel
theorem dX4_tokenAt_104 : decode cX4_tokenAt 104 = .ok (.bipush 8, 2) := by decide +kernel
theorem dX4_tokenAt_106 : decode cX4_tokenAt 106 = .ok (.if_icmp .ge 13, 3) := by decide +kernel
theorem dX4_tokenAt_109 : decode cX4_tokenAt 109 = .ok (.lload 7, 2) := by decide +kernel
theorem dX4_tokenAt_111 : decode cX4_tokenAt 111 = .ok (.iload 10, 2) := by decide +kernel
theorem dX4_tokenAt_113 : decode cX4_tokenAt 113 = .ok (.invokestatic 106, 3) := by decide +kernel
theorem dX4_tokenAt_116 : decode cX4_tokenAt 116 = .ok (.goto 4, 3) := by decide +kernel
theorem dX4_tokenAt_119 : decode cX4_tokenAt 119 = .ok (.lconst 0, 1) := by decide +kernel
theorem dX4_tokenAt_120 : decode cX4_tokenAt 120 = .ok (.lstore 7, 2) := by decide +kernel
theorem dX4_tokenAt_122 : decode cX4_tokenAt 122 = .ok (.iinc 6 1, 3) := by decide +kernel
theorem dX4_tokenAt_125 : decode cX4_tokenAt 125 = .ok (.goto 46, 3) := by decide +kernel
theorem dX4_tokenAt_128 : decode cX4_tokenAt 128 = .ok (.iload 5, 2) := by decide +kernel
theorem dX4_tokenAt_130 : decode cX4_tokenAt 130 = .ok (.ifCond .ne 41, 3) := by decide +kernel
theorem dX4_tokenAt_133 : decode cX4_tokenAt 133 = .ok (.iload 10, 2) := by decide +kernel
theorem dX4_tokenAt_135 : decode cX4_tokenAt 135 = .ok (.invokestatic 100, 3) := by decide +kernel
theorem dX4_tokenAt_138 : decode cX4_tokenAt 138 = .ok (.ifCond .eq 33, 3) := by decide +kernel
theorem dX4_tokenAt_141 : decode cX4_tokenAt 141 = .ok (.iload 6, 2) := by decide +kernel
theorem dX4_tokenAt_143 : decode cX4_tokenAt 143 = .ok (.bipush 6, 2) := by decide +kernel
theorem dX4_tokenAt_145 : decode cX4_tokenAt 145 = .ok (.if_icmp .ge 20, 3) := by decide +kernel
theorem dX4_tokenAt_148 : decode cX4_tokenAt 148 = .ok (.lload 7, 2) := by decide +kernel
theorem dX4_tokenAt_150 : decode cX4_tokenAt 150 = .ok (.ldc2_w 110, 3) := by decide +kernel
theorem dX4_tokenAt_153 : decode cX4_tokenAt 153 = .ok (.lmul, 1) := by decide +kernel
theorem dX4_tokenAt_154 : decode cX4_tokenAt 154 = .ok (.iload 10, 2) := by decide +kernel
theorem dX4_tokenAt_156 : decode cX4_tokenAt 156 = .ok (.i2l, 1) := by decide +kernel
theorem dX4_tokenAt_157 : decode cX4_tokenAt 157 = .ok (.ladd, 1) := by decide +kernel
theorem dX4_tokenAt_158 : decode cX4_tokenAt 158 = .ok (.ldc2_w 112, 3) := by decide +kernel
theorem dX4_tokenAt_161 : decode cX4_tokenAt 161 = .ok (.lsub, 1) := by decide +kernel
theorem dX4_tokenAt_162 : decode cX4_tokenAt 162 = .ok (.goto 4, 3) := by decide +kernel
theorem dX4_tokenAt_165 : decode cX4_tokenAt 165 = .ok (.lconst 0, 1) := by decide +kernel
theorem dX4_tokenAt_166 : decode cX4_tokenAt 166 = .ok (.lstore 7, 2) := by decide +kernel
theorem dX4_tokenAt_168 : decode cX4_tokenAt 168 = .ok (.iinc 6 1, 3) := by decide +kernel
theorem dX4_tokenAt_171 : decode cX4_tokenAt 171 = .ok (.iinc 9 1, 3) := by decide +kernel
theorem dX4_tokenAt_174 : decode cX4_tokenAt 174 = .ok (.goto (-111), 3) := by decide +kernel
theorem dX4_tokenAt_177 : decode cX4_tokenAt 177 = .ok (.iload 6, 2) := by decide +kernel
theorem dX4_tokenAt_179 : decode cX4_tokenAt 179 = .ok (.iload 5, 2) := by decide +kernel
theorem dX4_tokenAt_181 : decode cX4_tokenAt 181 = .ok (.ifCond .eq 8, 3) := by decide +kernel
theorem dX4_tokenAt_184 : decode cX4_tokenAt 184 = .ok (.bipush 8, 2) := by decide +kernel
theorem dX4_tokenAt_186 : decode cX4_tokenAt 186 = .ok (.goto 5, 3) := by decide +kernel
theorem dX4_tokenAt_189 : decode cX4_tokenAt 189 = .ok (.bipush 6, 2) := by decide +kernel
theorem dX4_tokenAt_191 : decode cX4_tokenAt 191 = .ok (.if_icmp .le 14, 3) := by decide +kernel
theorem dX4_tokenAt_194 : decode cX4_tokenAt 194 = .ok (.aload_n 0, 1) := by decide +kernel
theorem dX4_tokenAt_195 : decode cX4_tokenAt 195 = .ok (.iload_n 3, 1) := by decide +kernel
theorem dX4_tokenAt_196 : decode cX4_tokenAt 196 = .ok (.iconst 5, 1) := by decide +kernel
theorem dX4_tokenAt_197 : decode cX4_tokenAt 197 = .ok (.iload_n 1, 1) := by decide +kernel
theorem dX4_tokenAt_198 : decode cX4_tokenAt 198 = .ok (.lconst 0, 1) := by decide +kernel
theorem dX4_tokenAt_199 : decode cX4_tokenAt 199 = .ok (.invokevirtual 93, 3) := by decide +kernel
theorem dX4_tokenAt_202 : decode cX4_tokenAt 202 = .ok (.goto 62, 3) := by decide +kernel
theorem dX4_tokenAt_205 : decode cX4_tokenAt 205 = .ok (.iload 5, 2) := by decide +kernel
theorem dX4_tokenAt_207 : decode cX4_tokenAt 207 = .ok (.ifCond .ne 15, 3) := by decide +kernel
theorem dX4_tokenAt_210 : decode cX4_tokenAt 210 = .ok (.aload_n 0, 1) := by decide +kernel
theorem dX4_tokenAt_211 : decode cX4_tokenAt 211 = .ok (.iload_n 3, 1) := by decide +kernel
theorem dX4_tokenAt_212 : decode cX4_tokenAt 212 = .ok (.iconst 3, 1) := by decide +kernel
theorem dX4_tokenAt_213 : decode cX4_tokenAt 213 = .ok (.iload_n 1, 1) := by decide +kernel
theorem dX4_tokenAt_214 : decode cX4_tokenAt 214 = .ok (.lload 7, 2) := by decide +kernel
theorem dX4_tokenAt_216 : decode cX4_tokenAt 216 = .ok (.invokevirtual 93, 3) := by decide +kernel
theorem dX4_tokenAt_219 : decode cX4_tokenAt 219 = .ok (.goto 45, 3) := by decide +kernel
theorem dX4_tokenAt_222 : decode cX4_tokenAt 222 = .ok (.aload_n 0, 1) := by decide +kernel
theorem dX4_tokenAt_223 : decode cX4_tokenAt 223 = .ok (.getfield 12, 3) := by decide +kernel
theorem dX4_tokenAt_226 : decode cX4_tokenAt 226 = .ok (.lload 7, 2) := by decide +kernel
theorem dX4_tokenAt_228 : decode cX4_tokenAt 228 = .ok (.invokevirtual 114, 3) := by decide +kernel
theorem dX4_tokenAt_231 : decode cX4_tokenAt 231 = .ok (.istore 9, 2) := by decide +kernel
theorem dX4_tokenAt_233 : decode cX4_tokenAt 233 = .ok (.aload_n 0, 1) := by decide +kernel
theorem dX4_tokenAt_234 : decode cX4_tokenAt 234 = .ok (.iload_n 3, 1) := by decide +kernel
theorem dX4_tokenAt_235 : decode cX4_tokenAt 235 = .ok (.iload 9, 2) := by decide +kernel
theorem dX4_tokenAt_237 : decode cX4_tokenAt 237 = .ok (.iconst (-1), 1) := by decide +kernel
theorem dX4_tokenAt_238 : decode cX4_tokenAt 238 = .ok (.if_icmp .ne 7, 3) := by decide +kernel
theorem dX4_tokenAt_241 : decode cX4_tokenAt 241 = .ok (.iconst 2, 1) := by decide +kernel
theorem dX4_tokenAt_242 : decode cX4_tokenAt 242 = .ok (.goto 4, 3) := by decide +kernel
theorem dX4_tokenAt_245 : decode cX4_tokenAt 245 = .ok (.iconst 1, 1) := by decide +kernel
theorem dX4_tokenAt_246 : decode cX4_tokenAt 246 = .ok (.iload_n 1, 1) := by decide +kernel
theorem dX4_tokenAt_247 : decode cX4_tokenAt 247 = .ok (.iload 9, 2) := by decide +kernel
theorem dX4_tokenAt_249 : decode cX4_tokenAt 249 = .ok (.iconst (-1), 1) := by decide +kernel
theorem dX4_tokenAt_250 : decode cX4_tokenAt 250 = .ok (.if_icmp .ne 8, 3) := by decide +kernel
theorem dX4_tokenAt_253 : decode cX4_tokenAt 253 = .ok (.lload 7, 2) := by decide +kernel
theorem dX4_tokenAt_255 : decode cX4_tokenAt 255 = .ok (.goto 6, 3) := by decide +kernel
theorem dX4_tokenAt_258 : decode cX4_tokenAt 258 = .ok (.iload 9, 2) := by decide +kernel
theorem dX4_tokenAt_260 : decode cX4_tokenAt 260 = .ok (.i2l, 1) := by decide +kernel
theorem dX4_tokenAt_261 : decode cX4_tokenAt 261 = .ok (.invokevirtual 93, 3) := by decide +kernel
theorem dX4_tokenAt_264 : decode cX4_tokenAt 264 = .ok (.iload 6, 2) := by decide +kernel
theorem dX4_tokenAt_266 : decode cX4_tokenAt 266 = .ok (.ireturn, 1) := by decide +kernel
theorem dX4_split_0 : decode cX4_split 0 = .ok (.iconst 0, 1) := by decide +kernel
theorem dX4_split_1 : decode cX4_split 1 = .ok (.istore_n 2, 1) := by decide +kernel
theorem dX4_split_2 : decode cX4_split 2 = .ok (.iconst 0, 1) := by decide +kernel
theorem dX4_split_3 : decode cX4_split 3 = .ok (.istore_n 3, 1) := by decide +kernel
theorem dX4_split_4 : decode cX4_split 4 = .ok (.iconst 0, 1) := by decide +kernel
theorem dX4_split_5 : decode cX4_split 5 = .ok (.istore 4, 2) := by decide +kernel
theorem dX4_split_7 : decode cX4_split 7 = .ok (.iload 4, 2) := by decide +kernel
theorem dX4_split_9 : decode cX4_split 9 = .ok (.iload_n 1, 1) := by decide +kernel
theorem dX4_split_10 : decode cX4_split 10 = .ok (.if_icmp .ge 52, 3) := by decide +kernel
theorem dX4_split_13 : decode cX4_split 13 = .ok (.iload 4, 2) := by decide +kernel
theorem dX4_split_15 : decode cX4_split 15 = .ok (.iload_n 2, 1) := by decide +kernel
theorem dX4_split_16 : decode cX4_split 16 = .ok (.if_icmp .lt 40, 3) := by decide +kernel
theorem dX4_split_19 : decode cX4_split 19 = .ok (.aload_n 0, 1) := by decide +kernel
theorem dX4_split_20 : decode cX4_split 20 = .ok (.getfield 51, 3) := by decide +kernel
theorem dX4_split_23 : decode cX4_split 23 = .ok (.iload 4, 2) := by decide +kernel
theorem dX4_split_25 : decode cX4_split 25 = .ok (.invokevirtual 83, 3) := by decide +kernel
theorem dX4_split_28 : decode cX4_split 28 = .ok (.invokestatic 86, 3) := by decide +kernel
theorem dX4_split_31 : decode cX4_split 31 = .ok (.ifCond .ne 25, 3) := by decide +kernel
theorem dX4_split_34 : decode cX4_split 34 = .ok (.iload_n 3, 1) := by decide +kernel
theorem dX4_split_35 : decode cX4_split 35 = .ok (.sipush 900, 3) := by decide +kernel
theorem dX4_split_38 : decode cX4_split 38 = .ok (.if_icmp .ge 18, 3) := by decide +kernel
theorem dX4_split_41 : decode cX4_split 41 = .ok (.iload 4, 2) := by decide +kernel
theorem dX4_split_43 : decode cX4_split 43 = .ok (.aload_n 0, 1) := by decide +kernel
theorem dX4_split_44 : decode cX4_split 44 = .ok (.iload 4, 2) := by decide +kernel
theorem dX4_split_46 : decode cX4_split 46 = .ok (.iload_n 1, 1) := by decide +kernel
theorem dX4_split_47 : decode cX4_split 47 = .ok (.iload_n 3, 1) := by decide +kernel
theorem dX4_split_48 : decode cX4_split 48 = .ok (.invokevirtual 89, 3) := by decide +kernel
theorem dX4_split_51 : decode cX4_split 51 = .ok (.iadd, 1) := by decide +kernel
theorem dX4_split_52 : decode cX4_split 52 = .ok (.istore_n 2, 1) := by decide +kernel
theorem dX4_split_53 : decode cX4_split 53 = .ok (.iinc 3 1, 3) := by decide +kernel
theorem dX4_split_56 : decode cX4_split 56 = .ok (.iinc 4 1, 3) := by decide +kernel
theorem dX4_split_59 : decode cX4_split 59 = .ok (.goto (-52), 3) := by decide +kernel
theorem dX4_split_62 : decode cX4_split 62 = .ok (.aload_n 0, 1) := by decide +kernel
theorem dX4_split_63 : decode cX4_split 63 = .ok (.iload_n 3, 1) := by decide +kernel
theorem dX4_split_64 : decode cX4_split 64 = .ok (.iconst 0, 1) := by decide +kernel
theorem dX4_split_65 : decode cX4_split 65 = .ok (.iload_n 1, 1) := by decide +kernel
theorem dX4_split_66 : decode cX4_split 66 = .ok (.lconst 0, 1) := by decide +kernel
theorem dX4_split_67 : decode cX4_split 67 = .ok (.invokevirtual 93, 3) := by decide +kernel
theorem dX4_split_70 : decode cX4_split 70 = .ok (.return_, 1) := by decide +kernel
theorem dX4_isKind_0 : decode cX4_isKind 0 = .ok (.aload_n 0, 1) := by decide +kernel
theorem dX4_isKind_1 : decode cX4_isKind 1 = .ok (.getfield 44, 3) := by decide +kernel
theorem dX4_isKind_4 : decode cX4_isKind 4 = .ok (.ifCond .lt 32, 3) := by decide +kernel
theorem dX4_isKind_7 : decode cX4_isKind 7 = .ok (.aload_n 0, 1) := by decide +kernel
theorem dX4_isKind_8 : decode cX4_isKind 8 = .ok (.getfield 44, 3) := by decide +kernel
theorem dX4_isKind_11 : decode cX4_isKind 11 = .ok (.aload_n 0, 1) := by decide +kernel
theorem dX4_isKind_12 : decode cX4_isKind 12 = .ok (.getfield 20, 3) := by decide +kernel
theorem dX4_isKind_15 : decode cX4_isKind 15 = .ok (.arraylength, 1) := by decide +kernel
theorem dX4_isKind_16 : decode cX4_isKind 16 = .ok (.if_icmp .ge 20, 3) := by decide +kernel
theorem dX4_isKind_19 : decode cX4_isKind 19 = .ok (.aload_n 0, 1) := by decide +kernel
theorem dX4_isKind_20 : decode cX4_isKind 20 = .ok (.getfield 20, 3) := by decide +kernel
theorem dX4_isKind_23 : decode cX4_isKind 23 = .ok (.aload_n 0, 1) := by decide +kernel
theorem dX4_isKind_24 : decode cX4_isKind 24 = .ok (.getfield 44, 3) := by decide +kernel
theorem dX4_isKind_27 : decode cX4_isKind 27 = .ok (.iaload, 1) := by decide +kernel
theorem dX4_isKind_28 : decode cX4_isKind 28 = .ok (.iload_n 1, 1) := by decide +kernel
theorem dX4_isKind_29 : decode cX4_isKind 29 = .ok (.if_icmp .ne 7, 3) := by decide +kernel
theorem dX4_isKind_32 : decode cX4_isKind 32 = .ok (.iconst 1, 1) := by decide +kernel
theorem dX4_isKind_33 : decode cX4_isKind 33 = .ok (.goto 4, 3) := by decide +kernel
theorem dX4_isKind_36 : decode cX4_isKind 36 = .ok (.iconst 0, 1) := by decide +kernel
theorem dX4_isKind_37 : decode cX4_isKind 37 = .ok (.ireturn, 1) := by decide +kernel
theorem dX4_value_0 : decode cX4_value 0 = .ok (.aload_n 0, 1) := by decide +kernel
theorem dX4_value_1 : decode cX4_value 1 = .ok (.getfield 44, 3) := by decide +kernel
theorem dX4_value_4 : decode cX4_value 4 = .ok (.ifCond .lt 27, 3) := by decide +kernel
theorem dX4_value_7 : decode cX4_value 7 = .ok (.aload_n 0, 1) := by decide +kernel
theorem dX4_value_8 : decode cX4_value 8 = .ok (.getfield 44, 3) := by decide +kernel
theorem dX4_value_11 : decode cX4_value 11 = .ok (.aload_n 0, 1) := by decide +kernel
theorem dX4_value_12 : decode cX4_value 12 = .ok (.getfield 27, 3) := by decide +kernel
theorem dX4_value_15 : decode cX4_value 15 = .ok (.arraylength, 1) := by decide +kernel
theorem dX4_value_16 : decode cX4_value 16 = .ok (.if_icmp .ge 15, 3) := by decide +kernel
theorem dX4_value_19 : decode cX4_value 19 = .ok (.aload_n 0, 1) := by decide +kernel
theorem dX4_value_20 : decode cX4_value 20 = .ok (.getfield 27, 3) := by decide +kernel
theorem dX4_value_23 : decode cX4_value 23 = .ok (.aload_n 0, 1) := by decide +kernel
theorem dX4_value_24 : decode cX4_value 24 = .ok (.getfield 44, 3) := by decide +kernel
theorem dX4_value_27 : decode cX4_value 27 = .ok (.laload, 1) := by decide +kernel
theorem dX4_value_28 : decode cX4_value 28 = .ok (.goto 6, 3) := by decide +kernel
theorem dX4_value_31 : decode cX4_value 31 = .ok (.ldc2_w 200, 3) := by decide +kernel
theorem dX4_value_34 : decode cX4_value 34 = .ok (.lreturn, 1) := by decide +kernel
theorem dX4_keyword_0 : decode cX4_keyword 0 = .ok (.aload_n 0, 1) := by decide +kernel
theorem dX4_keyword_1 : decode cX4_keyword 1 = .ok (.iconst 1, 1) := by decide +kernel
theorem dX4_keyword_2 : decode cX4_keyword 2 = .ok (.invokevirtual 66, 3) := by decide +kernel
theorem dX4_keyword_5 : decode cX4_keyword 5 = .ok (.ifCond .eq 11, 3) := by decide +kernel
theorem dX4_keyword_8 : decode cX4_keyword 8 = .ok (.aload_n 0, 1) := by decide +kernel
theorem dX4_keyword_9 : decode cX4_keyword 9 = .ok (.invokevirtual 202, 3) := by decide +kernel
theorem dX4_keyword_12 : decode cX4_keyword 12 = .ok (.l2i, 1) := by decide +kernel
theorem dX4_keyword_13 : decode cX4_keyword 13 = .ok (.goto 4, 3) := by decide +kernel
theorem dX4_keyword_16 : decode cX4_keyword 16 = .ok (.iconst (-1), 1) := by decide +kernel
theorem dX4_keyword_17 : decode cX4_keyword 17 = .ok (.ireturn, 1) := by decide +kernel
theorem dX5_find_0 : decode cX5_find 0 = .ok (.iconst 0, 1) := by decide +kernel
theorem dX5_find_1 : decode cX5_find 1 = .ok (.istore_n 3, 1) := by decide +kernel
theorem dX5_find_2 : decode cX5_find 2 = .ok (.iload_n 3, 1) := by decide +kernel
theorem dX5_find_3 : decode cX5_find 3 = .ok (.aload_n 0, 1) := by decide +kernel
theorem dX5_find_4 : decode cX5_find 4 = .ok (.getfield 15, 3) := by decide +kernel
theorem dX5_find_7 : decode cX5_find 7 = .ok (.aload_n 0, 1) := by decide +kernel
theorem dX5_find_8 : decode cX5_find 8 = .ok (.getfield 19, 3) := by decide +kernel
theorem dX5_find_11 : decode cX5_find 11 = .ok (.iadd, 1) := by decide +kernel
theorem dX5_find_12 : decode cX5_find 12 = .ok (.if_icmp .ge 33, 3) := by decide +kernel
theorem dX5_find_15 : decode cX5_find 15 = .ok (.iload_n 3, 1) := by decide +kernel
theorem dX5_find_16 : decode cX5_find 16 = .ok (.aload_n 0, 1) := by decide +kernel
theorem dX5_find_17 : decode cX5_find 17 = .ok (.getfield 9, 3) := by decide +kernel
theorem dX5_find_20 : decode cX5_find 20 = .ok (.arraylength, 1) := by decide +kernel
theorem dX5_find_21 : decode cX5_find 21 = .ok (.if_icmp .ge 24, 3) := by decide +kernel
theorem dX5_find_24 : decode cX5_find 24 = .ok (.aload_n 0, 1) := by decide +kernel
theorem dX5_find_25 : decode cX5_find 25 = .ok (.getfield 9, 3) := by decide +kernel
theorem dX5_find_28 : decode cX5_find 28 = .ok (.iload_n 3, 1) := by decide +kernel
theorem dX5_find_29 : decode cX5_find 29 = .ok (.laload, 1) := by decide +kernel
theorem dX5_find_30 : decode cX5_find 30 = .ok (.lload_n 1, 1) := by decide +kernel
theorem dX5_find_31 : decode cX5_find 31 = .ok (.lcmp, 1) := by decide +kernel
theorem dX5_find_32 : decode cX5_find 32 = .ok (.ifCond .ne 7, 3) := by decide +kernel
theorem dX5_find_35 : decode cX5_find 35 = .ok (.iload_n 3, 1) := by decide +kernel
theorem dX5_find_36 : decode cX5_find 36 = .ok (.iconst 1, 1) := by decide +kernel
theorem dX5_find_37 : decode cX5_find 37 = .ok (.iadd, 1) := by decide +kernel
theorem dX5_find_38 : decode cX5_find 38 = .ok (.ireturn, 1) := by decide +kernel
theorem dX5_find_39 : decode cX5_find 39 = .ok (.iinc 3 1, 3) := by decide +kernel
theorem dX5_find_42 : decode cX5_find 42 = .ok (.goto (-40), 3) := by decide +kernel
theorem dX5_find_45 : decode cX5_find 45 = .ok (.iconst (-1), 1) := by decide +kernel
theorem dX5_find_46 : decode cX5_find 46 = .ok (.ireturn, 1) := by decide +kernel
theorem dX5_add_0 : decode cX5_add 0 = .ok (.aload_n 0, 1) := by decide +kernel
theorem dX5_add_1 : decode cX5_add 1 = .ok (.getfield 15, 3) := by decide +kernel
theorem dX5_add_4 : decode cX5_add 4 = .ok (.aload_n 0, 1) := by decide +kernel
theorem dX5_add_5 : decode cX5_add 5 = .ok (.getfield 19, 3) := by decide +kernel
theorem dX5_add_8 : decode cX5_add 8 = .ok (.iadd, 1) := by decide +kernel
theorem dX5_add_9 : decode cX5_add 9 = .ok (.istore_n 3, 1) := by decide +kernel
theorem dX5_add_10 : decode cX5_add 10 = .ok (.iload_n 3, 1) := by decide +kernel
theorem dX5_add_11 : decode cX5_add 11 = .ok (.ifCond .lt 12, 3) := by decide +kernel
theorem dX5_add_14 : decode cX5_add 14 = .ok (.iload_n 3, 1) := by decide +kernel
theorem dX5_add_15 : decode cX5_add 15 = .ok (.aload_n 0, 1) := by decide +kernel
theorem dX5_add_16 : decode cX5_add 16 = .ok (.getfield 9, 3) := by decide +kernel
theorem dX5_add_19 : decode cX5_add 19 = .ok (.arraylength, 1) := by decide +kernel
theorem dX5_add_20 : decode cX5_add 20 = .ok (.if_icmp .lt 5, 3) := by decide +kernel
theorem dX5_add_23 : decode cX5_add 23 = .ok (.iconst (-1), 1) := by decide +kernel
theorem dX5_add_24 : decode cX5_add 24 = .ok (.ireturn, 1) := by decide +kernel
theorem dX5_add_25 : decode cX5_add 25 = .ok (.aload_n 0, 1) := by decide +kernel
theorem dX5_add_26 : decode cX5_add 26 = .ok (.getfield 9, 3) := by decide +kernel
theorem dX5_add_29 : decode cX5_add 29 = .ok (.iload_n 3, 1) := by decide +kernel
theorem dX5_add_30 : decode cX5_add 30 = .ok (.lload_n 1, 1) := by decide +kernel
theorem dX5_add_31 : decode cX5_add 31 = .ok (.lastore, 1) := by decide +kernel
theorem dX5_add_32 : decode cX5_add 32 = .ok (.aload_n 0, 1) := by decide +kernel
theorem dX5_add_33 : decode cX5_add 33 = .ok (.dup, 1) := by decide +kernel
theorem dX5_add_34 : decode cX5_add 34 = .ok (.getfield 19, 3) := by decide +kernel
theorem dX5_add_37 : decode cX5_add 37 = .ok (.iconst 1, 1) := by decide +kernel
theorem dX5_add_38 : decode cX5_add 38 = .ok (.iadd, 1) := by decide +kernel
theorem dX5_add_39 : decode cX5_add 39 = .ok (.putfield 19, 3) := by decide +kernel
theorem dX5_add_42 : decode cX5_add 42 = .ok (.iload_n 3, 1) := by decide +kernel
theorem dX5_add_43 : decode cX5_add 43 = .ok (.iconst 1, 1) := by decide +kernel
theorem dX5_add_44 : decode cX5_add 44 = .ok (.iadd, 1) := by decide +kernel
theorem dX5_add_45 : decode cX5_add 45 = .ok (.ireturn, 1) := by decide +kernel
theorem dX4_takeNewName_0 : decode cX4_takeNewName 0 = .ok (.aload_n 0, 1) := by decide +kernel
theorem dX4_takeNewName_1 : decode cX4_takeNewName 1 = .ok (.iconst 2, 1) := by decide +kernel
theorem dX4_takeNewName_2 : decode cX4_takeNewName 2 = .ok (.invokevirtual 66, 3) := by decide +kernel
theorem dX4_takeNewName_5 : decode cX4_takeNewName 5 = .ok (.ifCond .ne 5, 3) := by decide +kernel
theorem dX4_takeNewName_8 : decode cX4_takeNewName 8 = .ok (.iconst 0, 1) := by decide +kernel
theorem dX4_takeNewName_9 : decode cX4_takeNewName 9 = .ok (.ireturn, 1) := by decide +kernel
theorem dX4_takeNewName_10 : decode cX4_takeNewName 10 = .ok (.aload_n 0, 1) := by decide +kernel
theorem dX4_takeNewName_11 : decode cX4_takeNewName 11 = .ok (.getfield 55, 3) := by decide +kernel
theorem dX4_takeNewName_14 : decode cX4_takeNewName 14 = .ok (.aload_n 0, 1) := by decide +kernel
theorem dX4_takeNewName_15 : decode cX4_takeNewName 15 = .ok (.invokevirtual 202, 3) := by decide +kernel
theorem dX4_takeNewName_18 : decode cX4_takeNewName 18 = .ok (.invokevirtual 209, 3) := by decide +kernel
theorem dX4_takeNewName_21 : decode cX4_takeNewName 21 = .ok (.istore_n 1, 1) := by decide +kernel
theorem dX4_takeNewName_22 : decode cX4_takeNewName 22 = .ok (.iload_n 1, 1) := by decide +kernel
theorem dX4_takeNewName_23 : decode cX4_takeNewName 23 = .ok (.iconst (-1), 1) := by decide +kernel
theorem dX4_takeNewName_24 : decode cX4_takeNewName 24 = .ok (.if_icmp .ne 15, 3) := by decide +kernel
theorem dX4_takeNewName_27 : decode cX4_takeNewName 27 = .ok (.aload_n 0, 1) := by decide +kernel
theorem dX4_takeNewName_28 : decode cX4_takeNewName 28 = .ok (.getfield 55, 3) := by decide +kernel
theorem dX4_takeNewName_31 : decode cX4_takeNewName 31 = .ok (.aload_n 0, 1) := by decide +kernel
theorem dX4_takeNewName_32 : decode cX4_takeNewName 32 = .ok (.invokevirtual 202, 3) := by decide +kernel
theorem dX4_takeNewName_35 : decode cX4_takeNewName 35 = .ok (.invokevirtual 212, 3) := by decide +kernel
theorem dX4_takeNewName_38 : decode cX4_takeNewName 38 = .ok (.istore_n 1, 1) := by decide +kernel
theorem dX4_takeNewName_39 : decode cX4_takeNewName 39 = .ok (.iload_n 1, 1) := by decide +kernel
theorem dX4_takeNewName_40 : decode cX4_takeNewName 40 = .ok (.iconst 1, 1) := by decide +kernel
theorem dX4_takeNewName_41 : decode cX4_takeNewName 41 = .ok (.if_icmp .lt 12, 3) := by decide +kernel
theorem dX4_takeNewName_44 : decode cX4_takeNewName 44 = .ok (.iload_n 1, 1) := by decide +kernel
theorem dX4_takeNewName_45 : decode cX4_takeNewName 45 = .ok (.aload_n 0, 1) := by decide +kernel
theorem dX4_takeNewName_46 : decode cX4_takeNewName 46 = .ok (.getfield 31, 3) := by decide +kernel
theorem dX4_takeNewName_49 : decode cX4_takeNewName 49 = .ok (.arraylength, 1) := by decide +kernel
theorem dX4_takeNewName_50 : decode cX4_takeNewName 50 = .ok (.if_icmp .lt 5, 3) := by decide +kernel
theorem dX4_takeNewName_53 : decode cX4_takeNewName 53 = .ok (.iconst 0, 1) := by decide +kernel
theorem dX4_takeNewName_54 : decode cX4_takeNewName 54 = .ok (.ireturn, 1) := by decide +kernel
theorem dX4_takeNewName_55 : decode cX4_takeNewName 55 = .ok (.aload_n 0, 1) := by decide +kernel
theorem dX4_takeNewName_56 : decode cX4_takeNewName 56 = .ok (.getfield 31, 3) := by decide +kernel
theorem dX4_takeNewName_59 : decode cX4_takeNewName 59 = .ok (.iload_n 1, 1) := by decide +kernel
theorem dX4_takeNewName_60 : decode cX4_takeNewName 60 = .ok (.iconst 1, 1) := by decide +kernel
theorem dX4_takeNewName_61 : decode cX4_takeNewName 61 = .ok (.bastore, 1) := by decide +kernel
theorem dX4_takeNewName_62 : decode cX4_takeNewName 62 = .ok (.aload_n 0, 1) := by decide +kernel
theorem dX4_takeNewName_63 : decode cX4_takeNewName 63 = .ok (.iload_n 1, 1) := by decide +kernel
theorem dX4_takeNewName_64 : decode cX4_takeNewName 64 = .ok (.putfield 48, 3) := by decide +kernel
theorem dX4_takeNewName_67 : decode cX4_takeNewName 67 = .ok (.aload_n 0, 1) := by decide +kernel
theorem dX4_takeNewName_68 : decode cX4_takeNewName 68 = .ok (.dup, 1) := by decide +kernel
theorem dX4_takeNewName_69 : decode cX4_takeNewName 69 = .ok (.getfield 44, 3) := by decide +kernel
theorem dX4_takeNewName_72 : decode cX4_takeNewName 72 = .ok (.iconst 1, 1) := by decide +kernel
theorem dX4_takeNewName_73 : decode cX4_takeNewName 73 = .ok (.iadd, 1) := by decide +kernel
theorem dX4_takeNewName_74 : decode cX4_takeNewName 74 = .ok (.putfield 44, 3) := by decide +kernel
theorem dX4_takeNewName_77 : decode cX4_takeNewName 77 = .ok (.iconst 1, 1) := by decide +kernel
theorem dX4_takeNewName_78 : decode cX4_takeNewName 78 = .ok (.ireturn, 1) := by decide +kernel
theorem dX4_isToken_0 : decode cX4_isToken 0 = .ok (.aload_n 0, 1) := by decide +kernel
theorem dX4_isToken_1 : decode cX4_isToken 1 = .ok (.getfield 44, 3) := by decide +kernel
theorem dX4_isToken_4 : decode cX4_isToken 4 = .ok (.ifCond .lt 59, 3) := by decide +kernel
theorem dX4_isToken_7 : decode cX4_isToken 7 = .ok (.aload_n 0, 1) := by decide +kernel
theorem dX4_isToken_8 : decode cX4_isToken 8 = .ok (.getfield 44, 3) := by decide +kernel
theorem dX4_isToken_11 : decode cX4_isToken 11 = .ok (.aload_n 0, 1) := by decide +kernel
theorem dX4_isToken_12 : decode cX4_isToken 12 = .ok (.getfield 20, 3) := by decide +kernel
theorem dX4_isToken_15 : decode cX4_isToken 15 = .ok (.arraylength, 1) := by decide +kernel
theorem dX4_isToken_16 : decode cX4_isToken 16 = .ok (.if_icmp .ge 47, 3) := by decide +kernel
theorem dX4_isToken_19 : decode cX4_isToken 19 = .ok (.aload_n 0, 1) := by decide +kernel
theorem dX4_isToken_20 : decode cX4_isToken 20 = .ok (.getfield 44, 3) := by decide +kernel
theorem dX4_isToken_23 : decode cX4_isToken 23 = .ok (.aload_n 0, 1) := by decide +kernel
theorem dX4_isToken_24 : decode cX4_isToken 24 = .ok (.getfield 27, 3) := by decide +kernel
theorem dX4_isToken_27 : decode cX4_isToken 27 = .ok (.arraylength, 1) := by decide +kernel
theorem dX4_isToken_28 : decode cX4_isToken 28 = .ok (.if_icmp .ge 35, 3) := by decide +kernel
theorem dX4_isToken_31 : decode cX4_isToken 31 = .ok (.aload_n 0, 1) := by decide +kernel
theorem dX4_isToken_32 : decode cX4_isToken 32 = .ok (.getfield 20, 3) := by decide +kernel
theorem dX4_isToken_35 : decode cX4_isToken 35 = .ok (.aload_n 0, 1) := by decide +kernel
theorem dX4_isToken_36 : decode cX4_isToken 36 = .ok (.getfield 44, 3) := by decide +kernel
theorem dX4_isToken_39 : decode cX4_isToken 39 = .ok (.iaload, 1) := by decide +kernel
theorem dX4_isToken_40 : decode cX4_isToken 40 = .ok (.iload_n 1, 1) := by decide +kernel
theorem dX4_isToken_41 : decode cX4_isToken 41 = .ok (.if_icmp .ne 22, 3) := by decide +kernel
theorem dX4_isToken_44 : decode cX4_isToken 44 = .ok (.aload_n 0, 1) := by decide +kernel
theorem dX4_isToken_45 : decode cX4_isToken 45 = .ok (.getfield 27, 3) := by decide +kernel
theorem dX4_isToken_48 : decode cX4_isToken 48 = .ok (.aload_n 0, 1) := by decide +kernel
theorem dX4_isToken_49 : decode cX4_isToken 49 = .ok (.getfield 44, 3) := by decide +kernel
theorem dX4_isToken_52 : decode cX4_isToken 52 = .ok (.laload, 1) := by decide +kernel
theorem dX4_isToken_53 : decode cX4_isToken 53 = .ok (.iload_n 2, 1) := by decide +kernel
theorem dX4_isToken_54 : decode cX4_isToken 54 = .ok (.i2l, 1) := by decide +kernel
theorem dX4_isToken_55 : decode cX4_isToken 55 = .ok (.lcmp, 1) := by decide +kernel
theorem dX4_isToken_56 : decode cX4_isToken 56 = .ok (.ifCond .ne 7, 3) := by decide +kernel
theorem dX4_isToken_59 : decode cX4_isToken 59 = .ok (.iconst 1, 1) := by decide +kernel
theorem dX4_isToken_60 : decode cX4_isToken 60 = .ok (.goto 4, 3) := by decide +kernel
theorem dX4_isToken_63 : decode cX4_isToken 63 = .ok (.iconst 0, 1) := by decide +kernel
theorem dX4_isToken_64 : decode cX4_isToken 64 = .ok (.ireturn, 1) := by decide +kernel
theorem dX4_takeWord_0 : decode cX4_takeWord 0 = .ok (.aload_n 0, 1) := by decide +kernel
theorem dX4_takeWord_1 : decode cX4_takeWord 1 = .ok (.iconst 1, 1) := by decide +kernel
theorem dX4_takeWord_2 : decode cX4_takeWord 2 = .ok (.iload_n 1, 1) := by decide +kernel
theorem dX4_takeWord_3 : decode cX4_takeWord 3 = .ok (.invokevirtual 206, 3) := by decide +kernel
theorem dX4_takeWord_6 : decode cX4_takeWord 6 = .ok (.istore_n 2, 1) := by decide +kernel
theorem dX4_takeWord_7 : decode cX4_takeWord 7 = .ok (.aload_n 0, 1) := by decide +kernel
theorem dX4_takeWord_8 : decode cX4_takeWord 8 = .ok (.dup, 1) := by decide +kernel
theorem dX4_takeWord_9 : decode cX4_takeWord 9 = .ok (.getfield 44, 3) := by decide +kernel
theorem dX4_takeWord_12 : decode cX4_takeWord 12 = .ok (.iload_n 2, 1) := by decide +kernel
theorem dX4_takeWord_13 : decode cX4_takeWord 13 = .ok (.ifCond .eq 7, 3) := by decide +kernel
theorem dX4_takeWord_16 : decode cX4_takeWord 16 = .ok (.iconst 1, 1) := by decide +kernel
theorem dX4_takeWord_17 : decode cX4_takeWord 17 = .ok (.goto 4, 3) := by decide +kernel
theorem dX4_takeWord_20 : decode cX4_takeWord 20 = .ok (.iconst 0, 1) := by decide +kernel
theorem dX4_takeWord_21 : decode cX4_takeWord 21 = .ok (.iadd, 1) := by decide +kernel
theorem dX4_takeWord_22 : decode cX4_takeWord 22 = .ok (.putfield 44, 3) := by decide +kernel
theorem dX4_takeWord_25 : decode cX4_takeWord 25 = .ok (.iload_n 2, 1) := by decide +kernel
theorem dX4_takeWord_26 : decode cX4_takeWord 26 = .ok (.ireturn, 1) := by decide +kernel
theorem dX4_takeNumber_0 : decode cX4_takeNumber 0 = .ok (.aload_n 0, 1) := by decide +kernel
theorem dX4_takeNumber_1 : decode cX4_takeNumber 1 = .ok (.iconst 3, 1) := by decide +kernel
theorem dX4_takeNumber_2 : decode cX4_takeNumber 2 = .ok (.invokevirtual 66, 3) := by decide +kernel
theorem dX4_takeNumber_5 : decode cX4_takeNumber 5 = .ok (.ifCond .eq 23, 3) := by decide +kernel
theorem dX4_takeNumber_8 : decode cX4_takeNumber 8 = .ok (.aload_n 0, 1) := by decide +kernel
theorem dX4_takeNumber_9 : decode cX4_takeNumber 9 = .ok (.invokevirtual 202, 3) := by decide +kernel
theorem dX4_takeNumber_12 : decode cX4_takeNumber 12 = .ok (.iload_n 1, 1) := by decide +kernel
theorem dX4_takeNumber_13 : decode cX4_takeNumber 13 = .ok (.i2l, 1) := by decide +kernel
theorem dX4_takeNumber_14 : decode cX4_takeNumber 14 = .ok (.lcmp, 1) := by decide +kernel
theorem dX4_takeNumber_15 : decode cX4_takeNumber 15 = .ok (.ifCond .lt 13, 3) := by decide +kernel
theorem dX4_takeNumber_18 : decode cX4_takeNumber 18 = .ok (.aload_n 0, 1) := by decide +kernel
theorem dX4_takeNumber_19 : decode cX4_takeNumber 19 = .ok (.invokevirtual 202, 3) := by decide +kernel
theorem dX4_takeNumber_22 : decode cX4_takeNumber 22 = .ok (.iload_n 2, 1) := by decide +kernel
theorem dX4_takeNumber_23 : decode cX4_takeNumber 23 = .ok (.i2l, 1) := by decide +kernel
theorem dX4_takeNumber_24 : decode cX4_takeNumber 24 = .ok (.lcmp, 1) := by decide +kernel
theorem dX4_takeNumber_25 : decode cX4_takeNumber 25 = .ok (.ifCond .le 5, 3) := by decide +kernel
theorem dX4_takeNumber_28 : decode cX4_takeNumber 28 = .ok (.iconst 0, 1) := by decide +kernel
theorem dX4_takeNumber_29 : decode cX4_takeNumber 29 = .ok (.ireturn, 1) := by decide +kernel
theorem dX4_takeNumber_30 : decode cX4_takeNumber 30 = .ok (.aload_n 0, 1) := by decide +kernel
theorem dX4_takeNumber_31 : decode cX4_takeNumber 31 = .ok (.aload_n 0, 1) := by decide +kernel
theorem dX4_takeNumber_32 : decode cX4_takeNumber 32 = .ok (.invokevirtual 202, 3) := by decide +kernel
theorem dX4_takeNumber_35 : decode cX4_takeNumber 35 = .ok (.l2i, 1) := by decide +kernel
theorem dX4_takeNumber_36 : decode cX4_takeNumber 36 = .ok (.putfield 48, 3) := by decide +kernel
theorem dX4_takeNumber_39 : decode cX4_takeNumber 39 = .ok (.aload_n 0, 1) := by decide +kernel
theorem dX4_takeNumber_40 : decode cX4_takeNumber 40 = .ok (.dup, 1) := by decide +kernel
theorem dX4_takeNumber_41 : decode cX4_takeNumber 41 = .ok (.getfield 44, 3) := by decide +kernel
theorem dX4_takeNumber_44 : decode cX4_takeNumber 44 = .ok (.iconst 1, 1) := by decide +kernel
theorem dX4_takeNumber_45 : decode cX4_takeNumber 45 = .ok (.iadd, 1) := by decide +kernel
theorem dX4_takeNumber_46 : decode cX4_takeNumber 46 = .ok (.putfield 44, 3) := by decide +kernel
theorem dX4_takeNumber_49 : decode cX4_takeNumber 49 = .ok (.iconst 1, 1) := by decide +kernel
theorem dX4_takeNumber_50 : decode cX4_takeNumber 50 = .ok (.ireturn, 1) := by decide +kernel
theorem dX4_takeSign_0 : decode cX4_takeSign 0 = .ok (.aload_n 0, 1) := by decide +kernel
theorem dX4_takeSign_1 : decode cX4_takeSign 1 = .ok (.iconst 4, 1) := by decide +kernel
theorem dX4_takeSign_2 : decode cX4_takeSign 2 = .ok (.iload_n 1, 1) := by decide +kernel
theorem dX4_takeSign_3 : decode cX4_takeSign 3 = .ok (.invokevirtual 206, 3) := by decide +kernel
theorem dX4_takeSign_6 : decode cX4_takeSign 6 = .ok (.istore_n 2, 1) := by decide +kernel
theorem dX4_takeSign_7 : decode cX4_takeSign 7 = .ok (.aload_n 0, 1) := by decide +kernel
theorem dX4_takeSign_8 : decode cX4_takeSign 8 = .ok (.dup, 1) := by decide +kernel
theorem dX4_takeSign_9 : decode cX4_takeSign 9 = .ok (.getfield 44, 3) := by decide +kernel
theorem dX4_takeSign_12 : decode cX4_takeSign 12 = .ok (.iload_n 2, 1) := by decide +kernel
theorem dX4_takeSign_13 : decode cX4_takeSign 13 = .ok (.ifCond .eq 7, 3) := by decide +kernel
theorem dX4_takeSign_16 : decode cX4_takeSign 16 = .ok (.iconst 1, 1) := by decide +kernel
theorem dX4_takeSign_17 : decode cX4_takeSign 17 = .ok (.goto 4, 3) := by decide +kernel
theorem dX4_takeSign_20 : decode cX4_takeSign 20 = .ok (.iconst 0, 1) := by decide +kernel
theorem dX4_takeSign_21 : decode cX4_takeSign 21 = .ok (.iadd, 1) := by decide +kernel
theorem dX4_takeSign_22 : decode cX4_takeSign 22 = .ok (.putfield 44, 3) := by decide +kernel
theorem dX4_takeSign_25 : decode cX4_takeSign 25 = .ok (.iload_n 2, 1) := by decide +kernel
theorem dX4_takeSign_26 : decode cX4_takeSign 26 = .ok (.ireturn, 1) := by decide +kernel
theorem dX4_endOf_0 : decode cX4_endOf 0 = .ok (.aload_n 0, 1) := by decide +kernel
theorem dX4_endOf_1 : decode cX4_endOf 1 = .ok (.bipush 59, 2) := by decide +kernel
theorem dX4_endOf_3 : decode cX4_endOf 3 = .ok (.invokevirtual 176, 3) := by decide +kernel
theorem dX4_endOf_6 : decode cX4_endOf 6 = .ok (.ifCond .ne 5, 3) := by decide +kernel
theorem dX4_endOf_9 : decode cX4_endOf 9 = .ok (.iconst 0, 1) := by decide +kernel
theorem dX4_endOf_10 : decode cX4_endOf 10 = .ok (.ireturn, 1) := by decide +kernel
theorem dX4_endOf_11 : decode cX4_endOf 11 = .ok (.aload_n 0, 1) := by decide +kernel
theorem dX4_endOf_12 : decode cX4_endOf 12 = .ok (.getfield 40, 3) := by decide +kernel
theorem dX4_endOf_15 : decode cX4_endOf 15 = .ok (.iload_n 1, 1) := by decide +kernel
theorem dX4_endOf_16 : decode cX4_endOf 16 = .ok (.iload_n 2, 1) := by decide +kernel
theorem dX4_endOf_17 : decode cX4_endOf 17 = .ok (.iload_n 3, 1) := by decide +kernel
theorem dX4_endOf_18 : decode cX4_endOf 18 = .ok (.iload 4, 2) := by decide +kernel
theorem dX4_endOf_20 : decode cX4_endOf 20 = .ok (.invokevirtual 179, 3) := by decide +kernel
theorem dX4_endOf_23 : decode cX4_endOf 23 = .ok (.iconst 1, 1) := by decide +kernel
theorem dX4_endOf_24 : decode cX4_endOf 24 = .ok (.ireturn, 1) := by decide +kernel
theorem dX4_roomText_0 : decode cX4_roomText 0 = .ok (.aload_n 0, 1) := by decide +kernel
theorem dX4_roomText_1 : decode cX4_roomText 1 = .ok (.dup, 1) := by decide +kernel
theorem dX4_roomText_2 : decode cX4_roomText 2 = .ok (.getfield 44, 3) := by decide +kernel
theorem dX4_roomText_5 : decode cX4_roomText 5 = .ok (.iconst 1, 1) := by decide +kernel
theorem dX4_roomText_6 : decode cX4_roomText 6 = .ok (.iadd, 1) := by decide +kernel
theorem dX4_roomText_7 : decode cX4_roomText 7 = .ok (.putfield 44, 3) := by decide +kernel
theorem dX4_roomText_10 : decode cX4_roomText 10 = .ok (.aload_n 0, 1) := by decide +kernel
theorem dX4_roomText_11 : decode cX4_roomText 11 = .ok (.invokevirtual 149, 3) := by decide +kernel
theorem dX4_roomText_14 : decode cX4_roomText 14 = .ok (.ifCond .ne 5, 3) := by decide +kernel
theorem dX4_roomText_17 : decode cX4_roomText 17 = .ok (.iconst 0, 1) := by decide +kernel
theorem dX4_roomText_18 : decode cX4_roomText 18 = .ok (.ireturn, 1) := by decide +kernel
theorem dX4_roomText_19 : decode cX4_roomText 19 = .ok (.aload_n 0, 1) := by decide +kernel
theorem dX4_roomText_20 : decode cX4_roomText 20 = .ok (.getfield 48, 3) := by decide +kernel
theorem dX4_roomText_23 : decode cX4_roomText 23 = .ok (.istore_n 1, 1) := by decide +kernel
theorem dX4_roomText_24 : decode cX4_roomText 24 = .ok (.aload_n 0, 1) := by decide +kernel
theorem dX4_roomText_25 : decode cX4_roomText 25 = .ok (.bipush 14, 2) := by decide +kernel
theorem dX4_roomText_27 : decode cX4_roomText 27 = .ok (.invokevirtual 152, 3) := by decide +kernel
theorem dX4_roomText_30 : decode cX4_roomText 30 = .ok (.ifCond .eq 13, 3) := by decide +kernel
theorem dX4_roomText_33 : decode cX4_roomText 33 = .ok (.aload_n 0, 1) := by decide +kernel
theorem dX4_roomText_34 : decode cX4_roomText 34 = .ok (.iconst 0, 1) := by decide +kernel
theorem dX4_roomText_35 : decode cX4_roomText 35 = .ok (.ldc 142, 2) := by decide +kernel
theorem dX4_roomText_37 : decode cX4_roomText 37 = .ok (.invokevirtual 155, 3) := by decide +kernel
theorem dX4_roomText_40 : decode cX4_roomText 40 = .ok (.ifCond .ne 5, 3) := by decide +kernel
theorem dX4_roomText_43 : decode cX4_roomText 43 = .ok (.iconst 0, 1) := by decide +kernel
theorem dX4_roomText_44 : decode cX4_roomText 44 = .ok (.ireturn, 1) := by decide +kernel
theorem dX4_roomText_45 : decode cX4_roomText 45 = .ok (.aload_n 0, 1) := by decide +kernel
theorem dX4_roomText_46 : decode cX4_roomText 46 = .ok (.getfield 48, 3) := by decide +kernel
theorem dX4_roomText_49 : decode cX4_roomText 49 = .ok (.istore_n 2, 1) := by decide +kernel
theorem dX4_roomText_50 : decode cX4_roomText 50 = .ok (.iconst 0, 1) := by decide +kernel
theorem dX4_roomText_51 : decode cX4_roomText 51 = .ok (.istore_n 3, 1) := by decide +kernel
theorem dX4_roomText_52 : decode cX4_roomText 52 = .ok (.aload_n 0, 1) := by decide +kernel
theorem dX4_roomText_53 : decode cX4_roomText 53 = .ok (.bipush 15, 2) := by decide +kernel
theorem dX4_roomText_55 : decode cX4_roomText 55 = .ok (.invokevirtual 152, 3) := by decide +kernel
theorem dX4_roomText_58 : decode cX4_roomText 58 = .ok (.ifCond .eq 20, 3) := by decide +kernel
theorem dX4_roomText_61 : decode cX4_roomText 61 = .ok (.aload_n 0, 1) := by decide +kernel
theorem dX4_roomText_62 : decode cX4_roomText 62 = .ok (.iconst 0, 1) := by decide +kernel
theorem dX4_roomText_63 : decode cX4_roomText 63 = .ok (.ldc 142, 2) := by decide +kernel
theorem dX4_roomText_65 : decode cX4_roomText 65 = .ok (.invokevirtual 155, 3) := by decide +kernel
theorem dX4_roomText_68 : decode cX4_roomText 68 = .ok (.ifCond .ne 5, 3) := by decide +kernel
theorem dX4_roomText_71 : decode cX4_roomText 71 = .ok (.iconst 0, 1) := by decide +kernel
theorem dX4_roomText_72 : decode cX4_roomText 72 = .ok (.ireturn, 1) := by decide +kernel
theorem dX4_roomText_73 : decode cX4_roomText 73 = .ok (.aload_n 0, 1) := by decide +kernel
theorem dX4_roomText_74 : decode cX4_roomText 74 = .ok (.getfield 48, 3) := by decide +kernel
theorem dX4_roomText_77 : decode cX4_roomText 77 = .ok (.istore_n 3, 1) := by decide +kernel
theorem dX4_roomText_78 : decode cX4_roomText 78 = .ok (.aload_n 0, 1) := by decide +kernel
theorem dX4_roomText_79 : decode cX4_roomText 79 = .ok (.iconst 0, 1) := by decide +kernel
theorem dX4_roomText_80 : decode cX4_roomText 80 = .ok (.iload_n 1, 1) := by decide +kernel
theorem dX4_roomText_81 : decode cX4_roomText 81 = .ok (.iload_n 2, 1) := by decide +kernel
theorem dX4_roomText_82 : decode cX4_roomText 82 = .ok (.iload_n 3, 1) := by decide +kernel
theorem dX4_roomText_83 : decode cX4_roomText 83 = .ok (.invokevirtual 158, 3) := by decide +kernel
theorem dX4_roomText_86 : decode cX4_roomText 86 = .ok (.ireturn, 1) := by decide +kernel
theorem dX4_takeToldName_0 : decode cX4_takeToldName 0 = .ok (.aload_n 0, 1) := by decide +kernel
theorem dX4_takeToldName_1 : decode cX4_takeToldName 1 = .ok (.iconst 2, 1) := by decide +kernel
theorem dX4_takeToldName_2 : decode cX4_takeToldName 2 = .ok (.invokevirtual 66, 3) := by decide +kernel
theorem dX4_takeToldName_5 : decode cX4_takeToldName 5 = .ok (.ifCond .eq 17, 3) := by decide +kernel
theorem dX4_takeToldName_8 : decode cX4_takeToldName 8 = .ok (.aload_n 0, 1) := by decide +kernel
theorem dX4_takeToldName_9 : decode cX4_takeToldName 9 = .ok (.getfield 55, 3) := by decide +kernel
theorem dX4_takeToldName_12 : decode cX4_takeToldName 12 = .ok (.aload_n 0, 1) := by decide +kernel
theorem dX4_takeToldName_13 : decode cX4_takeToldName 13 = .ok (.invokevirtual 202, 3) := by decide +kernel
theorem dX4_takeToldName_16 : decode cX4_takeToldName 16 = .ok (.invokevirtual 209, 3) := by decide +kernel
theorem dX4_takeToldName_19 : decode cX4_takeToldName 19 = .ok (.goto 4, 3) := by decide +kernel
theorem dX4_takeToldName_22 : decode cX4_takeToldName 22 = .ok (.iconst (-1), 1) := by decide +kernel
theorem dX4_takeToldName_23 : decode cX4_takeToldName 23 = .ok (.istore_n 1, 1) := by decide +kernel
theorem dX4_takeToldName_24 : decode cX4_takeToldName 24 = .ok (.iload_n 1, 1) := by decide +kernel
theorem dX4_takeToldName_25 : decode cX4_takeToldName 25 = .ok (.iconst 1, 1) := by decide +kernel
theorem dX4_takeToldName_26 : decode cX4_takeToldName 26 = .ok (.if_icmp .lt 21, 3) := by decide +kernel
theorem dX4_takeToldName_29 : decode cX4_takeToldName 29 = .ok (.iload_n 1, 1) := by decide +kernel
theorem dX4_takeToldName_30 : decode cX4_takeToldName 30 = .ok (.aload_n 0, 1) := by decide +kernel
theorem dX4_takeToldName_31 : decode cX4_takeToldName 31 = .ok (.getfield 31, 3) := by decide +kernel
theorem dX4_takeToldName_34 : decode cX4_takeToldName 34 = .ok (.arraylength, 1) := by decide +kernel
theorem dX4_takeToldName_35 : decode cX4_takeToldName 35 = .ok (.if_icmp .ge 12, 3) := by decide +kernel
theorem dX4_takeToldName_38 : decode cX4_takeToldName 38 = .ok (.aload_n 0, 1) := by decide +kernel
theorem dX4_takeToldName_39 : decode cX4_takeToldName 39 = .ok (.getfield 31, 3) := by decide +kernel
theorem dX4_takeToldName_42 : decode cX4_takeToldName 42 = .ok (.iload_n 1, 1) := by decide +kernel
theorem dX4_takeToldName_43 : decode cX4_takeToldName 43 = .ok (.baload, 1) := by decide +kernel
theorem dX4_takeToldName_44 : decode cX4_takeToldName 44 = .ok (.ifCond .ne 5, 3) := by decide +kernel
theorem dX4_takeToldName_47 : decode cX4_takeToldName 47 = .ok (.iconst 0, 1) := by decide +kernel
theorem dX4_takeToldName_48 : decode cX4_takeToldName 48 = .ok (.ireturn, 1) := by decide +kernel
theorem dX4_takeToldName_49 : decode cX4_takeToldName 49 = .ok (.aload_n 0, 1) := by decide +kernel
theorem dX4_takeToldName_50 : decode cX4_takeToldName 50 = .ok (.iload_n 1, 1) := by decide +kernel
theorem dX4_takeToldName_51 : decode cX4_takeToldName 51 = .ok (.putfield 48, 3) := by decide +kernel
theorem dX4_takeToldName_54 : decode cX4_takeToldName 54 = .ok (.aload_n 0, 1) := by decide +kernel
theorem dX4_takeToldName_55 : decode cX4_takeToldName 55 = .ok (.dup, 1) := by decide +kernel
theorem dX4_takeToldName_56 : decode cX4_takeToldName 56 = .ok (.getfield 44, 3) := by decide +kernel
theorem dX4_takeToldName_59 : decode cX4_takeToldName 59 = .ok (.iconst 1, 1) := by decide +kernel
theorem dX4_takeToldName_60 : decode cX4_takeToldName 60 = .ok (.iadd, 1) := by decide +kernel
theorem dX4_takeToldName_61 : decode cX4_takeToldName 61 = .ok (.putfield 44, 3) := by decide +kernel
theorem dX4_takeToldName_64 : decode cX4_takeToldName 64 = .ok (.iconst 1, 1) := by decide +kernel
theorem dX4_takeToldName_65 : decode cX4_takeToldName 65 = .ok (.ireturn, 1) := by decide +kernel
theorem dX4_pairText_0 : decode cX4_pairText 0 = .ok (.aload_n 0, 1) := by decide +kernel
theorem dX4_pairText_1 : decode cX4_pairText 1 = .ok (.dup, 1) := by decide +kernel
theorem dX4_pairText_2 : decode cX4_pairText 2 = .ok (.getfield 44, 3) := by decide +kernel
theorem dX4_pairText_5 : decode cX4_pairText 5 = .ok (.iconst 1, 1) := by decide +kernel
theorem dX4_pairText_6 : decode cX4_pairText 6 = .ok (.iadd, 1) := by decide +kernel
theorem dX4_pairText_7 : decode cX4_pairText 7 = .ok (.putfield 44, 3) := by decide +kernel
theorem dX4_pairText_10 : decode cX4_pairText 10 = .ok (.aload_n 0, 1) := by decide +kernel
theorem dX4_pairText_11 : decode cX4_pairText 11 = .ok (.invokevirtual 161, 3) := by decide +kernel
theorem dX4_pairText_14 : decode cX4_pairText 14 = .ok (.ifCond .ne 5, 3) := by decide +kernel
theorem dX4_pairText_17 : decode cX4_pairText 17 = .ok (.iconst 0, 1) := by decide +kernel
theorem dX4_pairText_18 : decode cX4_pairText 18 = .ok (.ireturn, 1) := by decide +kernel
theorem dX4_pairText_19 : decode cX4_pairText 19 = .ok (.aload_n 0, 1) := by decide +kernel
theorem dX4_pairText_20 : decode cX4_pairText 20 = .ok (.getfield 48, 3) := by decide +kernel
theorem dX4_pairText_23 : decode cX4_pairText 23 = .ok (.istore_n 3, 1) := by decide +kernel
theorem dX4_pairText_24 : decode cX4_pairText 24 = .ok (.aload_n 0, 1) := by decide +kernel
theorem dX4_pairText_25 : decode cX4_pairText 25 = .ok (.invokevirtual 161, 3) := by decide +kernel
theorem dX4_pairText_28 : decode cX4_pairText 28 = .ok (.ifCond .ne 5, 3) := by decide +kernel
theorem dX4_pairText_31 : decode cX4_pairText 31 = .ok (.iconst 0, 1) := by decide +kernel
theorem dX4_pairText_32 : decode cX4_pairText 32 = .ok (.ireturn, 1) := by decide +kernel
theorem dX4_pairText_33 : decode cX4_pairText 33 = .ok (.aload_n 0, 1) := by decide +kernel
theorem dX4_pairText_34 : decode cX4_pairText 34 = .ok (.getfield 48, 3) := by decide +kernel
theorem dX4_pairText_37 : decode cX4_pairText 37 = .ok (.istore 4, 2) := by decide +kernel
theorem dX4_pairText_39 : decode cX4_pairText 39 = .ok (.aload_n 0, 1) := by decide +kernel
theorem dX4_pairText_40 : decode cX4_pairText 40 = .ok (.iload_n 2, 1) := by decide +kernel
theorem dX4_pairText_41 : decode cX4_pairText 41 = .ok (.invokevirtual 152, 3) := by decide +kernel
theorem dX4_pairText_44 : decode cX4_pairText 44 = .ok (.ifCond .eq 13, 3) := by decide +kernel
theorem dX4_pairText_47 : decode cX4_pairText 47 = .ok (.aload_n 0, 1) := by decide +kernel
theorem dX4_pairText_48 : decode cX4_pairText 48 = .ok (.iconst 0, 1) := by decide +kernel
theorem dX4_pairText_49 : decode cX4_pairText 49 = .ok (.ldc 142, 2) := by decide +kernel
theorem dX4_pairText_51 : decode cX4_pairText 51 = .ok (.invokevirtual 155, 3) := by decide +kernel
theorem dX4_pairText_54 : decode cX4_pairText 54 = .ok (.ifCond .ne 5, 3) := by decide +kernel
theorem dX4_pairText_57 : decode cX4_pairText 57 = .ok (.iconst 0, 1) := by decide +kernel
theorem dX4_pairText_58 : decode cX4_pairText 58 = .ok (.ireturn, 1) := by decide +kernel
theorem dX4_pairText_59 : decode cX4_pairText 59 = .ok (.aload_n 0, 1) := by decide +kernel
theorem dX4_pairText_60 : decode cX4_pairText 60 = .ok (.iload_n 1, 1) := by decide +kernel
theorem dX4_pairText_61 : decode cX4_pairText 61 = .ok (.iload_n 3, 1) := by decide +kernel
theorem dX4_pairText_62 : decode cX4_pairText 62 = .ok (.iload 4, 2) := by decide +kernel
theorem dX4_pairText_64 : decode cX4_pairText 64 = .ok (.aload_n 0, 1) := by decide +kernel
theorem dX4_pairText_65 : decode cX4_pairText 65 = .ok (.getfield 48, 3) := by decide +kernel
theorem dX4_pairText_68 : decode cX4_pairText 68 = .ok (.invokevirtual 158, 3) := by decide +kernel
theorem dX4_pairText_71 : decode cX4_pairText 71 = .ok (.ireturn, 1) := by decide +kernel
theorem dX4_rateText_0 : decode cX4_rateText 0 = .ok (.aload_n 0, 1) := by decide +kernel
theorem dX4_rateText_1 : decode cX4_rateText 1 = .ok (.dup, 1) := by decide +kernel
theorem dX4_rateText_2 : decode cX4_rateText 2 = .ok (.getfield 44, 3) := by decide +kernel
theorem dX4_rateText_5 : decode cX4_rateText 5 = .ok (.iconst 1, 1) := by decide +kernel
theorem dX4_rateText_6 : decode cX4_rateText 6 = .ok (.iadd, 1) := by decide +kernel
theorem dX4_rateText_7 : decode cX4_rateText 7 = .ok (.putfield 44, 3) := by decide +kernel
theorem dX4_rateText_10 : decode cX4_rateText 10 = .ok (.aload_n 0, 1) := by decide +kernel
theorem dX4_rateText_11 : decode cX4_rateText 11 = .ok (.invokevirtual 161, 3) := by decide +kernel
theorem dX4_rateText_14 : decode cX4_rateText 14 = .ok (.ifCond .ne 5, 3) := by decide +kernel
theorem dX4_rateText_17 : decode cX4_rateText 17 = .ok (.iconst 0, 1) := by decide +kernel
theorem dX4_rateText_18 : decode cX4_rateText 18 = .ok (.ireturn, 1) := by decide +kernel
theorem dX4_rateText_19 : decode cX4_rateText 19 = .ok (.aload_n 0, 1) := by decide +kernel
theorem dX4_rateText_20 : decode cX4_rateText 20 = .ok (.getfield 48, 3) := by decide +kernel
theorem dX4_rateText_23 : decode cX4_rateText 23 = .ok (.istore_n 1, 1) := by decide +kernel
theorem dX4_rateText_24 : decode cX4_rateText 24 = .ok (.aload_n 0, 1) := by decide +kernel
theorem dX4_rateText_25 : decode cX4_rateText 25 = .ok (.iconst 0, 1) := by decide +kernel
theorem dX4_rateText_26 : decode cX4_rateText 26 = .ok (.sipush 9999, 3) := by decide +kernel
theorem dX4_rateText_29 : decode cX4_rateText 29 = .ok (.invokevirtual 155, 3) := by decide +kernel
theorem dX4_rateText_32 : decode cX4_rateText 32 = .ok (.ifCond .ne 5, 3) := by decide +kernel
theorem dX4_rateText_35 : decode cX4_rateText 35 = .ok (.iconst 0, 1) := by decide +kernel
theorem dX4_rateText_36 : decode cX4_rateText 36 = .ok (.ireturn, 1) := by decide +kernel
theorem dX4_rateText_37 : decode cX4_rateText 37 = .ok (.aload_n 0, 1) := by decide +kernel
theorem dX4_rateText_38 : decode cX4_rateText 38 = .ok (.getfield 40, 3) := by decide +kernel
theorem dX4_rateText_41 : decode cX4_rateText 41 = .ok (.iload_n 1, 1) := by decide +kernel
theorem dX4_rateText_42 : decode cX4_rateText 42 = .ok (.aload_n 0, 1) := by decide +kernel
theorem dX4_rateText_43 : decode cX4_rateText 43 = .ok (.getfield 48, 3) := by decide +kernel
theorem dX4_rateText_46 : decode cX4_rateText 46 = .ok (.invokevirtual 164, 3) := by decide +kernel
theorem dX4_rateText_49 : decode cX4_rateText 49 = .ok (.aload_n 0, 1) := by decide +kernel
theorem dX4_rateText_50 : decode cX4_rateText 50 = .ok (.iconst 3, 1) := by decide +kernel
theorem dX4_rateText_51 : decode cX4_rateText 51 = .ok (.iconst 0, 1) := by decide +kernel
theorem dX4_rateText_52 : decode cX4_rateText 52 = .ok (.iconst 0, 1) := by decide +kernel
theorem dX4_rateText_53 : decode cX4_rateText 53 = .ok (.iconst 0, 1) := by decide +kernel
theorem dX4_rateText_54 : decode cX4_rateText 54 = .ok (.invokevirtual 158, 3) := by decide +kernel
theorem dX4_rateText_57 : decode cX4_rateText 57 = .ok (.ireturn, 1) := by decide +kernel
theorem dX4_termText_0 : decode cX4_termText 0 = .ok (.aload_n 0, 1) := by decide +kernel
theorem dX4_termText_1 : decode cX4_termText 1 = .ok (.dup, 1) := by decide +kernel
theorem dX4_termText_2 : decode cX4_termText 2 = .ok (.getfield 44, 3) := by decide +kernel
theorem dX4_termText_5 : decode cX4_termText 5 = .ok (.iconst 1, 1) := by decide +kernel
theorem dX4_termText_6 : decode cX4_termText 6 = .ok (.iadd, 1) := by decide +kernel
theorem dX4_termText_7 : decode cX4_termText 7 = .ok (.putfield 44, 3) := by decide +kernel
theorem dX4_termText_10 : decode cX4_termText 10 = .ok (.aload_n 0, 1) := by decide +kernel
theorem dX4_termText_11 : decode cX4_termText 11 = .ok (.iload_n 3, 1) := by decide +kernel
theorem dX4_termText_12 : decode cX4_termText 12 = .ok (.iload 4, 2) := by decide +kernel
theorem dX4_termText_14 : decode cX4_termText 14 = .ok (.invokevirtual 155, 3) := by decide +kernel
theorem dX4_termText_17 : decode cX4_termText 17 = .ok (.ifCond .ne 5, 3) := by decide +kernel
theorem dX4_termText_20 : decode cX4_termText 20 = .ok (.iconst 0, 1) := by decide +kernel
theorem dX4_termText_21 : decode cX4_termText 21 = .ok (.ireturn, 1) := by decide +kernel
theorem dX4_termText_22 : decode cX4_termText 22 = .ok (.aload_n 0, 1) := by decide +kernel
theorem dX4_termText_23 : decode cX4_termText 23 = .ok (.getfield 40, 3) := by decide +kernel
theorem dX4_termText_26 : decode cX4_termText 26 = .ok (.iload_n 2, 1) := by decide +kernel
theorem dX4_termText_27 : decode cX4_termText 27 = .ok (.aload_n 0, 1) := by decide +kernel
theorem dX4_termText_28 : decode cX4_termText 28 = .ok (.getfield 48, 3) := by decide +kernel
theorem dX4_termText_31 : decode cX4_termText 31 = .ok (.invokevirtual 167, 3) := by decide +kernel
theorem dX4_termText_34 : decode cX4_termText 34 = .ok (.aload_n 0, 1) := by decide +kernel
theorem dX4_termText_35 : decode cX4_termText 35 = .ok (.iload_n 1, 1) := by decide +kernel
theorem dX4_termText_36 : decode cX4_termText 36 = .ok (.iconst 0, 1) := by decide +kernel
theorem dX4_termText_37 : decode cX4_termText 37 = .ok (.iconst 0, 1) := by decide +kernel
theorem dX4_termText_38 : decode cX4_termText 38 = .ok (.iconst 0, 1) := by decide +kernel
theorem dX4_termText_39 : decode cX4_termText 39 = .ok (.invokevirtual 158, 3) := by decide +kernel
theorem dX4_termText_42 : decode cX4_termText 42 = .ok (.ireturn, 1) := by decide +kernel
theorem dX4_costText_0 : decode cX4_costText 0 = .ok (.aload_n 0, 1) := by decide +kernel
theorem dX4_costText_1 : decode cX4_costText 1 = .ok (.dup, 1) := by decide +kernel
theorem dX4_costText_2 : decode cX4_costText 2 = .ok (.getfield 44, 3) := by decide +kernel
theorem dX4_costText_5 : decode cX4_costText 5 = .ok (.iconst 1, 1) := by decide +kernel
theorem dX4_costText_6 : decode cX4_costText 6 = .ok (.iadd, 1) := by decide +kernel
theorem dX4_costText_7 : decode cX4_costText 7 = .ok (.putfield 44, 3) := by decide +kernel
theorem dX4_costText_10 : decode cX4_costText 10 = .ok (.aload_n 0, 1) := by decide +kernel
theorem dX4_costText_11 : decode cX4_costText 11 = .ok (.bipush 18, 2) := by decide +kernel
theorem dX4_costText_13 : decode cX4_costText 13 = .ok (.invokevirtual 152, 3) := by decide +kernel
theorem dX4_costText_16 : decode cX4_costText 16 = .ok (.ifCond .eq 13, 3) := by decide +kernel
theorem dX4_costText_19 : decode cX4_costText 19 = .ok (.aload_n 0, 1) := by decide +kernel
theorem dX4_costText_20 : decode cX4_costText 20 = .ok (.iconst 0, 1) := by decide +kernel
theorem dX4_costText_21 : decode cX4_costText 21 = .ok (.ldc 142, 2) := by decide +kernel
theorem dX4_costText_23 : decode cX4_costText 23 = .ok (.invokevirtual 155, 3) := by decide +kernel
theorem dX4_costText_26 : decode cX4_costText 26 = .ok (.ifCond .ne 5, 3) := by decide +kernel
theorem dX4_costText_29 : decode cX4_costText 29 = .ok (.iconst 0, 1) := by decide +kernel
theorem dX4_costText_30 : decode cX4_costText 30 = .ok (.ireturn, 1) := by decide +kernel
theorem dX4_costText_31 : decode cX4_costText 31 = .ok (.aload_n 0, 1) := by decide +kernel
theorem dX4_costText_32 : decode cX4_costText 32 = .ok (.getfield 48, 3) := by decide +kernel
theorem dX4_costText_35 : decode cX4_costText 35 = .ok (.istore_n 1, 1) := by decide +kernel
theorem dX4_costText_36 : decode cX4_costText 36 = .ok (.aload_n 0, 1) := by decide +kernel
theorem dX4_costText_37 : decode cX4_costText 37 = .ok (.bipush 19, 2) := by decide +kernel
theorem dX4_costText_39 : decode cX4_costText 39 = .ok (.invokevirtual 152, 3) := by decide +kernel
theorem dX4_costText_42 : decode cX4_costText 42 = .ok (.ifCond .eq 27, 3) := by decide +kernel
theorem dX4_costText_45 : decode cX4_costText 45 = .ok (.aload_n 0, 1) := by decide +kernel
theorem dX4_costText_46 : decode cX4_costText 46 = .ok (.iconst 0, 1) := by decide +kernel
theorem dX4_costText_47 : decode cX4_costText 47 = .ok (.bipush 50, 2) := by decide +kernel
theorem dX4_costText_49 : decode cX4_costText 49 = .ok (.invokevirtual 155, 3) := by decide +kernel
theorem dX4_costText_52 : decode cX4_costText 52 = .ok (.ifCond .ne 5, 3) := by decide +kernel
theorem dX4_costText_55 : decode cX4_costText 55 = .ok (.iconst 0, 1) := by decide +kernel
theorem dX4_costText_56 : decode cX4_costText 56 = .ok (.ireturn, 1) := by decide +kernel
theorem dX4_costText_57 : decode cX4_costText 57 = .ok (.aload_n 0, 1) := by decide +kernel
theorem dX4_costText_58 : decode cX4_costText 58 = .ok (.getfield 40, 3) := by decide +kernel
theorem dX4_costText_61 : decode cX4_costText 61 = .ok (.iconst 3, 1) := by decide +kernel
theorem dX4_costText_62 : decode cX4_costText 62 = .ok (.aload_n 0, 1) := by decide +kernel
theorem dX4_costText_63 : decode cX4_costText 63 = .ok (.getfield 48, 3) := by decide +kernel
theorem dX4_costText_66 : decode cX4_costText 66 = .ok (.invokevirtual 167, 3) := by decide +kernel
theorem dX4_costText_69 : decode cX4_costText 69 = .ok (.aload_n 0, 1) := by decide +kernel
theorem dX4_costText_70 : decode cX4_costText 70 = .ok (.bipush 7, 2) := by decide +kernel
theorem dX4_costText_72 : decode cX4_costText 72 = .ok (.iload_n 1, 1) := by decide +kernel
theorem dX4_costText_73 : decode cX4_costText 73 = .ok (.iconst 0, 1) := by decide +kernel
theorem dX4_costText_74 : decode cX4_costText 74 = .ok (.iconst 0, 1) := by decide +kernel
theorem dX4_costText_75 : decode cX4_costText 75 = .ok (.invokevirtual 158, 3) := by decide +kernel
theorem dX4_costText_78 : decode cX4_costText 78 = .ok (.ireturn, 1) := by decide +kernel
theorem dX4_isSign_0 : decode cX4_isSign 0 = .ok (.aload_n 0, 1) := by decide +kernel
theorem dX4_isSign_1 : decode cX4_isSign 1 = .ok (.iconst 4, 1) := by decide +kernel
theorem dX4_isSign_2 : decode cX4_isSign 2 = .ok (.iload_n 1, 1) := by decide +kernel
theorem dX4_isSign_3 : decode cX4_isSign 3 = .ok (.invokevirtual 206, 3) := by decide +kernel
theorem dX4_isSign_6 : decode cX4_isSign 6 = .ok (.ireturn, 1) := by decide +kernel
theorem dX4_comparison_0 : decode cX4_comparison 0 = .ok (.aload_n 0, 1) := by decide +kernel
theorem dX4_comparison_1 : decode cX4_comparison 1 = .ok (.invokevirtual 118, 3) := by decide +kernel
theorem dX4_comparison_4 : decode cX4_comparison 4 = .ok (.istore_n 1, 1) := by decide +kernel
theorem dX4_comparison_5 : decode cX4_comparison 5 = .ok (.iload_n 1, 1) := by decide +kernel
theorem dX4_comparison_6 : decode cX4_comparison 6 = .ok (.bipush 7, 2) := by decide +kernel
theorem dX4_comparison_8 : decode cX4_comparison 8 = .ok (.if_icmp .eq 17, 3) := by decide +kernel
theorem dX4_comparison_11 : decode cX4_comparison 11 = .ok (.iload_n 1, 1) := by decide +kernel
theorem dX4_comparison_12 : decode cX4_comparison 12 = .ok (.bipush 29, 2) := by decide +kernel
theorem dX4_comparison_14 : decode cX4_comparison 14 = .ok (.if_icmp .lt 9, 3) := by decide +kernel
theorem dX4_comparison_17 : decode cX4_comparison 17 = .ok (.iload_n 1, 1) := by decide +kernel
theorem dX4_comparison_18 : decode cX4_comparison 18 = .ok (.bipush 35, 2) := by decide +kernel
theorem dX4_comparison_20 : decode cX4_comparison 20 = .ok (.if_icmp .le 5, 3) := by decide +kernel
theorem dX4_comparison_23 : decode cX4_comparison 23 = .ok (.iconst 0, 1) := by decide +kernel
theorem dX4_comparison_24 : decode cX4_comparison 24 = .ok (.ireturn, 1) := by decide +kernel
theorem dX4_comparison_25 : decode cX4_comparison 25 = .ok (.aload_n 0, 1) := by decide +kernel
theorem dX4_comparison_26 : decode cX4_comparison 26 = .ok (.dup, 1) := by decide +kernel
theorem dX4_comparison_27 : decode cX4_comparison 27 = .ok (.getfield 44, 3) := by decide +kernel
theorem dX4_comparison_30 : decode cX4_comparison 30 = .ok (.iconst 1, 1) := by decide +kernel
theorem dX4_comparison_31 : decode cX4_comparison 31 = .ok (.iadd, 1) := by decide +kernel
theorem dX4_comparison_32 : decode cX4_comparison 32 = .ok (.putfield 44, 3) := by decide +kernel
theorem dX4_comparison_35 : decode cX4_comparison 35 = .ok (.bipush 61, 2) := by decide +kernel
theorem dX4_comparison_37 : decode cX4_comparison 37 = .ok (.istore_n 2, 1) := by decide +kernel
theorem dX4_comparison_38 : decode cX4_comparison 38 = .ok (.aload_n 0, 1) := by decide +kernel
theorem dX4_comparison_39 : decode cX4_comparison 39 = .ok (.bipush 60, 2) := by decide +kernel
theorem dX4_comparison_41 : decode cX4_comparison 41 = .ok (.invokevirtual 192, 3) := by decide +kernel
theorem dX4_comparison_44 : decode cX4_comparison 44 = .ok (.ifCond .eq 9, 3) := by decide +kernel
theorem dX4_comparison_47 : decode cX4_comparison 47 = .ok (.bipush 60, 2) := by decide +kernel
theorem dX4_comparison_49 : decode cX4_comparison 49 = .ok (.istore_n 2, 1) := by decide +kernel
theorem dX4_comparison_50 : decode cX4_comparison 50 = .ok (.goto 15, 3) := by decide +kernel
theorem dX4_comparison_53 : decode cX4_comparison 53 = .ok (.aload_n 0, 1) := by decide +kernel
theorem dX4_comparison_54 : decode cX4_comparison 54 = .ok (.bipush 62, 2) := by decide +kernel
theorem dX4_comparison_56 : decode cX4_comparison 56 = .ok (.invokevirtual 192, 3) := by decide +kernel
theorem dX4_comparison_59 : decode cX4_comparison 59 = .ok (.ifCond .eq 6, 3) := by decide +kernel
theorem dX4_comparison_62 : decode cX4_comparison 62 = .ok (.bipush 62, 2) := by decide +kernel
theorem dX4_comparison_64 : decode cX4_comparison 64 = .ok (.istore_n 2, 1) := by decide +kernel
theorem dX4_comparison_65 : decode cX4_comparison 65 = .ok (.aload_n 0, 1) := by decide +kernel
theorem dX4_comparison_66 : decode cX4_comparison 66 = .ok (.iload_n 2, 1) := by decide +kernel
theorem dX4_comparison_67 : decode cX4_comparison 67 = .ok (.invokevirtual 176, 3) := by decide +kernel
theorem dX4_comparison_70 : decode cX4_comparison 70 = .ok (.ifCond .eq 36, 3) := by decide +kernel
theorem dX4_comparison_73 : decode cX4_comparison 73 = .ok (.aload_n 0, 1) := by decide +kernel
theorem dX4_comparison_74 : decode cX4_comparison 74 = .ok (.iconst 0, 1) := by decide +kernel
theorem dX4_comparison_75 : decode cX4_comparison 75 = .ok (.ldc 142, 2) := by decide +kernel
theorem dX4_comparison_77 : decode cX4_comparison 77 = .ok (.invokevirtual 155, 3) := by decide +kernel
theorem dX4_comparison_80 : decode cX4_comparison 80 = .ok (.ifCond .eq 26, 3) := by decide +kernel
theorem dX4_comparison_83 : decode cX4_comparison 83 = .ok (.aload_n 0, 1) := by decide +kernel
theorem dX4_comparison_84 : decode cX4_comparison 84 = .ok (.getfield 40, 3) := by decide +kernel
theorem dX4_comparison_87 : decode cX4_comparison 87 = .ok (.iload_n 1, 1) := by decide +kernel
theorem dX4_comparison_88 : decode cX4_comparison 88 = .ok (.iload_n 2, 1) := by decide +kernel
theorem dX4_comparison_89 : decode cX4_comparison 89 = .ok (.aload_n 0, 1) := by decide +kernel
theorem dX4_comparison_90 : decode cX4_comparison 90 = .ok (.getfield 48, 3) := by decide +kernel
theorem dX4_comparison_93 : decode cX4_comparison 93 = .ok (.invokestatic 198, 3) := by decide +kernel
theorem dX4_comparison_96 : decode cX4_comparison 96 = .ok (.invokevirtual 186, 3) := by decide +kernel
theorem dX4_comparison_99 : decode cX4_comparison 99 = .ok (.ifCond .eq 7, 3) := by decide +kernel
theorem dX4_comparison_102 : decode cX4_comparison 102 = .ok (.iconst 1, 1) := by decide +kernel
theorem dX4_comparison_103 : decode cX4_comparison 103 = .ok (.goto 4, 3) := by decide +kernel
theorem dX4_comparison_106 : decode cX4_comparison 106 = .ok (.iconst 0, 1) := by decide +kernel
theorem dX4_comparison_107 : decode cX4_comparison 107 = .ok (.ireturn, 1) := by decide +kernel
theorem dX4_any_0 : decode cX4_any 0 = .ok (.aload_n 0, 1) := by decide +kernel
theorem dX4_any_1 : decode cX4_any 1 = .ok (.iload_n 1, 1) := by decide +kernel
theorem dX4_any_2 : decode cX4_any 2 = .ok (.invokevirtual 183, 3) := by decide +kernel
theorem dX4_any_5 : decode cX4_any 5 = .ok (.istore_n 2, 1) := by decide +kernel
theorem dX4_any_6 : decode cX4_any 6 = .ok (.iconst 0, 1) := by decide +kernel
theorem dX4_any_7 : decode cX4_any 7 = .ok (.istore_n 3, 1) := by decide +kernel
theorem dX4_any_8 : decode cX4_any 8 = .ok (.iload_n 3, 1) := by decide +kernel
theorem dX4_any_9 : decode cX4_any 9 = .ok (.sipush 900, 3) := by decide +kernel
theorem dX4_any_12 : decode cX4_any 12 = .ok (.if_icmp .ge 48, 3) := by decide +kernel
theorem dX4_any_15 : decode cX4_any 15 = .ok (.iload_n 2, 1) := by decide +kernel
theorem dX4_any_16 : decode cX4_any 16 = .ok (.ifCond .eq 44, 3) := by decide +kernel
theorem dX4_any_19 : decode cX4_any 19 = .ok (.aload_n 0, 1) := by decide +kernel
theorem dX4_any_20 : decode cX4_any 20 = .ok (.bipush 21, 2) := by decide +kernel
theorem dX4_any_22 : decode cX4_any 22 = .ok (.invokevirtual 152, 3) := by decide +kernel
theorem dX4_any_25 : decode cX4_any 25 = .ok (.ifCond .eq 35, 3) := by decide +kernel
theorem dX4_any_28 : decode cX4_any 28 = .ok (.aload_n 0, 1) := by decide +kernel
theorem dX4_any_29 : decode cX4_any 29 = .ok (.iload_n 1, 1) := by decide +kernel
theorem dX4_any_30 : decode cX4_any 30 = .ok (.invokevirtual 183, 3) := by decide +kernel
theorem dX4_any_33 : decode cX4_any 33 = .ok (.ifCond .eq 19, 3) := by decide +kernel
theorem dX4_any_36 : decode cX4_any 36 = .ok (.aload_n 0, 1) := by decide +kernel
theorem dX4_any_37 : decode cX4_any 37 = .ok (.getfield 40, 3) := by decide +kernel
theorem dX4_any_40 : decode cX4_any 40 = .ok (.bipush (-2), 2) := by decide +kernel
theorem dX4_any_42 : decode cX4_any 42 = .ok (.invokevirtual 186, 3) := by decide +kernel
theorem dX4_any_45 : decode cX4_any 45 = .ok (.ifCond .eq 7, 3) := by decide +kernel
theorem dX4_any_48 : decode cX4_any 48 = .ok (.iconst 1, 1) := by decide +kernel
theorem dX4_any_49 : decode cX4_any 49 = .ok (.goto 4, 3) := by decide +kernel
theorem dX4_any_52 : decode cX4_any 52 = .ok (.iconst 0, 1) := by decide +kernel
theorem dX4_any_53 : decode cX4_any 53 = .ok (.istore_n 2, 1) := by decide +kernel
theorem dX4_any_54 : decode cX4_any 54 = .ok (.iinc 3 1, 3) := by decide +kernel
theorem dX4_any_57 : decode cX4_any 57 = .ok (.goto (-49), 3) := by decide +kernel
theorem dX4_any_60 : decode cX4_any 60 = .ok (.iload_n 2, 1) := by decide +kernel
theorem dX4_any_61 : decode cX4_any 61 = .ok (.ireturn, 1) := by decide +kernel
theorem dX4_all_0 : decode cX4_all 0 = .ok (.aload_n 0, 1) := by decide +kernel
theorem dX4_all_1 : decode cX4_all 1 = .ok (.iload_n 1, 1) := by decide +kernel
theorem dX4_all_2 : decode cX4_all 2 = .ok (.invokevirtual 189, 3) := by decide +kernel
theorem dX4_all_5 : decode cX4_all 5 = .ok (.istore_n 2, 1) := by decide +kernel
theorem dX4_all_6 : decode cX4_all 6 = .ok (.iconst 0, 1) := by decide +kernel
theorem dX4_all_7 : decode cX4_all 7 = .ok (.istore_n 3, 1) := by decide +kernel
theorem dX4_all_8 : decode cX4_all 8 = .ok (.iload_n 3, 1) := by decide +kernel
theorem dX4_all_9 : decode cX4_all 9 = .ok (.sipush 900, 3) := by decide +kernel
theorem dX4_all_12 : decode cX4_all 12 = .ok (.if_icmp .ge 47, 3) := by decide +kernel
theorem dX4_all_15 : decode cX4_all 15 = .ok (.iload_n 2, 1) := by decide +kernel
theorem dX4_all_16 : decode cX4_all 16 = .ok (.ifCond .eq 43, 3) := by decide +kernel
theorem dX4_all_19 : decode cX4_all 19 = .ok (.aload_n 0, 1) := by decide +kernel
theorem dX4_all_20 : decode cX4_all 20 = .ok (.bipush 22, 2) := by decide +kernel
theorem dX4_all_22 : decode cX4_all 22 = .ok (.invokevirtual 152, 3) := by decide +kernel
theorem dX4_all_25 : decode cX4_all 25 = .ok (.ifCond .eq 34, 3) := by decide +kernel
theorem dX4_all_28 : decode cX4_all 28 = .ok (.aload_n 0, 1) := by decide +kernel
theorem dX4_all_29 : decode cX4_all 29 = .ok (.iload_n 1, 1) := by decide +kernel
theorem dX4_all_30 : decode cX4_all 30 = .ok (.invokevirtual 189, 3) := by decide +kernel
theorem dX4_all_33 : decode cX4_all 33 = .ok (.ifCond .eq 18, 3) := by decide +kernel
theorem dX4_all_36 : decode cX4_all 36 = .ok (.aload_n 0, 1) := by decide +kernel
theorem dX4_all_37 : decode cX4_all 37 = .ok (.getfield 40, 3) := by decide +kernel
theorem dX4_all_40 : decode cX4_all 40 = .ok (.iconst (-1), 1) := by decide +kernel
theorem dX4_all_41 : decode cX4_all 41 = .ok (.invokevirtual 186, 3) := by decide +kernel
theorem dX4_all_44 : decode cX4_all 44 = .ok (.ifCond .eq 7, 3) := by decide +kernel
theorem dX4_all_47 : decode cX4_all 47 = .ok (.iconst 1, 1) := by decide +kernel
theorem dX4_all_48 : decode cX4_all 48 = .ok (.goto 4, 3) := by decide +kernel
theorem dX4_all_51 : decode cX4_all 51 = .ok (.iconst 0, 1) := by decide +kernel
theorem dX4_all_52 : decode cX4_all 52 = .ok (.istore_n 2, 1) := by decide +kernel
theorem dX4_all_53 : decode cX4_all 53 = .ok (.iinc 3 1, 3) := by decide +kernel
theorem dX4_all_56 : decode cX4_all 56 = .ok (.goto (-48), 3) := by decide +kernel
theorem dX4_all_59 : decode cX4_all 59 = .ok (.iload_n 2, 1) := by decide +kernel
theorem dX4_all_60 : decode cX4_all 60 = .ok (.ireturn, 1) := by decide +kernel
theorem dX4_one_0 : decode cX4_one 0 = .ok (.aload_n 0, 1) := by decide +kernel
theorem dX4_one_1 : decode cX4_one 1 = .ok (.invokevirtual 118, 3) := by decide +kernel
theorem dX4_one_4 : decode cX4_one 4 = .ok (.bipush 23, 2) := by decide +kernel
theorem dX4_one_6 : decode cX4_one 6 = .ok (.if_icmp .ne 7, 3) := by decide +kernel
theorem dX4_one_9 : decode cX4_one 9 = .ok (.iconst 1, 1) := by decide +kernel
theorem dX4_one_10 : decode cX4_one 10 = .ok (.goto 4, 3) := by decide +kernel
theorem dX4_one_13 : decode cX4_one 13 = .ok (.iconst 0, 1) := by decide +kernel
theorem dX4_one_14 : decode cX4_one 14 = .ok (.istore_n 2, 1) := by decide +kernel
theorem dX4_one_15 : decode cX4_one 15 = .ok (.iload_n 2, 1) := by decide +kernel
theorem dX4_one_16 : decode cX4_one 16 = .ok (.ifCond .ne 17, 3) := by decide +kernel
theorem dX4_one_19 : decode cX4_one 19 = .ok (.aload_n 0, 1) := by decide +kernel
theorem dX4_one_20 : decode cX4_one 20 = .ok (.bipush 40, 2) := by decide +kernel
theorem dX4_one_22 : decode cX4_one 22 = .ok (.invokevirtual 192, 3) := by decide +kernel
theorem dX4_one_25 : decode cX4_one 25 = .ok (.ifCond .ne 8, 3) := by decide +kernel
theorem dX4_one_28 : decode cX4_one 28 = .ok (.aload_n 0, 1) := by decide +kernel
theorem dX4_one_29 : decode cX4_one 29 = .ok (.invokevirtual 195, 3) := by decide +kernel
theorem dX4_one_32 : decode cX4_one 32 = .ok (.ireturn, 1) := by decide +kernel
theorem dX4_one_33 : decode cX4_one 33 = .ok (.iload_n 1, 1) := by decide +kernel
theorem dX4_one_34 : decode cX4_one 34 = .ok (.bipush 10, 2) := by decide +kernel
theorem dX4_one_36 : decode cX4_one 36 = .ok (.if_icmp .lt 5, 3) := by decide +kernel
theorem dX4_one_39 : decode cX4_one 39 = .ok (.iconst 0, 1) := by decide +kernel
theorem dX4_one_40 : decode cX4_one 40 = .ok (.ireturn, 1) := by decide +kernel
theorem dX4_one_41 : decode cX4_one 41 = .ok (.aload_n 0, 1) := by decide +kernel
theorem dX4_one_42 : decode cX4_one 42 = .ok (.dup, 1) := by decide +kernel
theorem dX4_one_43 : decode cX4_one 43 = .ok (.getfield 44, 3) := by decide +kernel
theorem dX4_one_46 : decode cX4_one 46 = .ok (.iconst 1, 1) := by decide +kernel
theorem dX4_one_47 : decode cX4_one 47 = .ok (.iadd, 1) := by decide +kernel
theorem dX4_one_48 : decode cX4_one 48 = .ok (.putfield 44, 3) := by decide +kernel
theorem dX4_one_51 : decode cX4_one 51 = .ok (.iload_n 2, 1) := by decide +kernel
theorem dX4_one_52 : decode cX4_one 52 = .ok (.ifCond .eq 31, 3) := by decide +kernel
theorem dX4_one_55 : decode cX4_one 55 = .ok (.aload_n 0, 1) := by decide +kernel
theorem dX4_one_56 : decode cX4_one 56 = .ok (.iload_n 1, 1) := by decide +kernel
theorem dX4_one_57 : decode cX4_one 57 = .ok (.iconst 1, 1) := by decide +kernel
theorem dX4_one_58 : decode cX4_one 58 = .ok (.iadd, 1) := by decide +kernel
theorem dX4_one_59 : decode cX4_one 59 = .ok (.invokevirtual 189, 3) := by decide +kernel
theorem dX4_one_62 : decode cX4_one 62 = .ok (.ifCond .eq 19, 3) := by decide +kernel
theorem dX4_one_65 : decode cX4_one 65 = .ok (.aload_n 0, 1) := by decide +kernel
theorem dX4_one_66 : decode cX4_one 66 = .ok (.getfield 40, 3) := by decide +kernel
theorem dX4_one_69 : decode cX4_one 69 = .ok (.bipush (-3), 2) := by decide +kernel
theorem dX4_one_71 : decode cX4_one 71 = .ok (.invokevirtual 186, 3) := by decide +kernel
theorem dX4_one_74 : decode cX4_one 74 = .ok (.ifCond .eq 7, 3) := by decide +kernel
theorem dX4_one_77 : decode cX4_one 77 = .ok (.iconst 1, 1) := by decide +kernel
theorem dX4_one_78 : decode cX4_one 78 = .ok (.goto 4, 3) := by decide +kernel
theorem dX4_one_81 : decode cX4_one 81 = .ok (.iconst 0, 1) := by decide +kernel
theorem dX4_one_82 : decode cX4_one 82 = .ok (.ireturn, 1) := by decide +kernel
theorem dX4_one_83 : decode cX4_one 83 = .ok (.aload_n 0, 1) := by decide +kernel
theorem dX4_one_84 : decode cX4_one 84 = .ok (.iload_n 1, 1) := by decide +kernel
theorem dX4_one_85 : decode cX4_one 85 = .ok (.iconst 1, 1) := by decide +kernel
theorem dX4_one_86 : decode cX4_one 86 = .ok (.iadd, 1) := by decide +kernel
theorem dX4_one_87 : decode cX4_one 87 = .ok (.invokevirtual 173, 3) := by decide +kernel
theorem dX4_one_90 : decode cX4_one 90 = .ok (.ifCond .eq 16, 3) := by decide +kernel
theorem dX4_one_93 : decode cX4_one 93 = .ok (.aload_n 0, 1) := by decide +kernel
theorem dX4_one_94 : decode cX4_one 94 = .ok (.bipush 41, 2) := by decide +kernel
theorem dX4_one_96 : decode cX4_one 96 = .ok (.invokevirtual 176, 3) := by decide +kernel
theorem dX4_one_99 : decode cX4_one 99 = .ok (.ifCond .eq 7, 3) := by decide +kernel
theorem dX4_one_102 : decode cX4_one 102 = .ok (.iconst 1, 1) := by decide +kernel
theorem dX4_one_103 : decode cX4_one 103 = .ok (.goto 4, 3) := by decide +kernel
theorem dX4_one_106 : decode cX4_one 106 = .ok (.iconst 0, 1) := by decide +kernel
theorem dX4_one_107 : decode cX4_one 107 = .ok (.ireturn, 1) := by decide +kernel
theorem dX4_outText_0 : decode cX4_outText 0 = .ok (.aload_n 0, 1) := by decide +kernel
theorem dX4_outText_1 : decode cX4_outText 1 = .ok (.dup, 1) := by decide +kernel
theorem dX4_outText_2 : decode cX4_outText 2 = .ok (.getfield 44, 3) := by decide +kernel
theorem dX4_outText_5 : decode cX4_outText 5 = .ok (.iconst 1, 1) := by decide +kernel
theorem dX4_outText_6 : decode cX4_outText 6 = .ok (.iadd, 1) := by decide +kernel
theorem dX4_outText_7 : decode cX4_outText 7 = .ok (.putfield 44, 3) := by decide +kernel
theorem dX4_outText_10 : decode cX4_outText 10 = .ok (.aload_n 0, 1) := by decide +kernel
theorem dX4_outText_11 : decode cX4_outText 11 = .ok (.bipush 20, 2) := by decide +kernel
theorem dX4_outText_13 : decode cX4_outText 13 = .ok (.invokevirtual 152, 3) := by decide +kernel
theorem dX4_outText_16 : decode cX4_outText 16 = .ok (.ifCond .ne 5, 3) := by decide +kernel
theorem dX4_outText_19 : decode cX4_outText 19 = .ok (.iconst 0, 1) := by decide +kernel
theorem dX4_outText_20 : decode cX4_outText 20 = .ok (.ireturn, 1) := by decide +kernel
theorem dX4_outText_21 : decode cX4_outText 21 = .ok (.aload_n 0, 1) := by decide +kernel
theorem dX4_outText_22 : decode cX4_outText 22 = .ok (.getfield 40, 3) := by decide +kernel
theorem dX4_outText_25 : decode cX4_outText 25 = .ok (.getfield 170, 3) := by decide +kernel
theorem dX4_outText_28 : decode cX4_outText 28 = .ok (.istore_n 1, 1) := by decide +kernel
theorem dX4_outText_29 : decode cX4_outText 29 = .ok (.aload_n 0, 1) := by decide +kernel
theorem dX4_outText_30 : decode cX4_outText 30 = .ok (.iconst 0, 1) := by decide +kernel
theorem dX4_outText_31 : decode cX4_outText 31 = .ok (.invokevirtual 173, 3) := by decide +kernel
theorem dX4_outText_34 : decode cX4_outText 34 = .ok (.ifCond .eq 25, 3) := by decide +kernel
theorem dX4_outText_37 : decode cX4_outText 37 = .ok (.aload_n 0, 1) := by decide +kernel
theorem dX4_outText_38 : decode cX4_outText 38 = .ok (.bipush 8, 2) := by decide +kernel
theorem dX4_outText_40 : decode cX4_outText 40 = .ok (.iload_n 1, 1) := by decide +kernel
theorem dX4_outText_41 : decode cX4_outText 41 = .ok (.aload_n 0, 1) := by decide +kernel
theorem dX4_outText_42 : decode cX4_outText 42 = .ok (.getfield 40, 3) := by decide +kernel
theorem dX4_outText_45 : decode cX4_outText 45 = .ok (.getfield 170, 3) := by decide +kernel
theorem dX4_outText_48 : decode cX4_outText 48 = .ok (.iconst 0, 1) := by decide +kernel
theorem dX4_outText_49 : decode cX4_outText 49 = .ok (.invokevirtual 158, 3) := by decide +kernel
theorem dX4_outText_52 : decode cX4_outText 52 = .ok (.ifCond .eq 7, 3) := by decide +kernel
theorem dX4_outText_55 : decode cX4_outText 55 = .ok (.iconst 1, 1) := by decide +kernel
theorem dX4_outText_56 : decode cX4_outText 56 = .ok (.goto 4, 3) := by decide +kernel
theorem dX4_outText_59 : decode cX4_outText 59 = .ok (.iconst 0, 1) := by decide +kernel
theorem dX4_outText_60 : decode cX4_outText 60 = .ok (.ireturn, 1) := by decide +kernel
theorem dX4_choiceText_0 : decode cX4_choiceText 0 = .ok (.aload_n 0, 1) := by decide +kernel
theorem dX4_choiceText_1 : decode cX4_choiceText 1 = .ok (.dup, 1) := by decide +kernel
theorem dX4_choiceText_2 : decode cX4_choiceText 2 = .ok (.getfield 44, 3) := by decide +kernel
theorem dX4_choiceText_5 : decode cX4_choiceText 5 = .ok (.iconst 1, 1) := by decide +kernel
theorem dX4_choiceText_6 : decode cX4_choiceText 6 = .ok (.iadd, 1) := by decide +kernel
theorem dX4_choiceText_7 : decode cX4_choiceText 7 = .ok (.putfield 44, 3) := by decide +kernel
theorem dX4_choiceText_10 : decode cX4_choiceText 10 = .ok (.aload_n 0, 1) := by decide +kernel
theorem dX4_choiceText_11 : decode cX4_choiceText 11 = .ok (.invokevirtual 118, 3) := by decide +kernel
theorem dX4_choiceText_14 : decode cX4_choiceText 14 = .ok (.istore 5, 2) := by decide +kernel
theorem dX4_choiceText_16 : decode cX4_choiceText 16 = .ok (.iload 5, 2) := by decide +kernel
theorem dX4_choiceText_18 : decode cX4_choiceText 18 = .ok (.iload_n 3, 1) := by decide +kernel
theorem dX4_choiceText_19 : decode cX4_choiceText 19 = .ok (.if_icmp .lt 10, 3) := by decide +kernel
theorem dX4_choiceText_22 : decode cX4_choiceText 22 = .ok (.iload 5, 2) := by decide +kernel
theorem dX4_choiceText_24 : decode cX4_choiceText 24 = .ok (.iload 4, 2) := by decide +kernel
theorem dX4_choiceText_26 : decode cX4_choiceText 26 = .ok (.if_icmp .le 5, 3) := by decide +kernel
theorem dX4_choiceText_29 : decode cX4_choiceText 29 = .ok (.iconst 0, 1) := by decide +kernel
theorem dX4_choiceText_30 : decode cX4_choiceText 30 = .ok (.ireturn, 1) := by decide +kernel
theorem dX4_choiceText_31 : decode cX4_choiceText 31 = .ok (.aload_n 0, 1) := by decide +kernel
theorem dX4_choiceText_32 : decode cX4_choiceText 32 = .ok (.dup, 1) := by decide +kernel
theorem dX4_choiceText_33 : decode cX4_choiceText 33 = .ok (.getfield 44, 3) := by decide +kernel
theorem dX4_choiceText_36 : decode cX4_choiceText 36 = .ok (.iconst 1, 1) := by decide +kernel
theorem dX4_choiceText_37 : decode cX4_choiceText 37 = .ok (.iadd, 1) := by decide +kernel
theorem dX4_choiceText_38 : decode cX4_choiceText 38 = .ok (.putfield 44, 3) := by decide +kernel
theorem dX4_choiceText_41 : decode cX4_choiceText 41 = .ok (.aload_n 0, 1) := by decide +kernel
theorem dX4_choiceText_42 : decode cX4_choiceText 42 = .ok (.getfield 40, 3) := by decide +kernel
theorem dX4_choiceText_45 : decode cX4_choiceText 45 = .ok (.iload_n 2, 1) := by decide +kernel
theorem dX4_choiceText_46 : decode cX4_choiceText 46 = .ok (.iload 5, 2) := by decide +kernel
theorem dX4_choiceText_48 : decode cX4_choiceText 48 = .ok (.iload_n 3, 1) := by decide +kernel
theorem dX4_choiceText_49 : decode cX4_choiceText 49 = .ok (.isub, 1) := by decide +kernel
theorem dX4_choiceText_50 : decode cX4_choiceText 50 = .ok (.invokevirtual 167, 3) := by decide +kernel
theorem dX4_choiceText_53 : decode cX4_choiceText 53 = .ok (.aload_n 0, 1) := by decide +kernel
theorem dX4_choiceText_54 : decode cX4_choiceText 54 = .ok (.iload_n 1, 1) := by decide +kernel
theorem dX4_choiceText_55 : decode cX4_choiceText 55 = .ok (.iconst 0, 1) := by decide +kernel
theorem dX4_choiceText_56 : decode cX4_choiceText 56 = .ok (.iconst 0, 1) := by decide +kernel
theorem dX4_choiceText_57 : decode cX4_choiceText 57 = .ok (.iconst 0, 1) := by decide +kernel
theorem dX4_choiceText_58 : decode cX4_choiceText 58 = .ok (.invokevirtual 158, 3) := by decide +kernel
theorem dX4_choiceText_61 : decode cX4_choiceText 61 = .ok (.ireturn, 1) := by decide +kernel
theorem dX4_feeText_0 : decode cX4_feeText 0 = .ok (.aload_n 0, 1) := by decide +kernel
theorem dX4_feeText_1 : decode cX4_feeText 1 = .ok (.dup, 1) := by decide +kernel
theorem dX4_feeText_2 : decode cX4_feeText 2 = .ok (.getfield 44, 3) := by decide +kernel
theorem dX4_feeText_5 : decode cX4_feeText 5 = .ok (.iconst 1, 1) := by decide +kernel
theorem dX4_feeText_6 : decode cX4_feeText 6 = .ok (.iadd, 1) := by decide +kernel
theorem dX4_feeText_7 : decode cX4_feeText 7 = .ok (.putfield 44, 3) := by decide +kernel
theorem dX4_feeText_10 : decode cX4_feeText 10 = .ok (.iconst 0, 1) := by decide +kernel
theorem dX4_feeText_11 : decode cX4_feeText 11 = .ok (.istore_n 1, 1) := by decide +kernel
theorem dX4_feeText_12 : decode cX4_feeText 12 = .ok (.iload_n 1, 1) := by decide +kernel
theorem dX4_feeText_13 : decode cX4_feeText 13 = .ok (.iconst 3, 1) := by decide +kernel
theorem dX4_feeText_14 : decode cX4_feeText 14 = .ok (.if_icmp .ge 36, 3) := by decide +kernel
theorem dX4_feeText_17 : decode cX4_feeText 17 = .ok (.aload_n 0, 1) := by decide +kernel
theorem dX4_feeText_18 : decode cX4_feeText 18 = .ok (.iconst 0, 1) := by decide +kernel
theorem dX4_feeText_19 : decode cX4_feeText 19 = .ok (.bipush 100, 2) := by decide +kernel
theorem dX4_feeText_21 : decode cX4_feeText 21 = .ok (.invokevirtual 155, 3) := by decide +kernel
theorem dX4_feeText_24 : decode cX4_feeText 24 = .ok (.ifCond .ne 5, 3) := by decide +kernel
theorem dX4_feeText_27 : decode cX4_feeText 27 = .ok (.iconst 0, 1) := by decide +kernel
theorem dX4_feeText_28 : decode cX4_feeText 28 = .ok (.ireturn, 1) := by decide +kernel
theorem dX4_feeText_29 : decode cX4_feeText 29 = .ok (.aload_n 0, 1) := by decide +kernel
theorem dX4_feeText_30 : decode cX4_feeText 30 = .ok (.getfield 40, 3) := by decide +kernel
theorem dX4_feeText_33 : decode cX4_feeText 33 = .ok (.bipush 8, 2) := by decide +kernel
theorem dX4_feeText_35 : decode cX4_feeText 35 = .ok (.iload_n 1, 1) := by decide +kernel
theorem dX4_feeText_36 : decode cX4_feeText 36 = .ok (.iadd, 1) := by decide +kernel
theorem dX4_feeText_37 : decode cX4_feeText 37 = .ok (.aload_n 0, 1) := by decide +kernel
theorem dX4_feeText_38 : decode cX4_feeText 38 = .ok (.getfield 48, 3) := by decide +kernel
theorem dX4_feeText_41 : decode cX4_feeText 41 = .ok (.invokevirtual 167, 3) := by decide +kernel
theorem dX4_feeText_44 : decode cX4_feeText 44 = .ok (.iinc 1 1, 3) := by decide +kernel
theorem dX4_feeText_47 : decode cX4_feeText 47 = .ok (.goto (-35), 3) := by decide +kernel
theorem dX4_feeText_50 : decode cX4_feeText 50 = .ok (.aload_n 0, 1) := by decide +kernel
theorem dX4_feeText_51 : decode cX4_feeText 51 = .ok (.bipush 13, 2) := by decide +kernel
theorem dX4_feeText_53 : decode cX4_feeText 53 = .ok (.iconst 0, 1) := by decide +kernel
theorem dX4_feeText_54 : decode cX4_feeText 54 = .ok (.iconst 0, 1) := by decide +kernel
theorem dX4_feeText_55 : decode cX4_feeText 55 = .ok (.iconst 0, 1) := by decide +kernel
theorem dX4_feeText_56 : decode cX4_feeText 56 = .ok (.invokevirtual 158, 3) := by decide +kernel
theorem dX4_feeText_59 : decode cX4_feeText 59 = .ok (.ireturn, 1) := by decide +kernel
theorem dX4_statement_0 : decode cX4_statement 0 = .ok (.aload_n 0, 1) := by decide +kernel
theorem dX4_statement_1 : decode cX4_statement 1 = .ok (.invokevirtual 118, 3) := by decide +kernel
theorem dX4_statement_4 : decode cX4_statement 4 = .ok (.istore_n 1, 1) := by decide +kernel
theorem dX4_statement_5 : decode cX4_statement 5 = .ok (.iload_n 1, 1) := by decide +kernel
theorem dX4_statement_6 : decode cX4_statement 6 = .ok (.tableswitch 188 0 13 #[70, 75, 83, 91, 96, 107, 118, 129, 134, 139, 149, 159, 171, 183], 70) := by decide +kernel
theorem dX4_statement_76 : decode cX4_statement 76 = .ok (.aload_n 0, 1) := by decide +kernel
theorem dX4_statement_77 : decode cX4_statement 77 = .ok (.invokevirtual 122, 3) := by decide +kernel
theorem dX4_statement_80 : decode cX4_statement 80 = .ok (.ireturn, 1) := by decide +kernel
theorem dX4_statement_81 : decode cX4_statement 81 = .ok (.aload_n 0, 1) := by decide +kernel
theorem dX4_statement_82 : decode cX4_statement 82 = .ok (.iload_n 1, 1) := by decide +kernel
theorem dX4_statement_83 : decode cX4_statement 83 = .ok (.bipush 16, 2) := by decide +kernel
theorem dX4_statement_85 : decode cX4_statement 85 = .ok (.invokevirtual 125, 3) := by decide +kernel
theorem dX4_statement_88 : decode cX4_statement 88 = .ok (.ireturn, 1) := by decide +kernel
theorem dX4_statement_89 : decode cX4_statement 89 = .ok (.aload_n 0, 1) := by decide +kernel
theorem dX4_statement_90 : decode cX4_statement 90 = .ok (.iload_n 1, 1) := by decide +kernel
theorem dX4_statement_91 : decode cX4_statement 91 = .ok (.bipush 17, 2) := by decide +kernel
theorem dX4_statement_93 : decode cX4_statement 93 = .ok (.invokevirtual 125, 3) := by decide +kernel
theorem dX4_statement_96 : decode cX4_statement 96 = .ok (.ireturn, 1) := by decide +kernel
theorem dX4_statement_97 : decode cX4_statement 97 = .ok (.aload_n 0, 1) := by decide +kernel
theorem dX4_statement_98 : decode cX4_statement 98 = .ok (.invokevirtual 129, 3) := by decide +kernel
theorem dX4_statement_101 : decode cX4_statement 101 = .ok (.ireturn, 1) := by decide +kernel
theorem dX4_statement_102 : decode cX4_statement 102 = .ok (.aload_n 0, 1) := by decide +kernel
theorem dX4_statement_103 : decode cX4_statement 103 = .ok (.iload_n 1, 1) := by decide +kernel
theorem dX4_statement_104 : decode cX4_statement 104 = .ok (.iconst 0, 1) := by decide +kernel
theorem dX4_statement_105 : decode cX4_statement 105 = .ok (.iconst 0, 1) := by decide +kernel
theorem dX4_statement_106 : decode cX4_statement 106 = .ok (.sipush 9999, 3) := by decide +kernel
theorem dX4_statement_109 : decode cX4_statement 109 = .ok (.invokevirtual 132, 3) := by decide +kernel
theorem dX4_statement_112 : decode cX4_statement 112 = .ok (.ireturn, 1) := by decide +kernel
theorem dX4_statement_113 : decode cX4_statement 113 = .ok (.aload_n 0, 1) := by decide +kernel
theorem dX4_statement_114 : decode cX4_statement 114 = .ok (.iload_n 1, 1) := by decide +kernel
theorem dX4_statement_115 : decode cX4_statement 115 = .ok (.iconst 1, 1) := by decide +kernel
theorem dX4_statement_116 : decode cX4_statement 116 = .ok (.iconst 0, 1) := by decide +kernel
theorem dX4_statement_117 : decode cX4_statement 117 = .ok (.sipush 9999, 3) := by decide +kernel
theorem dX4_statement_120 : decode cX4_statement 120 = .ok (.invokevirtual 132, 3) := by decide +kernel
theorem dX4_statement_123 : decode cX4_statement 123 = .ok (.ireturn, 1) := by decide +kernel
theorem dX4_statement_124 : decode cX4_statement 124 = .ok (.aload_n 0, 1) := by decide +kernel
theorem dX4_statement_125 : decode cX4_statement 125 = .ok (.iload_n 1, 1) := by decide +kernel
theorem dX4_statement_126 : decode cX4_statement 126 = .ok (.iconst 2, 1) := by decide +kernel
theorem dX4_statement_127 : decode cX4_statement 127 = .ok (.iconst 0, 1) := by decide +kernel
theorem dX4_statement_128 : decode cX4_statement 128 = .ok (.sipush 9999, 3) := by decide +kernel
theorem dX4_statement_131 : decode cX4_statement 131 = .ok (.invokevirtual 132, 3) := by decide +kernel
theorem dX4_statement_134 : decode cX4_statement 134 = .ok (.ireturn, 1) := by decide +kernel
theorem dX4_statement_135 : decode cX4_statement 135 = .ok (.aload_n 0, 1) := by decide +kernel
theorem dX4_statement_136 : decode cX4_statement 136 = .ok (.invokevirtual 136, 3) := by decide +kernel
theorem dX4_statement_139 : decode cX4_statement 139 = .ok (.ireturn, 1) := by decide +kernel
theorem dX4_statement_140 : decode cX4_statement 140 = .ok (.aload_n 0, 1) := by decide +kernel
theorem dX4_statement_141 : decode cX4_statement 141 = .ok (.invokevirtual 139, 3) := by decide +kernel
theorem dX4_statement_144 : decode cX4_statement 144 = .ok (.ireturn, 1) := by decide +kernel
theorem dX4_statement_145 : decode cX4_statement 145 = .ok (.aload_n 0, 1) := by decide +kernel
theorem dX4_statement_146 : decode cX4_statement 146 = .ok (.iload_n 1, 1) := by decide +kernel
theorem dX4_statement_147 : decode cX4_statement 147 = .ok (.iconst 4, 1) := by decide +kernel
theorem dX4_statement_148 : decode cX4_statement 148 = .ok (.iconst 0, 1) := by decide +kernel
theorem dX4_statement_149 : decode cX4_statement 149 = .ok (.ldc 142, 2) := by decide +kernel
theorem dX4_statement_151 : decode cX4_statement 151 = .ok (.invokevirtual 132, 3) := by decide +kernel
theorem dX4_statement_154 : decode cX4_statement 154 = .ok (.ireturn, 1) := by decide +kernel
theorem dX4_statement_155 : decode cX4_statement 155 = .ok (.aload_n 0, 1) := by decide +kernel
theorem dX4_statement_156 : decode cX4_statement 156 = .ok (.iload_n 1, 1) := by decide +kernel
theorem dX4_statement_157 : decode cX4_statement 157 = .ok (.iconst 5, 1) := by decide +kernel
theorem dX4_statement_158 : decode cX4_statement 158 = .ok (.iconst 1, 1) := by decide +kernel
theorem dX4_statement_159 : decode cX4_statement 159 = .ok (.bipush 10, 2) := by decide +kernel
theorem dX4_statement_161 : decode cX4_statement 161 = .ok (.invokevirtual 132, 3) := by decide +kernel
theorem dX4_statement_164 : decode cX4_statement 164 = .ok (.ireturn, 1) := by decide +kernel
theorem dX4_statement_165 : decode cX4_statement 165 = .ok (.aload_n 0, 1) := by decide +kernel
theorem dX4_statement_166 : decode cX4_statement 166 = .ok (.iload_n 1, 1) := by decide +kernel
theorem dX4_statement_167 : decode cX4_statement 167 = .ok (.bipush 6, 2) := by decide +kernel
theorem dX4_statement_169 : decode cX4_statement 169 = .ok (.bipush 24, 2) := by decide +kernel
theorem dX4_statement_171 : decode cX4_statement 171 = .ok (.bipush 26, 2) := by decide +kernel
theorem dX4_statement_173 : decode cX4_statement 173 = .ok (.invokevirtual 143, 3) := by decide +kernel
theorem dX4_statement_176 : decode cX4_statement 176 = .ok (.ireturn, 1) := by decide +kernel
theorem dX4_statement_177 : decode cX4_statement 177 = .ok (.aload_n 0, 1) := by decide +kernel
theorem dX4_statement_178 : decode cX4_statement 178 = .ok (.iload_n 1, 1) := by decide +kernel
theorem dX4_statement_179 : decode cX4_statement 179 = .ok (.bipush 7, 2) := by decide +kernel
theorem dX4_statement_181 : decode cX4_statement 181 = .ok (.bipush 27, 2) := by decide +kernel
theorem dX4_statement_183 : decode cX4_statement 183 = .ok (.bipush 28, 2) := by decide +kernel
theorem dX4_statement_185 : decode cX4_statement 185 = .ok (.invokevirtual 143, 3) := by decide +kernel
theorem dX4_statement_188 : decode cX4_statement 188 = .ok (.ireturn, 1) := by decide +kernel
theorem dX4_statement_189 : decode cX4_statement 189 = .ok (.aload_n 0, 1) := by decide +kernel
theorem dX4_statement_190 : decode cX4_statement 190 = .ok (.invokevirtual 146, 3) := by decide +kernel
theorem dX4_statement_193 : decode cX4_statement 193 = .ok (.ireturn, 1) := by decide +kernel
theorem dX4_statement_194 : decode cX4_statement 194 = .ok (.iconst 0, 1) := by decide +kernel
theorem dX4_statement_195 : decode cX4_statement 195 = .ok (.ireturn, 1) := by decide +kernel
theorem dX5_settle_0 : decode cX5_settle 0 = .ok (.iload_n 1, 1) := by decide +kernel
theorem dX5_settle_1 : decode cX5_settle 1 = .ok (.ifCond .eq 16, 3) := by decide +kernel
theorem dX5_settle_4 : decode cX5_settle 4 = .ok (.aload_n 0, 1) := by decide +kernel
theorem dX5_settle_5 : decode cX5_settle 5 = .ok (.dup, 1) := by decide +kernel
theorem dX5_settle_6 : decode cX5_settle 6 = .ok (.getfield 15, 3) := by decide +kernel
theorem dX5_settle_9 : decode cX5_settle 9 = .ok (.aload_n 0, 1) := by decide +kernel
theorem dX5_settle_10 : decode cX5_settle 10 = .ok (.getfield 19, 3) := by decide +kernel
theorem dX5_settle_13 : decode cX5_settle 13 = .ok (.iadd, 1) := by decide +kernel
theorem dX5_settle_14 : decode cX5_settle 14 = .ok (.putfield 15, 3) := by decide +kernel
theorem dX5_settle_17 : decode cX5_settle 17 = .ok (.aload_n 0, 1) := by decide +kernel
theorem dX5_settle_18 : decode cX5_settle 18 = .ok (.iconst 0, 1) := by decide +kernel
theorem dX5_settle_19 : decode cX5_settle 19 = .ok (.putfield 19, 3) := by decide +kernel
theorem dX5_settle_22 : decode cX5_settle 22 = .ok (.return_, 1) := by decide +kernel
theorem dX4_read_0 : decode cX4_read 0 = .ok (.aload_n 0, 1) := by decide +kernel
theorem dX4_read_1 : decode cX4_read 1 = .ok (.aload_n 2, 1) := by decide +kernel
theorem dX4_read_2 : decode cX4_read 2 = .ok (.putfield 40, 3) := by decide +kernel
theorem dX4_read_5 : decode cX4_read 5 = .ok (.aload_n 0, 1) := by decide +kernel
theorem dX4_read_6 : decode cX4_read 6 = .ok (.getfield 40, 3) := by decide +kernel
theorem dX4_read_9 : decode cX4_read 9 = .ok (.invokevirtual 59, 3) := by decide +kernel
theorem dX4_read_12 : decode cX4_read 12 = .ok (.aload_n 0, 1) := by decide +kernel
theorem dX4_read_13 : decode cX4_read 13 = .ok (.iload_n 1, 1) := by decide +kernel
theorem dX4_read_14 : decode cX4_read 14 = .ok (.invokevirtual 62, 3) := by decide +kernel
theorem dX4_read_17 : decode cX4_read 17 = .ok (.aload_n 0, 1) := by decide +kernel
theorem dX4_read_18 : decode cX4_read 18 = .ok (.iconst 0, 1) := by decide +kernel
theorem dX4_read_19 : decode cX4_read 19 = .ok (.putfield 44, 3) := by decide +kernel
theorem dX4_read_22 : decode cX4_read 22 = .ok (.iconst 0, 1) := by decide +kernel
theorem dX4_read_23 : decode cX4_read 23 = .ok (.istore_n 3, 1) := by decide +kernel
theorem dX4_read_24 : decode cX4_read 24 = .ok (.iload_n 3, 1) := by decide +kernel
theorem dX4_read_25 : decode cX4_read 25 = .ok (.aload_n 0, 1) := by decide +kernel
theorem dX4_read_26 : decode cX4_read 26 = .ok (.getfield 31, 3) := by decide +kernel
theorem dX4_read_29 : decode cX4_read 29 = .ok (.arraylength, 1) := by decide +kernel
theorem dX4_read_30 : decode cX4_read 30 = .ok (.if_icmp .ge 16, 3) := by decide +kernel
theorem dX4_read_33 : decode cX4_read 33 = .ok (.aload_n 0, 1) := by decide +kernel
theorem dX4_read_34 : decode cX4_read 34 = .ok (.getfield 31, 3) := by decide +kernel
theorem dX4_read_37 : decode cX4_read 37 = .ok (.iload_n 3, 1) := by decide +kernel
theorem dX4_read_38 : decode cX4_read 38 = .ok (.iconst 0, 1) := by decide +kernel
theorem dX4_read_39 : decode cX4_read 39 = .ok (.bastore, 1) := by decide +kernel
theorem dX4_read_40 : decode cX4_read 40 = .ok (.iinc 3 1, 3) := by decide +kernel
theorem dX4_read_43 : decode cX4_read 43 = .ok (.goto (-19), 3) := by decide +kernel
theorem dX4_read_46 : decode cX4_read 46 = .ok (.iconst 1, 1) := by decide +kernel
theorem dX4_read_47 : decode cX4_read 47 = .ok (.istore_n 3, 1) := by decide +kernel
theorem dX4_read_48 : decode cX4_read 48 = .ok (.iconst 0, 1) := by decide +kernel
theorem dX4_read_49 : decode cX4_read 49 = .ok (.istore 4, 2) := by decide +kernel
theorem dX4_read_51 : decode cX4_read 51 = .ok (.iload 4, 2) := by decide +kernel
theorem dX4_read_53 : decode cX4_read 53 = .ok (.bipush 40, 2) := by decide +kernel
theorem dX4_read_55 : decode cX4_read 55 = .ok (.if_icmp .gt 44, 3) := by decide +kernel
theorem dX4_read_58 : decode cX4_read 58 = .ok (.iload_n 3, 1) := by decide +kernel
theorem dX4_read_59 : decode cX4_read 59 = .ok (.ifCond .eq 40, 3) := by decide +kernel
theorem dX4_read_62 : decode cX4_read 62 = .ok (.aload_n 0, 1) := by decide +kernel
theorem dX4_read_63 : decode cX4_read 63 = .ok (.iconst 0, 1) := by decide +kernel
theorem dX4_read_64 : decode cX4_read 64 = .ok (.invokevirtual 66, 3) := by decide +kernel
theorem dX4_read_67 : decode cX4_read 67 = .ok (.ifCond .ne 32, 3) := by decide +kernel
theorem dX4_read_70 : decode cX4_read 70 = .ok (.aload_n 0, 1) := by decide +kernel
theorem dX4_read_71 : decode cX4_read 71 = .ok (.getfield 40, 3) := by decide +kernel
theorem dX4_read_74 : decode cX4_read 74 = .ok (.invokevirtual 70, 3) := by decide +kernel
theorem dX4_read_77 : decode cX4_read 77 = .ok (.ifCond .ne 14, 3) := by decide +kernel
theorem dX4_read_80 : decode cX4_read 80 = .ok (.aload_n 0, 1) := by decide +kernel
theorem dX4_read_81 : decode cX4_read 81 = .ok (.invokevirtual 74, 3) := by decide +kernel
theorem dX4_read_84 : decode cX4_read 84 = .ok (.ifCond .eq 7, 3) := by decide +kernel
theorem dX4_read_87 : decode cX4_read 87 = .ok (.iconst 1, 1) := by decide +kernel
theorem dX4_read_88 : decode cX4_read 88 = .ok (.goto 4, 3) := by decide +kernel
theorem dX4_read_91 : decode cX4_read 91 = .ok (.iconst 0, 1) := by decide +kernel
theorem dX4_read_92 : decode cX4_read 92 = .ok (.istore_n 3, 1) := by decide +kernel
theorem dX4_read_93 : decode cX4_read 93 = .ok (.iinc 4 1, 3) := by decide +kernel
theorem dX4_read_96 : decode cX4_read 96 = .ok (.goto (-45), 3) := by decide +kernel
theorem dX4_read_99 : decode cX4_read 99 = .ok (.aload_n 0, 1) := by decide +kernel
theorem dX4_read_100 : decode cX4_read 100 = .ok (.getfield 55, 3) := by decide +kernel
theorem dX4_read_103 : decode cX4_read 103 = .ok (.iload_n 3, 1) := by decide +kernel
theorem dX4_read_104 : decode cX4_read 104 = .ok (.invokevirtual 77, 3) := by decide +kernel
theorem dX4_read_107 : decode cX4_read 107 = .ok (.iload_n 3, 1) := by decide +kernel
theorem dX4_read_108 : decode cX4_read 108 = .ok (.ireturn, 1) := by decide +kernel
theorem dX5_wordOf_0 : decode cX5_wordOf 0 = .ok (.iload_n 1, 1) := by decide +kernel
theorem dX5_wordOf_1 : decode cX5_wordOf 1 = .ok (.iconst 1, 1) := by decide +kernel
theorem dX5_wordOf_2 : decode cX5_wordOf 2 = .ok (.if_icmp .lt 31, 3) := by decide +kernel
theorem dX5_wordOf_5 : decode cX5_wordOf 5 = .ok (.iload_n 1, 1) := by decide +kernel
theorem dX5_wordOf_6 : decode cX5_wordOf 6 = .ok (.aload_n 0, 1) := by decide +kernel
theorem dX5_wordOf_7 : decode cX5_wordOf 7 = .ok (.getfield 15, 3) := by decide +kernel
theorem dX5_wordOf_10 : decode cX5_wordOf 10 = .ok (.if_icmp .gt 23, 3) := by decide +kernel
theorem dX5_wordOf_13 : decode cX5_wordOf 13 = .ok (.iload_n 1, 1) := by decide +kernel
theorem dX5_wordOf_14 : decode cX5_wordOf 14 = .ok (.aload_n 0, 1) := by decide +kernel
theorem dX5_wordOf_15 : decode cX5_wordOf 15 = .ok (.getfield 9, 3) := by decide +kernel
theorem dX5_wordOf_18 : decode cX5_wordOf 18 = .ok (.arraylength, 1) := by decide +kernel
theorem dX5_wordOf_19 : decode cX5_wordOf 19 = .ok (.if_icmp .gt 14, 3) := by decide +kernel
theorem dX5_wordOf_22 : decode cX5_wordOf 22 = .ok (.aload_n 0, 1) := by decide +kernel
theorem dX5_wordOf_23 : decode cX5_wordOf 23 = .ok (.getfield 9, 3) := by decide +kernel
theorem dX5_wordOf_26 : decode cX5_wordOf 26 = .ok (.iload_n 1, 1) := by decide +kernel
theorem dX5_wordOf_27 : decode cX5_wordOf 27 = .ok (.iconst 1, 1) := by decide +kernel
theorem dX5_wordOf_28 : decode cX5_wordOf 28 = .ok (.isub, 1) := by decide +kernel
theorem dX5_wordOf_29 : decode cX5_wordOf 29 = .ok (.laload, 1) := by decide +kernel
theorem dX5_wordOf_30 : decode cX5_wordOf 30 = .ok (.goto 4, 3) := by decide +kernel
theorem dX5_wordOf_33 : decode cX5_wordOf 33 = .ok (.lconst 0, 1) := by decide +kernel
theorem dX5_wordOf_34 : decode cX5_wordOf 34 = .ok (.lreturn, 1) := by decide +kernel
theorem dX6_admit_0 : decode cX6_admit 0 = .ok (.iload_n 1, 1) := by decide +kernel
theorem dX6_admit_1 : decode cX6_admit 1 = .ok (.ifCond .lt 38, 3) := by decide +kernel
theorem dX6_admit_4 : decode cX6_admit 4 = .ok (.iload_n 1, 1) := by decide +kernel
theorem dX6_admit_5 : decode cX6_admit 5 = .ok (.aload_n 0, 1) := by decide +kernel
theorem dX6_admit_6 : decode cX6_admit 6 = .ok (.getfield 9, 3) := by decide +kernel
theorem dX6_admit_9 : decode cX6_admit 9 = .ok (.arraylength, 1) := by decide +kernel
theorem dX6_admit_10 : decode cX6_admit 10 = .ok (.if_icmp .ge 29, 3) := by decide +kernel
theorem dX6_admit_13 : decode cX6_admit 13 = .ok (.aload_n 0, 1) := by decide +kernel
theorem dX6_admit_14 : decode cX6_admit 14 = .ok (.getfield 9, 3) := by decide +kernel
theorem dX6_admit_17 : decode cX6_admit 17 = .ok (.iload_n 1, 1) := by decide +kernel
theorem dX6_admit_18 : decode cX6_admit 18 = .ok (.baload, 1) := by decide +kernel
theorem dX6_admit_19 : decode cX6_admit 19 = .ok (.ifCond .ne 20, 3) := by decide +kernel
theorem dX6_admit_22 : decode cX6_admit 22 = .ok (.aload_n 0, 1) := by decide +kernel
theorem dX6_admit_23 : decode cX6_admit 23 = .ok (.getfield 9, 3) := by decide +kernel
theorem dX6_admit_26 : decode cX6_admit 26 = .ok (.iload_n 1, 1) := by decide +kernel
theorem dX6_admit_27 : decode cX6_admit 27 = .ok (.iconst 1, 1) := by decide +kernel
theorem dX6_admit_28 : decode cX6_admit 28 = .ok (.bastore, 1) := by decide +kernel
theorem dX6_admit_29 : decode cX6_admit 29 = .ok (.aload_n 0, 1) := by decide +kernel
theorem dX6_admit_30 : decode cX6_admit 30 = .ok (.dup, 1) := by decide +kernel
theorem dX6_admit_31 : decode cX6_admit 31 = .ok (.getfield 33, 3) := by decide +kernel
theorem dX6_admit_34 : decode cX6_admit 34 = .ok (.iconst 1, 1) := by decide +kernel
theorem dX6_admit_35 : decode cX6_admit 35 = .ok (.iadd, 1) := by decide +kernel
theorem dX6_admit_36 : decode cX6_admit 36 = .ok (.putfield 33, 3) := by decide +kernel
theorem dX6_admit_39 : decode cX6_admit 39 = .ok (.return_, 1) := by decide +kernel
theorem dX6_has_0 : decode cX6_has 0 = .ok (.iload_n 1, 1) := by decide +kernel
theorem dX6_has_1 : decode cX6_has 1 = .ok (.ifCond .lt 25, 3) := by decide +kernel
theorem dX6_has_4 : decode cX6_has 4 = .ok (.iload_n 1, 1) := by decide +kernel
theorem dX6_has_5 : decode cX6_has 5 = .ok (.aload_n 0, 1) := by decide +kernel
theorem dX6_has_6 : decode cX6_has 6 = .ok (.getfield 9, 3) := by decide +kernel
theorem dX6_has_9 : decode cX6_has 9 = .ok (.arraylength, 1) := by decide +kernel
theorem dX6_has_10 : decode cX6_has 10 = .ok (.if_icmp .ge 16, 3) := by decide +kernel
theorem dX6_has_13 : decode cX6_has 13 = .ok (.aload_n 0, 1) := by decide +kernel
theorem dX6_has_14 : decode cX6_has 14 = .ok (.getfield 9, 3) := by decide +kernel
theorem dX6_has_17 : decode cX6_has 17 = .ok (.iload_n 1, 1) := by decide +kernel
theorem dX6_has_18 : decode cX6_has 18 = .ok (.baload, 1) := by decide +kernel
theorem dX6_has_19 : decode cX6_has 19 = .ok (.ifCond .eq 7, 3) := by decide +kernel
theorem dX6_has_22 : decode cX6_has 22 = .ok (.iconst 1, 1) := by decide +kernel
theorem dX6_has_23 : decode cX6_has 23 = .ok (.goto 4, 3) := by decide +kernel
theorem dX6_has_26 : decode cX6_has 26 = .ok (.iconst 0, 1) := by decide +kernel
theorem dX6_has_27 : decode cX6_has 27 = .ok (.ireturn, 1) := by decide +kernel
theorem dX6_counts_0 : decode cX6_counts 0 = .ok (.iload_n 1, 1) := by decide +kernel
theorem dX6_counts_1 : decode cX6_counts 1 = .ok (.ifCond .lt 25, 3) := by decide +kernel
theorem dX6_counts_4 : decode cX6_counts 4 = .ok (.iload_n 1, 1) := by decide +kernel
theorem dX6_counts_5 : decode cX6_counts 5 = .ok (.aload_n 0, 1) := by decide +kernel
theorem dX6_counts_6 : decode cX6_counts 6 = .ok (.getfield 24, 3) := by decide +kernel
theorem dX6_counts_9 : decode cX6_counts 9 = .ok (.arraylength, 1) := by decide +kernel
theorem dX6_counts_10 : decode cX6_counts 10 = .ok (.if_icmp .ge 16, 3) := by decide +kernel
theorem dX6_counts_13 : decode cX6_counts 13 = .ok (.aload_n 0, 1) := by decide +kernel
theorem dX6_counts_14 : decode cX6_counts 14 = .ok (.getfield 24, 3) := by decide +kernel
theorem dX6_counts_17 : decode cX6_counts 17 = .ok (.iload_n 1, 1) := by decide +kernel
theorem dX6_counts_18 : decode cX6_counts 18 = .ok (.baload, 1) := by decide +kernel
theorem dX6_counts_19 : decode cX6_counts 19 = .ok (.ifCond .eq 7, 3) := by decide +kernel
theorem dX6_counts_22 : decode cX6_counts 22 = .ok (.iconst 1, 1) := by decide +kernel
theorem dX6_counts_23 : decode cX6_counts 23 = .ok (.goto 4, 3) := by decide +kernel
theorem dX6_counts_26 : decode cX6_counts 26 = .ok (.iconst 0, 1) := by decide +kernel
theorem dX6_counts_27 : decode cX6_counts 27 = .ok (.ireturn, 1) := by decide +kernel
theorem dJ6_bitCount_0f7a4_0 : decode cJ6_bitCount_0f7a4 0 = .ok (.iload_n 0, 1) := by decide +kernel
theorem dJ6_bitCount_0f7a4_1 : decode cJ6_bitCount_0f7a4 1 = .ok (.iload_n 0, 1) := by decide +kernel
theorem dJ6_bitCount_0f7a4_2 : decode cJ6_bitCount_0f7a4 2 = .ok (.iconst 1, 1) := by decide +kernel
theorem dJ6_bitCount_0f7a4_3 : decode cJ6_bitCount_0f7a4 3 = .ok (.iushr, 1) := by decide +kernel
theorem dJ6_bitCount_0f7a4_4 : decode cJ6_bitCount_0f7a4 4 = .ok (.ldc_w 265, 3) := by decide +kernel
theorem dJ6_bitCount_0f7a4_7 : decode cJ6_bitCount_0f7a4 7 = .ok (.iand, 1) := by decide +kernel
theorem dJ6_bitCount_0f7a4_8 : decode cJ6_bitCount_0f7a4 8 = .ok (.isub, 1) := by decide +kernel
theorem dJ6_bitCount_0f7a4_9 : decode cJ6_bitCount_0f7a4 9 = .ok (.istore_n 0, 1) := by decide +kernel
theorem dJ6_bitCount_0f7a4_10 : decode cJ6_bitCount_0f7a4 10 = .ok (.iload_n 0, 1) := by decide +kernel
theorem dJ6_bitCount_0f7a4_11 : decode cJ6_bitCount_0f7a4 11 = .ok (.ldc_w 266, 3) := by decide +kernel
theorem dJ6_bitCount_0f7a4_14 : decode cJ6_bitCount_0f7a4 14 = .ok (.iand, 1) := by decide +kernel
theorem dJ6_bitCount_0f7a4_15 : decode cJ6_bitCount_0f7a4 15 = .ok (.iload_n 0, 1) := by decide +kernel
theorem dJ6_bitCount_0f7a4_16 : decode cJ6_bitCount_0f7a4 16 = .ok (.iconst 2, 1) := by decide +kernel
theorem dJ6_bitCount_0f7a4_17 : decode cJ6_bitCount_0f7a4 17 = .ok (.iushr, 1) := by decide +kernel
theorem dJ6_bitCount_0f7a4_18 : decode cJ6_bitCount_0f7a4 18 = .ok (.ldc_w 266, 3) := by decide +kernel
theorem dJ6_bitCount_0f7a4_21 : decode cJ6_bitCount_0f7a4 21 = .ok (.iand, 1) := by decide +kernel
theorem dJ6_bitCount_0f7a4_22 : decode cJ6_bitCount_0f7a4 22 = .ok (.iadd, 1) := by decide +kernel
theorem dJ6_bitCount_0f7a4_23 : decode cJ6_bitCount_0f7a4 23 = .ok (.istore_n 0, 1) := by decide +kernel
theorem dJ6_bitCount_0f7a4_24 : decode cJ6_bitCount_0f7a4 24 = .ok (.iload_n 0, 1) := by decide +kernel
theorem dJ6_bitCount_0f7a4_25 : decode cJ6_bitCount_0f7a4 25 = .ok (.iload_n 0, 1) := by decide +kernel
theorem dJ6_bitCount_0f7a4_26 : decode cJ6_bitCount_0f7a4 26 = .ok (.iconst 4, 1) := by decide +kernel
theorem dJ6_bitCount_0f7a4_27 : decode cJ6_bitCount_0f7a4 27 = .ok (.iushr, 1) := by decide +kernel
theorem dJ6_bitCount_0f7a4_28 : decode cJ6_bitCount_0f7a4 28 = .ok (.iadd, 1) := by decide +kernel
theorem dJ6_bitCount_0f7a4_29 : decode cJ6_bitCount_0f7a4 29 = .ok (.ldc_w 267, 3) := by decide +kernel
theorem dJ6_bitCount_0f7a4_32 : decode cJ6_bitCount_0f7a4 32 = .ok (.iand, 1) := by decide +kernel
theorem dJ6_bitCount_0f7a4_33 : decode cJ6_bitCount_0f7a4 33 = .ok (.istore_n 0, 1) := by decide +kernel
theorem dJ6_bitCount_0f7a4_34 : decode cJ6_bitCount_0f7a4 34 = .ok (.iload_n 0, 1) := by decide +kernel
theorem dJ6_bitCount_0f7a4_35 : decode cJ6_bitCount_0f7a4 35 = .ok (.iload_n 0, 1) := by decide +kernel
theorem dJ6_bitCount_0f7a4_36 : decode cJ6_bitCount_0f7a4 36 = .ok (.bipush 8, 2) := by decide +kernel
theorem dJ6_bitCount_0f7a4_38 : decode cJ6_bitCount_0f7a4 38 = .ok (.iushr, 1) := by decide +kernel
theorem dJ6_bitCount_0f7a4_39 : decode cJ6_bitCount_0f7a4 39 = .ok (.iadd, 1) := by decide +kernel
theorem dJ6_bitCount_0f7a4_40 : decode cJ6_bitCount_0f7a4 40 = .ok (.istore_n 0, 1) := by decide +kernel
theorem dJ6_bitCount_0f7a4_41 : decode cJ6_bitCount_0f7a4 41 = .ok (.iload_n 0, 1) := by decide +kernel
theorem dJ6_bitCount_0f7a4_42 : decode cJ6_bitCount_0f7a4 42 = .ok (.iload_n 0, 1) := by decide +kernel
theorem dJ6_bitCount_0f7a4_43 : decode cJ6_bitCount_0f7a4 43 = .ok (.bipush 16, 2) := by decide +kernel
theorem dJ6_bitCount_0f7a4_45 : decode cJ6_bitCount_0f7a4 45 = .ok (.iushr, 1) := by decide +kernel
theorem dJ6_bitCount_0f7a4_46 : decode cJ6_bitCount_0f7a4 46 = .ok (.iadd, 1) := by decide +kernel
theorem dJ6_bitCount_0f7a4_47 : decode cJ6_bitCount_0f7a4 47 = .ok (.istore_n 0, 1) := by decide +kernel
theorem dJ6_bitCount_0f7a4_48 : decode cJ6_bitCount_0f7a4 48 = .ok (.iload_n 0, 1) := by decide +kernel
theorem dJ6_bitCount_0f7a4_49 : decode cJ6_bitCount_0f7a4 49 = .ok (.bipush 63, 2) := by decide +kernel
theorem dJ6_bitCount_0f7a4_51 : decode cJ6_bitCount_0f7a4 51 = .ok (.iand, 1) := by decide +kernel
theorem dJ6_bitCount_0f7a4_52 : decode cJ6_bitCount_0f7a4 52 = .ok (.ireturn, 1) := by decide +kernel
theorem dX6_setMark_0 : decode cX6_setMark 0 = .ok (.iload_n 1, 1) := by decide +kernel
theorem dX6_setMark_1 : decode cX6_setMark 1 = .ok (.bipush 10, 2) := by decide +kernel
theorem dX6_setMark_3 : decode cX6_setMark 3 = .ok (.imul, 1) := by decide +kernel
theorem dX6_setMark_4 : decode cX6_setMark 4 = .ok (.iload_n 2, 1) := by decide +kernel
theorem dX6_setMark_5 : decode cX6_setMark 5 = .ok (.iadd, 1) := by decide +kernel
theorem dX6_setMark_6 : decode cX6_setMark 6 = .ok (.istore 4, 2) := by decide +kernel
theorem dX6_setMark_8 : decode cX6_setMark 8 = .ok (.iload 4, 2) := by decide +kernel
theorem dX6_setMark_10 : decode cX6_setMark 10 = .ok (.ifCond .lt 21, 3) := by decide +kernel
theorem dX6_setMark_13 : decode cX6_setMark 13 = .ok (.iload 4, 2) := by decide +kernel
theorem dX6_setMark_15 : decode cX6_setMark 15 = .ok (.aload_n 0, 1) := by decide +kernel
theorem dX6_setMark_16 : decode cX6_setMark 16 = .ok (.getfield 17, 3) := by decide +kernel
theorem dX6_setMark_19 : decode cX6_setMark 19 = .ok (.arraylength, 1) := by decide +kernel
theorem dX6_setMark_20 : decode cX6_setMark 20 = .ok (.if_icmp .ge 11, 3) := by decide +kernel
theorem dX6_setMark_23 : decode cX6_setMark 23 = .ok (.aload_n 0, 1) := by decide +kernel
theorem dX6_setMark_24 : decode cX6_setMark 24 = .ok (.getfield 17, 3) := by decide +kernel
theorem dX6_setMark_27 : decode cX6_setMark 27 = .ok (.iload 4, 2) := by decide +kernel
theorem dX6_setMark_29 : decode cX6_setMark 29 = .ok (.iload_n 3, 1) := by decide +kernel
theorem dX6_setMark_30 : decode cX6_setMark 30 = .ok (.iastore, 1) := by decide +kernel
theorem dX6_setMark_31 : decode cX6_setMark 31 = .ok (.return_, 1) := by decide +kernel
theorem dX6_mark_0 : decode cX6_mark 0 = .ok (.bipush 40, 2) := by decide +kernel
theorem dX6_mark_2 : decode cX6_mark 2 = .ok (.istore 5, 2) := by decide +kernel
theorem dX6_mark_4 : decode cX6_mark 4 = .ok (.iload_n 1, 1) := by decide +kernel
theorem dX6_mark_5 : decode cX6_mark 5 = .ok (.ifCond .lt 27, 3) := by decide +kernel
theorem dX6_mark_8 : decode cX6_mark 8 = .ok (.iload_n 1, 1) := by decide +kernel
theorem dX6_mark_9 : decode cX6_mark 9 = .ok (.aload_n 0, 1) := by decide +kernel
theorem dX6_mark_10 : decode cX6_mark 10 = .ok (.getfield 21, 3) := by decide +kernel
theorem dX6_mark_13 : decode cX6_mark 13 = .ok (.arraylength, 1) := by decide +kernel
theorem dX6_mark_14 : decode cX6_mark 14 = .ok (.if_icmp .ge 18, 3) := by decide +kernel
theorem dX6_mark_17 : decode cX6_mark 17 = .ok (.lload_n 2, 1) := by decide +kernel
theorem dX6_mark_18 : decode cX6_mark 18 = .ok (.lconst 0, 1) := by decide +kernel
theorem dX6_mark_19 : decode cX6_mark 19 = .ok (.lcmp, 1) := by decide +kernel
theorem dX6_mark_20 : decode cX6_mark 20 = .ok (.ifCond .lt 12, 3) := by decide +kernel
theorem dX6_mark_23 : decode cX6_mark 23 = .ok (.lload_n 2, 1) := by decide +kernel
theorem dX6_mark_24 : decode cX6_mark 24 = .ok (.iload 5, 2) := by decide +kernel
theorem dX6_mark_26 : decode cX6_mark 26 = .ok (.lushr, 1) := by decide +kernel
theorem dX6_mark_27 : decode cX6_mark 27 = .ok (.lconst 0, 1) := by decide +kernel
theorem dX6_mark_28 : decode cX6_mark 28 = .ok (.lcmp, 1) := by decide +kernel
theorem dX6_mark_29 : decode cX6_mark 29 = .ok (.ifCond .eq 5, 3) := by decide +kernel
theorem dX6_mark_32 : decode cX6_mark 32 = .ok (.iconst (-1), 1) := by decide +kernel
theorem dX6_mark_33 : decode cX6_mark 33 = .ok (.ireturn, 1) := by decide +kernel
theorem dX6_mark_34 : decode cX6_mark 34 = .ok (.iconst 0, 1) := by decide +kernel
theorem dX6_mark_35 : decode cX6_mark 35 = .ok (.istore 6, 2) := by decide +kernel
theorem dX6_mark_37 : decode cX6_mark 37 = .ok (.iload 5, 2) := by decide +kernel
theorem dX6_mark_39 : decode cX6_mark 39 = .ok (.iconst 4, 1) := by decide +kernel
theorem dX6_mark_40 : decode cX6_mark 40 = .ok (.isub, 1) := by decide +kernel
theorem dX6_mark_41 : decode cX6_mark 41 = .ok (.istore 7, 2) := by decide +kernel
theorem dX6_mark_43 : decode cX6_mark 43 = .ok (.iload 7, 2) := by decide +kernel
theorem dX6_mark_45 : decode cX6_mark 45 = .ok (.ifCond .lt 84, 3) := by decide +kernel
theorem dX6_mark_48 : decode cX6_mark 48 = .ok (.lload_n 2, 1) := by decide +kernel
theorem dX6_mark_49 : decode cX6_mark 49 = .ok (.iload 7, 2) := by decide +kernel
theorem dX6_mark_51 : decode cX6_mark 51 = .ok (.lushr, 1) := by decide +kernel
theorem dX6_mark_52 : decode cX6_mark 52 = .ok (.ldc2_w 43, 3) := by decide +kernel
theorem dX6_mark_55 : decode cX6_mark 55 = .ok (.land, 1) := by decide +kernel
theorem dX6_mark_56 : decode cX6_mark 56 = .ok (.l2i, 1) := by decide +kernel
theorem dX6_mark_57 : decode cX6_mark 57 = .ok (.istore 8, 2) := by decide +kernel
theorem dX6_mark_59 : decode cX6_mark 59 = .ok (.iload 8, 2) := by decide +kernel
theorem dX6_mark_61 : decode cX6_mark 61 = .ok (.ifCond .ne 12, 3) := by decide +kernel
theorem dX6_mark_64 : decode cX6_mark 64 = .ok (.iload 6, 2) := by decide +kernel
theorem dX6_mark_66 : decode cX6_mark 66 = .ok (.ifCond .ne 7, 3) := by decide +kernel
theorem dX6_mark_69 : decode cX6_mark 69 = .ok (.iconst 1, 1) := by decide +kernel
theorem dX6_mark_70 : decode cX6_mark 70 = .ok (.goto 4, 3) := by decide +kernel
theorem dX6_mark_73 : decode cX6_mark 73 = .ok (.iconst 0, 1) := by decide +kernel
theorem dX6_mark_74 : decode cX6_mark 74 = .ok (.istore 9, 2) := by decide +kernel
theorem dX6_mark_76 : decode cX6_mark 76 = .ok (.iload 9, 2) := by decide +kernel
theorem dX6_mark_78 : decode cX6_mark 78 = .ok (.ifCond .ne 27, 3) := by decide +kernel
theorem dX6_mark_81 : decode cX6_mark 81 = .ok (.iload 8, 2) := by decide +kernel
theorem dX6_mark_83 : decode cX6_mark 83 = .ok (.ifCond .eq 20, 3) := by decide +kernel
theorem dX6_mark_86 : decode cX6_mark 86 = .ok (.iload 8, 2) := by decide +kernel
theorem dX6_mark_88 : decode cX6_mark 88 = .ok (.iload 4, 2) := by decide +kernel
theorem dX6_mark_90 : decode cX6_mark 90 = .ok (.if_icmp .gt 13, 3) := by decide +kernel
theorem dX6_mark_93 : decode cX6_mark 93 = .ok (.iload 6, 2) := by decide +kernel
theorem dX6_mark_95 : decode cX6_mark 95 = .ok (.iload 8, 2) := by decide +kernel
theorem dX6_mark_97 : decode cX6_mark 97 = .ok (.iushr, 1) := by decide +kernel
theorem dX6_mark_98 : decode cX6_mark 98 = .ok (.iconst 1, 1) := by decide +kernel
theorem dX6_mark_99 : decode cX6_mark 99 = .ok (.iand, 1) := by decide +kernel
theorem dX6_mark_100 : decode cX6_mark 100 = .ok (.ifCond .eq 5, 3) := by decide +kernel
theorem dX6_mark_103 : decode cX6_mark 103 = .ok (.iconst (-1), 1) := by decide +kernel
theorem dX6_mark_104 : decode cX6_mark 104 = .ok (.ireturn, 1) := by decide +kernel
theorem dX6_mark_105 : decode cX6_mark 105 = .ok (.iload 6, 2) := by decide +kernel
theorem dX6_mark_107 : decode cX6_mark 107 = .ok (.iload 9, 2) := by decide +kernel
theorem dX6_mark_109 : decode cX6_mark 109 = .ok (.ifCond .eq 7, 3) := by decide +kernel
theorem dX6_mark_112 : decode cX6_mark 112 = .ok (.iconst 0, 1) := by decide +kernel
theorem dX6_mark_113 : decode cX6_mark 113 = .ok (.goto 7, 3) := by decide +kernel
theorem dX6_mark_116 : decode cX6_mark 116 = .ok (.iconst 1, 1) := by decide +kernel
theorem dX6_mark_117 : decode cX6_mark 117 = .ok (.iload 8, 2) := by decide +kernel
theorem dX6_mark_119 : decode cX6_mark 119 = .ok (.ishl, 1) := by decide +kernel
theorem dX6_mark_120 : decode cX6_mark 120 = .ok (.ior, 1) := by decide +kernel
theorem dX6_mark_121 : decode cX6_mark 121 = .ok (.istore 6, 2) := by decide +kernel
theorem dX6_mark_123 : decode cX6_mark 123 = .ok (.iinc 7 (-4), 3) := by decide +kernel
theorem dX6_mark_126 : decode cX6_mark 126 = .ok (.goto (-83), 3) := by decide +kernel
theorem dX6_mark_129 : decode cX6_mark 129 = .ok (.iload 6, 2) := by decide +kernel
theorem dX6_mark_131 : decode cX6_mark 131 = .ok (.invokestatic 45, 3) := by decide +kernel
theorem dX6_mark_134 : decode cX6_mark 134 = .ok (.istore 7, 2) := by decide +kernel
theorem dX6_mark_136 : decode cX6_mark 136 = .ok (.iconst 0, 1) := by decide +kernel
theorem dX6_mark_137 : decode cX6_mark 137 = .ok (.istore 8, 2) := by decide +kernel
theorem dX6_mark_139 : decode cX6_mark 139 = .ok (.iload 8, 2) := by decide +kernel
theorem dX6_mark_141 : decode cX6_mark 141 = .ok (.iload 7, 2) := by decide +kernel
theorem dX6_mark_143 : decode cX6_mark 143 = .ok (.if_icmp .ge 38, 3) := by decide +kernel
theorem dX6_mark_146 : decode cX6_mark 146 = .ok (.iconst 4, 1) := by decide +kernel
theorem dX6_mark_147 : decode cX6_mark 147 = .ok (.iload 7, 2) := by decide +kernel
theorem dX6_mark_149 : decode cX6_mark 149 = .ok (.iconst 1, 1) := by decide +kernel
theorem dX6_mark_150 : decode cX6_mark 150 = .ok (.isub, 1) := by decide +kernel
theorem dX6_mark_151 : decode cX6_mark 151 = .ok (.iload 8, 2) := by decide +kernel
theorem dX6_mark_153 : decode cX6_mark 153 = .ok (.isub, 1) := by decide +kernel
theorem dX6_mark_154 : decode cX6_mark 154 = .ok (.imul, 1) := by decide +kernel
theorem dX6_mark_155 : decode cX6_mark 155 = .ok (.istore 9, 2) := by decide +kernel
theorem dX6_mark_157 : decode cX6_mark 157 = .ok (.aload_n 0, 1) := by decide +kernel
theorem dX6_mark_158 : decode cX6_mark 158 = .ok (.iload_n 1, 1) := by decide +kernel
theorem dX6_mark_159 : decode cX6_mark 159 = .ok (.iload 8, 2) := by decide +kernel
theorem dX6_mark_161 : decode cX6_mark 161 = .ok (.lload_n 2, 1) := by decide +kernel
theorem dX6_mark_162 : decode cX6_mark 162 = .ok (.iload 9, 2) := by decide +kernel
theorem dX6_mark_164 : decode cX6_mark 164 = .ok (.lushr, 1) := by decide +kernel
theorem dX6_mark_165 : decode cX6_mark 165 = .ok (.ldc2_w 43, 3) := by decide +kernel
theorem dX6_mark_168 : decode cX6_mark 168 = .ok (.land, 1) := by decide +kernel
theorem dX6_mark_169 : decode cX6_mark 169 = .ok (.l2i, 1) := by decide +kernel
theorem dX6_mark_170 : decode cX6_mark 170 = .ok (.iconst 1, 1) := by decide +kernel
theorem dX6_mark_171 : decode cX6_mark 171 = .ok (.isub, 1) := by decide +kernel
theorem dX6_mark_172 : decode cX6_mark 172 = .ok (.invokevirtual 51, 3) := by decide +kernel
theorem dX6_mark_175 : decode cX6_mark 175 = .ok (.iinc 8 1, 3) := by decide +kernel
theorem dX6_mark_178 : decode cX6_mark 178 = .ok (.goto (-39), 3) := by decide +kernel
theorem dX6_mark_181 : decode cX6_mark 181 = .ok (.aload_n 0, 1) := by decide +kernel
theorem dX6_mark_182 : decode cX6_mark 182 = .ok (.getfield 21, 3) := by decide +kernel
theorem dX6_mark_185 : decode cX6_mark 185 = .ok (.iload_n 1, 1) := by decide +kernel
theorem dX6_mark_186 : decode cX6_mark 186 = .ok (.iload 7, 2) := by decide +kernel
theorem dX6_mark_188 : decode cX6_mark 188 = .ok (.iastore, 1) := by decide +kernel
theorem dX6_mark_189 : decode cX6_mark 189 = .ok (.iload 7, 2) := by decide +kernel
theorem dX6_mark_191 : decode cX6_mark 191 = .ok (.ireturn, 1) := by decide +kernel
theorem dX6_lengthOf_0 : decode cX6_lengthOf 0 = .ok (.iload_n 1, 1) := by decide +kernel
theorem dX6_lengthOf_1 : decode cX6_lengthOf 1 = .ok (.ifCond .lt 21, 3) := by decide +kernel
theorem dX6_lengthOf_4 : decode cX6_lengthOf 4 = .ok (.iload_n 1, 1) := by decide +kernel
theorem dX6_lengthOf_5 : decode cX6_lengthOf 5 = .ok (.aload_n 0, 1) := by decide +kernel
theorem dX6_lengthOf_6 : decode cX6_lengthOf 6 = .ok (.getfield 21, 3) := by decide +kernel
theorem dX6_lengthOf_9 : decode cX6_lengthOf 9 = .ok (.arraylength, 1) := by decide +kernel
theorem dX6_lengthOf_10 : decode cX6_lengthOf 10 = .ok (.if_icmp .ge 12, 3) := by decide +kernel
theorem dX6_lengthOf_13 : decode cX6_lengthOf 13 = .ok (.aload_n 0, 1) := by decide +kernel
theorem dX6_lengthOf_14 : decode cX6_lengthOf 14 = .ok (.getfield 21, 3) := by decide +kernel
theorem dX6_lengthOf_17 : decode cX6_lengthOf 17 = .ok (.iload_n 1, 1) := by decide +kernel
theorem dX6_lengthOf_18 : decode cX6_lengthOf 18 = .ok (.iaload, 1) := by decide +kernel
theorem dX6_lengthOf_19 : decode cX6_lengthOf 19 = .ok (.goto 4, 3) := by decide +kernel
theorem dX6_lengthOf_22 : decode cX6_lengthOf 22 = .ok (.iconst 0, 1) := by decide +kernel
theorem dX6_lengthOf_23 : decode cX6_lengthOf 23 = .ok (.ireturn, 1) := by decide +kernel
theorem dX6_markAt_0 : decode cX6_markAt 0 = .ok (.iload_n 1, 1) := by decide +kernel
theorem dX6_markAt_1 : decode cX6_markAt 1 = .ok (.bipush 10, 2) := by decide +kernel
theorem dX6_markAt_3 : decode cX6_markAt 3 = .ok (.imul, 1) := by decide +kernel
theorem dX6_markAt_4 : decode cX6_markAt 4 = .ok (.iload_n 2, 1) := by decide +kernel
theorem dX6_markAt_5 : decode cX6_markAt 5 = .ok (.iadd, 1) := by decide +kernel
theorem dX6_markAt_6 : decode cX6_markAt 6 = .ok (.istore_n 3, 1) := by decide +kernel
theorem dX6_markAt_7 : decode cX6_markAt 7 = .ok (.iload_n 3, 1) := by decide +kernel
theorem dX6_markAt_8 : decode cX6_markAt 8 = .ok (.ifCond .lt 21, 3) := by decide +kernel
theorem dX6_markAt_11 : decode cX6_markAt 11 = .ok (.iload_n 3, 1) := by decide +kernel
theorem dX6_markAt_12 : decode cX6_markAt 12 = .ok (.aload_n 0, 1) := by decide +kernel
theorem dX6_markAt_13 : decode cX6_markAt 13 = .ok (.getfield 17, 3) := by decide +kernel
theorem dX6_markAt_16 : decode cX6_markAt 16 = .ok (.arraylength, 1) := by decide +kernel
theorem dX6_markAt_17 : decode cX6_markAt 17 = .ok (.if_icmp .ge 12, 3) := by decide +kernel
theorem dX6_markAt_20 : decode cX6_markAt 20 = .ok (.aload_n 0, 1) := by decide +kernel
theorem dX6_markAt_21 : decode cX6_markAt 21 = .ok (.getfield 17, 3) := by decide +kernel
theorem dX6_markAt_24 : decode cX6_markAt 24 = .ok (.iload_n 3, 1) := by decide +kernel
theorem dX6_markAt_25 : decode cX6_markAt 25 = .ok (.iaload, 1) := by decide +kernel
theorem dX6_markAt_26 : decode cX6_markAt 26 = .ok (.goto 4, 3) := by decide +kernel
theorem dX6_markAt_29 : decode cX6_markAt 29 = .ok (.iconst (-1), 1) := by decide +kernel
theorem dX6_markAt_30 : decode cX6_markAt 30 = .ok (.ireturn, 1) := by decide +kernel
theorem dX6_isBiased_0 : decode cX6_isBiased 0 = .ok (.iconst 0, 1) := by decide +kernel
theorem dX6_isBiased_1 : decode cX6_isBiased 1 = .ok (.istore 5, 2) := by decide +kernel
theorem dX6_isBiased_3 : decode cX6_isBiased 3 = .ok (.iload 5, 2) := by decide +kernel
theorem dX6_isBiased_5 : decode cX6_isBiased 5 = .ok (.aload_n 0, 1) := by decide +kernel
theorem dX6_isBiased_6 : decode cX6_isBiased 6 = .ok (.iload_n 1, 1) := by decide +kernel
theorem dX6_isBiased_7 : decode cX6_isBiased 7 = .ok (.invokevirtual 63, 3) := by decide +kernel
theorem dX6_isBiased_10 : decode cX6_isBiased 10 = .ok (.if_icmp .ge 71, 3) := by decide +kernel
theorem dX6_isBiased_13 : decode cX6_isBiased 13 = .ok (.aload_n 0, 1) := by decide +kernel
theorem dX6_isBiased_14 : decode cX6_isBiased 14 = .ok (.iload_n 1, 1) := by decide +kernel
theorem dX6_isBiased_15 : decode cX6_isBiased 15 = .ok (.iload 5, 2) := by decide +kernel
theorem dX6_isBiased_17 : decode cX6_isBiased 17 = .ok (.invokevirtual 66, 3) := by decide +kernel
theorem dX6_isBiased_20 : decode cX6_isBiased 20 = .ok (.istore 6, 2) := by decide +kernel
theorem dX6_isBiased_22 : decode cX6_isBiased 22 = .ok (.iload 6, 2) := by decide +kernel
theorem dX6_isBiased_24 : decode cX6_isBiased 24 = .ok (.ifCond .lt 17, 3) := by decide +kernel
theorem dX6_isBiased_27 : decode cX6_isBiased 27 = .ok (.iload 6, 2) := by decide +kernel
theorem dX6_isBiased_29 : decode cX6_isBiased 29 = .ok (.aload_n 3, 1) := by decide +kernel
theorem dX6_isBiased_30 : decode cX6_isBiased 30 = .ok (.arraylength, 1) := by decide +kernel
theorem dX6_isBiased_31 : decode cX6_isBiased 31 = .ok (.if_icmp .ge 10, 3) := by decide +kernel
theorem dX6_isBiased_34 : decode cX6_isBiased 34 = .ok (.aload_n 3, 1) := by decide +kernel
theorem dX6_isBiased_35 : decode cX6_isBiased 35 = .ok (.iload 6, 2) := by decide +kernel
theorem dX6_isBiased_37 : decode cX6_isBiased 37 = .ok (.aaload, 1) := by decide +kernel
theorem dX6_isBiased_38 : decode cX6_isBiased 38 = .ok (.goto 4, 3) := by decide +kernel
theorem dX6_isBiased_41 : decode cX6_isBiased 41 = .ok (.aconst_null, 1) := by decide +kernel
theorem dX6_isBiased_42 : decode cX6_isBiased 42 = .ok (.astore 7, 2) := by decide +kernel
theorem dX6_isBiased_44 : decode cX6_isBiased 44 = .ok (.aload 7, 2) := by decide +kernel
theorem dX6_isBiased_46 : decode cX6_isBiased 46 = .ok (.ifnull 29, 3) := by decide +kernel
theorem dX6_isBiased_49 : decode cX6_isBiased 49 = .ok (.aload_n 0, 1) := by decide +kernel
theorem dX6_isBiased_50 : decode cX6_isBiased 50 = .ok (.iload 6, 2) := by decide +kernel
theorem dX6_isBiased_52 : decode cX6_isBiased 52 = .ok (.invokevirtual 70, 3) := by decide +kernel
theorem dX6_isBiased_55 : decode cX6_isBiased 55 = .ok (.ifCond .eq 20, 3) := by decide +kernel
theorem dX6_isBiased_58 : decode cX6_isBiased 58 = .ok (.aload_n 2, 1) := by decide +kernel
theorem dX6_isBiased_59 : decode cX6_isBiased 59 = .ok (.iload_n 1, 1) := by decide +kernel
theorem dX6_isBiased_60 : decode cX6_isBiased 60 = .ok (.aload 7, 2) := by decide +kernel
theorem dX6_isBiased_62 : decode cX6_isBiased 62 = .ok (.getfield 71, 3) := by decide +kernel
theorem dX6_isBiased_65 : decode cX6_isBiased 65 = .ok (.iload 4, 2) := by decide +kernel
theorem dX6_isBiased_67 : decode cX6_isBiased 67 = .ok (.invokevirtual 76, 3) := by decide +kernel
theorem dX6_isBiased_70 : decode cX6_isBiased 70 = .ok (.ifCond .eq 5, 3) := by decide +kernel
theorem dX6_isBiased_73 : decode cX6_isBiased 73 = .ok (.iconst 1, 1) := by decide +kernel
theorem dX6_isBiased_74 : decode cX6_isBiased 74 = .ok (.ireturn, 1) := by decide +kernel
theorem dX6_isBiased_75 : decode cX6_isBiased 75 = .ok (.iinc 5 1, 3) := by decide +kernel
theorem dX6_isBiased_78 : decode cX6_isBiased 78 = .ok (.goto (-75), 3) := by decide +kernel
theorem dX6_isBiased_81 : decode cX6_isBiased 81 = .ok (.iconst 0, 1) := by decide +kernel
theorem dX6_isBiased_82 : decode cX6_isBiased 82 = .ok (.ireturn, 1) := by decide +kernel
theorem dX6_weighVoices_0 : decode cX6_weighVoices 0 = .ok (.iconst 0, 1) := by decide +kernel
theorem dX6_weighVoices_1 : decode cX6_weighVoices 1 = .ok (.istore 4, 2) := by decide +kernel
theorem dX6_weighVoices_3 : decode cX6_weighVoices 3 = .ok (.iload 4, 2) := by decide +kernel
theorem dX6_weighVoices_5 : decode cX6_weighVoices 5 = .ok (.aload_n 0, 1) := by decide +kernel
theorem dX6_weighVoices_6 : decode cX6_weighVoices 6 = .ok (.getfield 24, 3) := by decide +kernel
theorem dX6_weighVoices_9 : decode cX6_weighVoices 9 = .ok (.arraylength, 1) := by decide +kernel
theorem dX6_weighVoices_10 : decode cX6_weighVoices 10 = .ok (.if_icmp .ge 42, 3) := by decide +kernel
theorem dX6_weighVoices_13 : decode cX6_weighVoices 13 = .ok (.aload_n 0, 1) := by decide +kernel
theorem dX6_weighVoices_14 : decode cX6_weighVoices 14 = .ok (.getfield 24, 3) := by decide +kernel
theorem dX6_weighVoices_17 : decode cX6_weighVoices 17 = .ok (.iload 4, 2) := by decide +kernel
theorem dX6_weighVoices_19 : decode cX6_weighVoices 19 = .ok (.aload_n 1, 1) := by decide +kernel
theorem dX6_weighVoices_20 : decode cX6_weighVoices 20 = .ok (.iload 4, 2) := by decide +kernel
theorem dX6_weighVoices_22 : decode cX6_weighVoices 22 = .ok (.invokevirtual 55, 3) := by decide +kernel
theorem dX6_weighVoices_25 : decode cX6_weighVoices 25 = .ok (.ifCond .eq 19, 3) := by decide +kernel
theorem dX6_weighVoices_28 : decode cX6_weighVoices 28 = .ok (.aload_n 0, 1) := by decide +kernel
theorem dX6_weighVoices_29 : decode cX6_weighVoices 29 = .ok (.iload 4, 2) := by decide +kernel
theorem dX6_weighVoices_31 : decode cX6_weighVoices 31 = .ok (.aload_n 1, 1) := by decide +kernel
theorem dX6_weighVoices_32 : decode cX6_weighVoices 32 = .ok (.aload_n 2, 1) := by decide +kernel
theorem dX6_weighVoices_33 : decode cX6_weighVoices 33 = .ok (.iload_n 3, 1) := by decide +kernel
theorem dX6_weighVoices_34 : decode cX6_weighVoices 34 = .ok (.invokevirtual 59, 3) := by decide +kernel
theorem dX6_weighVoices_37 : decode cX6_weighVoices 37 = .ok (.ifCond .ne 7, 3) := by decide +kernel
theorem dX6_weighVoices_40 : decode cX6_weighVoices 40 = .ok (.iconst 1, 1) := by decide +kernel
theorem dX6_weighVoices_41 : decode cX6_weighVoices 41 = .ok (.goto 4, 3) := by decide +kernel
theorem dX6_weighVoices_44 : decode cX6_weighVoices 44 = .ok (.iconst 0, 1) := by decide +kernel
theorem dX6_weighVoices_45 : decode cX6_weighVoices 45 = .ok (.bastore, 1) := by decide +kernel
theorem dX6_weighVoices_46 : decode cX6_weighVoices 46 = .ok (.iinc 4 1, 3) := by decide +kernel
theorem dX6_weighVoices_49 : decode cX6_weighVoices 49 = .ok (.goto (-46), 3) := by decide +kernel
theorem dX6_weighVoices_52 : decode cX6_weighVoices 52 = .ok (.return_, 1) := by decide +kernel
theorem dX6_placeIn_0 : decode cX6_placeIn 0 = .ok (.iconst 0, 1) := by decide +kernel
theorem dX6_placeIn_1 : decode cX6_placeIn 1 = .ok (.istore_n 3, 1) := by decide +kernel
theorem dX6_placeIn_2 : decode cX6_placeIn 2 = .ok (.iconst 0, 1) := by decide +kernel
theorem dX6_placeIn_3 : decode cX6_placeIn 3 = .ok (.istore 4, 2) := by decide +kernel
theorem dX6_placeIn_5 : decode cX6_placeIn 5 = .ok (.iload 4, 2) := by decide +kernel
theorem dX6_placeIn_7 : decode cX6_placeIn 7 = .ok (.aload_n 0, 1) := by decide +kernel
theorem dX6_placeIn_8 : decode cX6_placeIn 8 = .ok (.iload_n 1, 1) := by decide +kernel
theorem dX6_placeIn_9 : decode cX6_placeIn 9 = .ok (.invokevirtual 63, 3) := by decide +kernel
theorem dX6_placeIn_12 : decode cX6_placeIn 12 = .ok (.if_icmp .ge 43, 3) := by decide +kernel
theorem dX6_placeIn_15 : decode cX6_placeIn 15 = .ok (.aload_n 0, 1) := by decide +kernel
theorem dX6_placeIn_16 : decode cX6_placeIn 16 = .ok (.iload_n 1, 1) := by decide +kernel
theorem dX6_placeIn_17 : decode cX6_placeIn 17 = .ok (.iload 4, 2) := by decide +kernel
theorem dX6_placeIn_19 : decode cX6_placeIn 19 = .ok (.invokevirtual 66, 3) := by decide +kernel
theorem dX6_placeIn_22 : decode cX6_placeIn 22 = .ok (.istore 5, 2) := by decide +kernel
theorem dX6_placeIn_24 : decode cX6_placeIn 24 = .ok (.iload 5, 2) := by decide +kernel
theorem dX6_placeIn_26 : decode cX6_placeIn 26 = .ok (.iload_n 2, 1) := by decide +kernel
theorem dX6_placeIn_27 : decode cX6_placeIn 27 = .ok (.if_icmp .ne 5, 3) := by decide +kernel
theorem dX6_placeIn_30 : decode cX6_placeIn 30 = .ok (.iload_n 3, 1) := by decide +kernel
theorem dX6_placeIn_31 : decode cX6_placeIn 31 = .ok (.ireturn, 1) := by decide +kernel
theorem dX6_placeIn_32 : decode cX6_placeIn 32 = .ok (.iload_n 3, 1) := by decide +kernel
theorem dX6_placeIn_33 : decode cX6_placeIn 33 = .ok (.aload_n 0, 1) := by decide +kernel
theorem dX6_placeIn_34 : decode cX6_placeIn 34 = .ok (.iload 5, 2) := by decide +kernel
theorem dX6_placeIn_36 : decode cX6_placeIn 36 = .ok (.invokevirtual 70, 3) := by decide +kernel
theorem dX6_placeIn_39 : decode cX6_placeIn 39 = .ok (.ifCond .eq 7, 3) := by decide +kernel
theorem dX6_placeIn_42 : decode cX6_placeIn 42 = .ok (.iconst 1, 1) := by decide +kernel
theorem dX6_placeIn_43 : decode cX6_placeIn 43 = .ok (.goto 4, 3) := by decide +kernel
theorem dX6_placeIn_46 : decode cX6_placeIn 46 = .ok (.iconst 0, 1) := by decide +kernel
theorem dX6_placeIn_47 : decode cX6_placeIn 47 = .ok (.iadd, 1) := by decide +kernel
theorem dX6_placeIn_48 : decode cX6_placeIn 48 = .ok (.istore_n 3, 1) := by decide +kernel
theorem dX6_placeIn_49 : decode cX6_placeIn 49 = .ok (.iinc 4 1, 3) := by decide +kernel
theorem dX6_placeIn_52 : decode cX6_placeIn 52 = .ok (.goto (-47), 3) := by decide +kernel
theorem dX6_placeIn_55 : decode cX6_placeIn 55 = .ok (.aload_n 0, 1) := by decide +kernel
theorem dX6_placeIn_56 : decode cX6_placeIn 56 = .ok (.getfield 33, 3) := by decide +kernel
theorem dX6_placeIn_59 : decode cX6_placeIn 59 = .ok (.ireturn, 1) := by decide +kernel
theorem dJ6_compare_7cf53_0 : decode cJ6_compare_7cf53 0 = .ok (.iload_n 0, 1) := by decide +kernel
theorem dJ6_compare_7cf53_1 : decode cJ6_compare_7cf53 1 = .ok (.iload_n 1, 1) := by decide +kernel
theorem dJ6_compare_7cf53_2 : decode cJ6_compare_7cf53 2 = .ok (.if_icmp .ge 7, 3) := by decide +kernel
theorem dJ6_compare_7cf53_5 : decode cJ6_compare_7cf53 5 = .ok (.iconst (-1), 1) := by decide +kernel
theorem dJ6_compare_7cf53_6 : decode cJ6_compare_7cf53 6 = .ok (.goto 13, 3) := by decide +kernel
theorem dJ6_compare_7cf53_9 : decode cJ6_compare_7cf53 9 = .ok (.iload_n 0, 1) := by decide +kernel
theorem dJ6_compare_7cf53_10 : decode cJ6_compare_7cf53 10 = .ok (.iload_n 1, 1) := by decide +kernel
theorem dJ6_compare_7cf53_11 : decode cJ6_compare_7cf53 11 = .ok (.if_icmp .ne 7, 3) := by decide +kernel
theorem dJ6_compare_7cf53_14 : decode cJ6_compare_7cf53 14 = .ok (.iconst 0, 1) := by decide +kernel
theorem dJ6_compare_7cf53_15 : decode cJ6_compare_7cf53 15 = .ok (.goto 4, 3) := by decide +kernel
theorem dJ6_compare_7cf53_18 : decode cJ6_compare_7cf53 18 = .ok (.iconst 1, 1) := by decide +kernel
theorem dJ6_compare_7cf53_19 : decode cJ6_compare_7cf53 19 = .ok (.ireturn, 1) := by decide +kernel
theorem dX6_pairPoints_0 : decode cX6_pairPoints 0 = .ok (.iconst 0, 1) := by decide +kernel
theorem dX6_pairPoints_1 : decode cX6_pairPoints 1 = .ok (.istore_n 3, 1) := by decide +kernel
theorem dX6_pairPoints_2 : decode cX6_pairPoints 2 = .ok (.iconst 0, 1) := by decide +kernel
theorem dX6_pairPoints_3 : decode cX6_pairPoints 3 = .ok (.istore 4, 2) := by decide +kernel
theorem dX6_pairPoints_5 : decode cX6_pairPoints 5 = .ok (.iload 4, 2) := by decide +kernel
theorem dX6_pairPoints_7 : decode cX6_pairPoints 7 = .ok (.aload_n 0, 1) := by decide +kernel
theorem dX6_pairPoints_8 : decode cX6_pairPoints 8 = .ok (.getfield 24, 3) := by decide +kernel
theorem dX6_pairPoints_11 : decode cX6_pairPoints 11 = .ok (.arraylength, 1) := by decide +kernel
theorem dX6_pairPoints_12 : decode cX6_pairPoints 12 = .ok (.if_icmp .ge 38, 3) := by decide +kernel
theorem dX6_pairPoints_15 : decode cX6_pairPoints 15 = .ok (.aload_n 0, 1) := by decide +kernel
theorem dX6_pairPoints_16 : decode cX6_pairPoints 16 = .ok (.iload 4, 2) := by decide +kernel
theorem dX6_pairPoints_18 : decode cX6_pairPoints 18 = .ok (.invokevirtual 80, 3) := by decide +kernel
theorem dX6_pairPoints_21 : decode cX6_pairPoints 21 = .ok (.ifCond .eq 23, 3) := by decide +kernel
theorem dX6_pairPoints_24 : decode cX6_pairPoints 24 = .ok (.iload_n 3, 1) := by decide +kernel
theorem dX6_pairPoints_25 : decode cX6_pairPoints 25 = .ok (.aload_n 0, 1) := by decide +kernel
theorem dX6_pairPoints_26 : decode cX6_pairPoints 26 = .ok (.iload 4, 2) := by decide +kernel
theorem dX6_pairPoints_28 : decode cX6_pairPoints 28 = .ok (.iload_n 2, 1) := by decide +kernel
theorem dX6_pairPoints_29 : decode cX6_pairPoints 29 = .ok (.invokevirtual 83, 3) := by decide +kernel
theorem dX6_pairPoints_32 : decode cX6_pairPoints 32 = .ok (.aload_n 0, 1) := by decide +kernel
theorem dX6_pairPoints_33 : decode cX6_pairPoints 33 = .ok (.iload 4, 2) := by decide +kernel
theorem dX6_pairPoints_35 : decode cX6_pairPoints 35 = .ok (.iload_n 1, 1) := by decide +kernel
theorem dX6_pairPoints_36 : decode cX6_pairPoints 36 = .ok (.invokevirtual 83, 3) := by decide +kernel
