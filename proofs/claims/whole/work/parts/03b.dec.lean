theorem dX6_pairPoints_39 : decode cX6_pairPoints 39 = .ok (.invokestatic 89, 3) := by decide +kernel
theorem dX6_pairPoints_42 : decode cX6_pairPoints 42 = .ok (.iadd, 1) := by decide +kernel
theorem dX6_pairPoints_43 : decode cX6_pairPoints 43 = .ok (.istore_n 3, 1) := by decide +kernel
theorem dX6_pairPoints_44 : decode cX6_pairPoints 44 = .ok (.iinc 4 1, 3) := by decide +kernel
theorem dX6_pairPoints_47 : decode cX6_pairPoints 47 = .ok (.goto (-42), 3) := by decide +kernel
theorem dX6_pairPoints_50 : decode cX6_pairPoints 50 = .ok (.iload_n 3, 1) := by decide +kernel
theorem dX6_pairPoints_51 : decode cX6_pairPoints 51 = .ok (.ifCond .le 5, 3) := by decide +kernel
theorem dX6_pairPoints_54 : decode cX6_pairPoints 54 = .ok (.iconst 2, 1) := by decide +kernel
theorem dX6_pairPoints_55 : decode cX6_pairPoints 55 = .ok (.ireturn, 1) := by decide +kernel
theorem dX6_pairPoints_56 : decode cX6_pairPoints 56 = .ok (.iload_n 3, 1) := by decide +kernel
theorem dX6_pairPoints_57 : decode cX6_pairPoints 57 = .ok (.ifCond .ne 7, 3) := by decide +kernel
theorem dX6_pairPoints_60 : decode cX6_pairPoints 60 = .ok (.iconst 1, 1) := by decide +kernel
theorem dX6_pairPoints_61 : decode cX6_pairPoints 61 = .ok (.goto 4, 3) := by decide +kernel
theorem dX6_pairPoints_64 : decode cX6_pairPoints 64 = .ok (.iconst 0, 1) := by decide +kernel
theorem dX6_pairPoints_65 : decode cX6_pairPoints 65 = .ok (.ireturn, 1) := by decide +kernel
theorem dX6_pointsBy_0 : decode cX6_pointsBy 0 = .ok (.iconst 0, 1) := by decide +kernel
theorem dX6_pointsBy_1 : decode cX6_pointsBy 1 = .ok (.istore_n 3, 1) := by decide +kernel
theorem dX6_pointsBy_2 : decode cX6_pointsBy 2 = .ok (.iload_n 1, 1) := by decide +kernel
theorem dX6_pointsBy_3 : decode cX6_pointsBy 3 = .ok (.lookupswitch 122 #[(0, 25), (1, 73)], 25) := by decide +kernel
theorem dX6_pointsBy_28 : decode cX6_pointsBy 28 = .ok (.iconst 0, 1) := by decide +kernel
theorem dX6_pointsBy_29 : decode cX6_pointsBy 29 = .ok (.istore 4, 2) := by decide +kernel
theorem dX6_pointsBy_31 : decode cX6_pointsBy 31 = .ok (.iload 4, 2) := by decide +kernel
theorem dX6_pointsBy_33 : decode cX6_pointsBy 33 = .ok (.aload_n 0, 1) := by decide +kernel
theorem dX6_pointsBy_34 : decode cX6_pointsBy 34 = .ok (.getfield 24, 3) := by decide +kernel
theorem dX6_pointsBy_37 : decode cX6_pointsBy 37 = .ok (.arraylength, 1) := by decide +kernel
theorem dX6_pointsBy_38 : decode cX6_pointsBy 38 = .ok (.if_icmp .ge 36, 3) := by decide +kernel
theorem dX6_pointsBy_41 : decode cX6_pointsBy 41 = .ok (.iload_n 3, 1) := by decide +kernel
theorem dX6_pointsBy_42 : decode cX6_pointsBy 42 = .ok (.aload_n 0, 1) := by decide +kernel
theorem dX6_pointsBy_43 : decode cX6_pointsBy 43 = .ok (.iload 4, 2) := by decide +kernel
theorem dX6_pointsBy_45 : decode cX6_pointsBy 45 = .ok (.invokevirtual 80, 3) := by decide +kernel
theorem dX6_pointsBy_48 : decode cX6_pointsBy 48 = .ok (.ifCond .eq 17, 3) := by decide +kernel
theorem dX6_pointsBy_51 : decode cX6_pointsBy 51 = .ok (.aload_n 0, 1) := by decide +kernel
theorem dX6_pointsBy_52 : decode cX6_pointsBy 52 = .ok (.iload 4, 2) := by decide +kernel
theorem dX6_pointsBy_54 : decode cX6_pointsBy 54 = .ok (.iload_n 2, 1) := by decide +kernel
theorem dX6_pointsBy_55 : decode cX6_pointsBy 55 = .ok (.invokevirtual 83, 3) := by decide +kernel
theorem dX6_pointsBy_58 : decode cX6_pointsBy 58 = .ok (.ifCond .ne 7, 3) := by decide +kernel
theorem dX6_pointsBy_61 : decode cX6_pointsBy 61 = .ok (.iconst 1, 1) := by decide +kernel
theorem dX6_pointsBy_62 : decode cX6_pointsBy 62 = .ok (.goto 4, 3) := by decide +kernel
theorem dX6_pointsBy_65 : decode cX6_pointsBy 65 = .ok (.iconst 0, 1) := by decide +kernel
theorem dX6_pointsBy_66 : decode cX6_pointsBy 66 = .ok (.iadd, 1) := by decide +kernel
theorem dX6_pointsBy_67 : decode cX6_pointsBy 67 = .ok (.istore_n 3, 1) := by decide +kernel
theorem dX6_pointsBy_68 : decode cX6_pointsBy 68 = .ok (.iinc 4 1, 3) := by decide +kernel
theorem dX6_pointsBy_71 : decode cX6_pointsBy 71 = .ok (.goto (-40), 3) := by decide +kernel
theorem dX6_pointsBy_74 : decode cX6_pointsBy 74 = .ok (.iload_n 3, 1) := by decide +kernel
theorem dX6_pointsBy_75 : decode cX6_pointsBy 75 = .ok (.ireturn, 1) := by decide +kernel
theorem dX6_pointsBy_76 : decode cX6_pointsBy 76 = .ok (.iconst 0, 1) := by decide +kernel
theorem dX6_pointsBy_77 : decode cX6_pointsBy 77 = .ok (.istore 4, 2) := by decide +kernel
theorem dX6_pointsBy_79 : decode cX6_pointsBy 79 = .ok (.iload 4, 2) := by decide +kernel
theorem dX6_pointsBy_81 : decode cX6_pointsBy 81 = .ok (.aload_n 0, 1) := by decide +kernel
theorem dX6_pointsBy_82 : decode cX6_pointsBy 82 = .ok (.getfield 24, 3) := by decide +kernel
theorem dX6_pointsBy_85 : decode cX6_pointsBy 85 = .ok (.arraylength, 1) := by decide +kernel
theorem dX6_pointsBy_86 : decode cX6_pointsBy 86 = .ok (.if_icmp .ge 37, 3) := by decide +kernel
theorem dX6_pointsBy_89 : decode cX6_pointsBy 89 = .ok (.iload_n 3, 1) := by decide +kernel
theorem dX6_pointsBy_90 : decode cX6_pointsBy 90 = .ok (.aload_n 0, 1) := by decide +kernel
theorem dX6_pointsBy_91 : decode cX6_pointsBy 91 = .ok (.iload 4, 2) := by decide +kernel
theorem dX6_pointsBy_93 : decode cX6_pointsBy 93 = .ok (.invokevirtual 80, 3) := by decide +kernel
theorem dX6_pointsBy_96 : decode cX6_pointsBy 96 = .ok (.ifCond .eq 18, 3) := by decide +kernel
theorem dX6_pointsBy_99 : decode cX6_pointsBy 99 = .ok (.aload_n 0, 1) := by decide +kernel
theorem dX6_pointsBy_100 : decode cX6_pointsBy 100 = .ok (.getfield 33, 3) := by decide +kernel
theorem dX6_pointsBy_103 : decode cX6_pointsBy 103 = .ok (.aload_n 0, 1) := by decide +kernel
theorem dX6_pointsBy_104 : decode cX6_pointsBy 104 = .ok (.iload 4, 2) := by decide +kernel
theorem dX6_pointsBy_106 : decode cX6_pointsBy 106 = .ok (.iload_n 2, 1) := by decide +kernel
theorem dX6_pointsBy_107 : decode cX6_pointsBy 107 = .ok (.invokevirtual 83, 3) := by decide +kernel
theorem dX6_pointsBy_110 : decode cX6_pointsBy 110 = .ok (.isub, 1) := by decide +kernel
theorem dX6_pointsBy_111 : decode cX6_pointsBy 111 = .ok (.goto 4, 3) := by decide +kernel
theorem dX6_pointsBy_114 : decode cX6_pointsBy 114 = .ok (.iconst 0, 1) := by decide +kernel
theorem dX6_pointsBy_115 : decode cX6_pointsBy 115 = .ok (.iadd, 1) := by decide +kernel
theorem dX6_pointsBy_116 : decode cX6_pointsBy 116 = .ok (.istore_n 3, 1) := by decide +kernel
theorem dX6_pointsBy_117 : decode cX6_pointsBy 117 = .ok (.iinc 4 1, 3) := by decide +kernel
theorem dX6_pointsBy_120 : decode cX6_pointsBy 120 = .ok (.goto (-41), 3) := by decide +kernel
theorem dX6_pointsBy_123 : decode cX6_pointsBy 123 = .ok (.iload_n 3, 1) := by decide +kernel
theorem dX6_pointsBy_124 : decode cX6_pointsBy 124 = .ok (.ireturn, 1) := by decide +kernel
theorem dX6_pointsBy_125 : decode cX6_pointsBy 125 = .ok (.iconst 0, 1) := by decide +kernel
theorem dX6_pointsBy_126 : decode cX6_pointsBy 126 = .ok (.istore 4, 2) := by decide +kernel
theorem dX6_pointsBy_128 : decode cX6_pointsBy 128 = .ok (.iload 4, 2) := by decide +kernel
theorem dX6_pointsBy_130 : decode cX6_pointsBy 130 = .ok (.aload_n 0, 1) := by decide +kernel
theorem dX6_pointsBy_131 : decode cX6_pointsBy 131 = .ok (.getfield 9, 3) := by decide +kernel
theorem dX6_pointsBy_134 : decode cX6_pointsBy 134 = .ok (.arraylength, 1) := by decide +kernel
theorem dX6_pointsBy_135 : decode cX6_pointsBy 135 = .ok (.if_icmp .ge 39, 3) := by decide +kernel
theorem dX6_pointsBy_138 : decode cX6_pointsBy 138 = .ok (.iload_n 3, 1) := by decide +kernel
theorem dX6_pointsBy_139 : decode cX6_pointsBy 139 = .ok (.iload 4, 2) := by decide +kernel
theorem dX6_pointsBy_141 : decode cX6_pointsBy 141 = .ok (.iload_n 2, 1) := by decide +kernel
theorem dX6_pointsBy_142 : decode cX6_pointsBy 142 = .ok (.if_icmp .eq 23, 3) := by decide +kernel
theorem dX6_pointsBy_145 : decode cX6_pointsBy 145 = .ok (.aload_n 0, 1) := by decide +kernel
theorem dX6_pointsBy_146 : decode cX6_pointsBy 146 = .ok (.getfield 9, 3) := by decide +kernel
theorem dX6_pointsBy_149 : decode cX6_pointsBy 149 = .ok (.iload 4, 2) := by decide +kernel
theorem dX6_pointsBy_151 : decode cX6_pointsBy 151 = .ok (.baload, 1) := by decide +kernel
theorem dX6_pointsBy_152 : decode cX6_pointsBy 152 = .ok (.ifCond .eq 13, 3) := by decide +kernel
theorem dX6_pointsBy_155 : decode cX6_pointsBy 155 = .ok (.aload_n 0, 1) := by decide +kernel
theorem dX6_pointsBy_156 : decode cX6_pointsBy 156 = .ok (.iload_n 2, 1) := by decide +kernel
theorem dX6_pointsBy_157 : decode cX6_pointsBy 157 = .ok (.iload 4, 2) := by decide +kernel
theorem dX6_pointsBy_159 : decode cX6_pointsBy 159 = .ok (.invokevirtual 86, 3) := by decide +kernel
theorem dX6_pointsBy_162 : decode cX6_pointsBy 162 = .ok (.goto 4, 3) := by decide +kernel
theorem dX6_pointsBy_165 : decode cX6_pointsBy 165 = .ok (.iconst 0, 1) := by decide +kernel
theorem dX6_pointsBy_166 : decode cX6_pointsBy 166 = .ok (.iadd, 1) := by decide +kernel
theorem dX6_pointsBy_167 : decode cX6_pointsBy 167 = .ok (.istore_n 3, 1) := by decide +kernel
theorem dX6_pointsBy_168 : decode cX6_pointsBy 168 = .ok (.iinc 4 1, 3) := by decide +kernel
theorem dX6_pointsBy_171 : decode cX6_pointsBy 171 = .ok (.goto (-43), 3) := by decide +kernel
theorem dX6_pointsBy_174 : decode cX6_pointsBy 174 = .ok (.iload_n 3, 1) := by decide +kernel
theorem dX6_pointsBy_175 : decode cX6_pointsBy 175 = .ok (.ireturn, 1) := by decide +kernel
theorem dX6_finish_0 : decode cX6_finish 0 = .ok (.aload_n 0, 1) := by decide +kernel
theorem dX6_finish_1 : decode cX6_finish 1 = .ok (.iload_n 1, 1) := by decide +kernel
theorem dX6_finish_2 : decode cX6_finish 2 = .ok (.putfield 37, 3) := by decide +kernel
theorem dX6_finish_5 : decode cX6_finish 5 = .ok (.aload_n 0, 1) := by decide +kernel
theorem dX6_finish_6 : decode cX6_finish 6 = .ok (.iload_n 2, 1) := by decide +kernel
theorem dX6_finish_7 : decode cX6_finish 7 = .ok (.putfield 40, 3) := by decide +kernel
theorem dX6_finish_10 : decode cX6_finish 10 = .ok (.return_, 1) := by decide +kernel
theorem dX6_scoreOf_0 : decode cX6_scoreOf 0 = .ok (.iload_n 1, 1) := by decide +kernel
theorem dX6_scoreOf_1 : decode cX6_scoreOf 1 = .ok (.ifCond .lt 21, 3) := by decide +kernel
theorem dX6_scoreOf_4 : decode cX6_scoreOf 4 = .ok (.iload_n 1, 1) := by decide +kernel
theorem dX6_scoreOf_5 : decode cX6_scoreOf 5 = .ok (.aload_n 0, 1) := by decide +kernel
theorem dX6_scoreOf_6 : decode cX6_scoreOf 6 = .ok (.getfield 27, 3) := by decide +kernel
theorem dX6_scoreOf_9 : decode cX6_scoreOf 9 = .ok (.arraylength, 1) := by decide +kernel
theorem dX6_scoreOf_10 : decode cX6_scoreOf 10 = .ok (.if_icmp .ge 12, 3) := by decide +kernel
theorem dX6_scoreOf_13 : decode cX6_scoreOf 13 = .ok (.aload_n 0, 1) := by decide +kernel
theorem dX6_scoreOf_14 : decode cX6_scoreOf 14 = .ok (.getfield 27, 3) := by decide +kernel
theorem dX6_scoreOf_17 : decode cX6_scoreOf 17 = .ok (.iload_n 1, 1) := by decide +kernel
theorem dX6_scoreOf_18 : decode cX6_scoreOf 18 = .ok (.iaload, 1) := by decide +kernel
theorem dX6_scoreOf_19 : decode cX6_scoreOf 19 = .ok (.goto 4, 3) := by decide +kernel
theorem dX6_scoreOf_22 : decode cX6_scoreOf 22 = .ok (.iconst 0, 1) := by decide +kernel
theorem dX6_scoreOf_23 : decode cX6_scoreOf 23 = .ok (.ireturn, 1) := by decide +kernel
theorem dX6_isAhead_0 : decode cX6_isAhead 0 = .ok (.aload_n 0, 1) := by decide +kernel
theorem dX6_isAhead_1 : decode cX6_isAhead 1 = .ok (.iload_n 1, 1) := by decide +kernel
theorem dX6_isAhead_2 : decode cX6_isAhead 2 = .ok (.invokevirtual 107, 3) := by decide +kernel
theorem dX6_isAhead_5 : decode cX6_isAhead 5 = .ok (.aload_n 0, 1) := by decide +kernel
theorem dX6_isAhead_6 : decode cX6_isAhead 6 = .ok (.iload_n 2, 1) := by decide +kernel
theorem dX6_isAhead_7 : decode cX6_isAhead 7 = .ok (.invokevirtual 107, 3) := by decide +kernel
theorem dX6_isAhead_10 : decode cX6_isAhead 10 = .ok (.invokestatic 89, 3) := by decide +kernel
theorem dX6_isAhead_13 : decode cX6_isAhead 13 = .ok (.istore_n 3, 1) := by decide +kernel
theorem dX6_isAhead_14 : decode cX6_isAhead 14 = .ok (.iload_n 3, 1) := by decide +kernel
theorem dX6_isAhead_15 : decode cX6_isAhead 15 = .ok (.ifCond .ne 26, 3) := by decide +kernel
theorem dX6_isAhead_18 : decode cX6_isAhead 18 = .ok (.aload_n 0, 1) := by decide +kernel
theorem dX6_isAhead_19 : decode cX6_isAhead 19 = .ok (.getfield 40, 3) := by decide +kernel
theorem dX6_isAhead_22 : decode cX6_isAhead 22 = .ok (.ifCond .ne 19, 3) := by decide +kernel
theorem dX6_isAhead_25 : decode cX6_isAhead 25 = .ok (.aload_n 0, 1) := by decide +kernel
theorem dX6_isAhead_26 : decode cX6_isAhead 26 = .ok (.iconst 0, 1) := by decide +kernel
theorem dX6_isAhead_27 : decode cX6_isAhead 27 = .ok (.iload_n 2, 1) := by decide +kernel
theorem dX6_isAhead_28 : decode cX6_isAhead 28 = .ok (.invokevirtual 83, 3) := by decide +kernel
theorem dX6_isAhead_31 : decode cX6_isAhead 31 = .ok (.aload_n 0, 1) := by decide +kernel
theorem dX6_isAhead_32 : decode cX6_isAhead 32 = .ok (.iconst 0, 1) := by decide +kernel
theorem dX6_isAhead_33 : decode cX6_isAhead 33 = .ok (.iload_n 1, 1) := by decide +kernel
theorem dX6_isAhead_34 : decode cX6_isAhead 34 = .ok (.invokevirtual 83, 3) := by decide +kernel
theorem dX6_isAhead_37 : decode cX6_isAhead 37 = .ok (.invokestatic 89, 3) := by decide +kernel
theorem dX6_isAhead_40 : decode cX6_isAhead 40 = .ok (.istore_n 3, 1) := by decide +kernel
theorem dX6_isAhead_41 : decode cX6_isAhead 41 = .ok (.iload_n 3, 1) := by decide +kernel
theorem dX6_isAhead_42 : decode cX6_isAhead 42 = .ok (.ifCond .le 7, 3) := by decide +kernel
theorem dX6_isAhead_45 : decode cX6_isAhead 45 = .ok (.iconst 1, 1) := by decide +kernel
theorem dX6_isAhead_46 : decode cX6_isAhead 46 = .ok (.goto 4, 3) := by decide +kernel
theorem dX6_isAhead_49 : decode cX6_isAhead 49 = .ok (.iconst 0, 1) := by decide +kernel
theorem dX6_isAhead_50 : decode cX6_isAhead 50 = .ok (.ireturn, 1) := by decide +kernel
theorem dX6_insert_0 : decode cX6_insert 0 = .ok (.iload_n 2, 1) := by decide +kernel
theorem dX6_insert_1 : decode cX6_insert 1 = .ok (.istore_n 3, 1) := by decide +kernel
theorem dX6_insert_2 : decode cX6_insert 2 = .ok (.iload_n 2, 1) := by decide +kernel
theorem dX6_insert_3 : decode cX6_insert 3 = .ok (.iconst 1, 1) := by decide +kernel
theorem dX6_insert_4 : decode cX6_insert 4 = .ok (.isub, 1) := by decide +kernel
theorem dX6_insert_5 : decode cX6_insert 5 = .ok (.istore 4, 2) := by decide +kernel
theorem dX6_insert_7 : decode cX6_insert 7 = .ok (.iload 4, 2) := by decide +kernel
theorem dX6_insert_9 : decode cX6_insert 9 = .ok (.ifCond .lt 63, 3) := by decide +kernel
theorem dX6_insert_12 : decode cX6_insert 12 = .ok (.iload 4, 2) := by decide +kernel
theorem dX6_insert_14 : decode cX6_insert 14 = .ok (.iconst 1, 1) := by decide +kernel
theorem dX6_insert_15 : decode cX6_insert 15 = .ok (.iadd, 1) := by decide +kernel
theorem dX6_insert_16 : decode cX6_insert 16 = .ok (.aload_n 0, 1) := by decide +kernel
theorem dX6_insert_17 : decode cX6_insert 17 = .ok (.getfield 30, 3) := by decide +kernel
theorem dX6_insert_20 : decode cX6_insert 20 = .ok (.arraylength, 1) := by decide +kernel
theorem dX6_insert_21 : decode cX6_insert 21 = .ok (.if_icmp .ge 51, 3) := by decide +kernel
theorem dX6_insert_24 : decode cX6_insert 24 = .ok (.iload_n 3, 1) := by decide +kernel
theorem dX6_insert_25 : decode cX6_insert 25 = .ok (.iload 4, 2) := by decide +kernel
theorem dX6_insert_27 : decode cX6_insert 27 = .ok (.iconst 1, 1) := by decide +kernel
theorem dX6_insert_28 : decode cX6_insert 28 = .ok (.iadd, 1) := by decide +kernel
theorem dX6_insert_29 : decode cX6_insert 29 = .ok (.if_icmp .ne 37, 3) := by decide +kernel
theorem dX6_insert_32 : decode cX6_insert 32 = .ok (.aload_n 0, 1) := by decide +kernel
theorem dX6_insert_33 : decode cX6_insert 33 = .ok (.iload_n 1, 1) := by decide +kernel
theorem dX6_insert_34 : decode cX6_insert 34 = .ok (.aload_n 0, 1) := by decide +kernel
theorem dX6_insert_35 : decode cX6_insert 35 = .ok (.getfield 30, 3) := by decide +kernel
theorem dX6_insert_38 : decode cX6_insert 38 = .ok (.iload 4, 2) := by decide +kernel
theorem dX6_insert_40 : decode cX6_insert 40 = .ok (.iaload, 1) := by decide +kernel
theorem dX6_insert_41 : decode cX6_insert 41 = .ok (.invokevirtual 103, 3) := by decide +kernel
theorem dX6_insert_44 : decode cX6_insert 44 = .ok (.ifCond .eq 22, 3) := by decide +kernel
theorem dX6_insert_47 : decode cX6_insert 47 = .ok (.aload_n 0, 1) := by decide +kernel
theorem dX6_insert_48 : decode cX6_insert 48 = .ok (.getfield 30, 3) := by decide +kernel
theorem dX6_insert_51 : decode cX6_insert 51 = .ok (.iload 4, 2) := by decide +kernel
theorem dX6_insert_53 : decode cX6_insert 53 = .ok (.iconst 1, 1) := by decide +kernel
theorem dX6_insert_54 : decode cX6_insert 54 = .ok (.iadd, 1) := by decide +kernel
theorem dX6_insert_55 : decode cX6_insert 55 = .ok (.aload_n 0, 1) := by decide +kernel
theorem dX6_insert_56 : decode cX6_insert 56 = .ok (.getfield 30, 3) := by decide +kernel
theorem dX6_insert_59 : decode cX6_insert 59 = .ok (.iload 4, 2) := by decide +kernel
theorem dX6_insert_61 : decode cX6_insert 61 = .ok (.iaload, 1) := by decide +kernel
theorem dX6_insert_62 : decode cX6_insert 62 = .ok (.iastore, 1) := by decide +kernel
theorem dX6_insert_63 : decode cX6_insert 63 = .ok (.iload 4, 2) := by decide +kernel
theorem dX6_insert_65 : decode cX6_insert 65 = .ok (.istore_n 3, 1) := by decide +kernel
theorem dX6_insert_66 : decode cX6_insert 66 = .ok (.iinc 4 (-1), 3) := by decide +kernel
theorem dX6_insert_69 : decode cX6_insert 69 = .ok (.goto (-62), 3) := by decide +kernel
theorem dX6_insert_72 : decode cX6_insert 72 = .ok (.iload_n 3, 1) := by decide +kernel
theorem dX6_insert_73 : decode cX6_insert 73 = .ok (.ifCond .lt 19, 3) := by decide +kernel
theorem dX6_insert_76 : decode cX6_insert 76 = .ok (.iload_n 3, 1) := by decide +kernel
theorem dX6_insert_77 : decode cX6_insert 77 = .ok (.aload_n 0, 1) := by decide +kernel
theorem dX6_insert_78 : decode cX6_insert 78 = .ok (.getfield 30, 3) := by decide +kernel
theorem dX6_insert_81 : decode cX6_insert 81 = .ok (.arraylength, 1) := by decide +kernel
theorem dX6_insert_82 : decode cX6_insert 82 = .ok (.if_icmp .ge 10, 3) := by decide +kernel
theorem dX6_insert_85 : decode cX6_insert 85 = .ok (.aload_n 0, 1) := by decide +kernel
theorem dX6_insert_86 : decode cX6_insert 86 = .ok (.getfield 30, 3) := by decide +kernel
theorem dX6_insert_89 : decode cX6_insert 89 = .ok (.iload_n 3, 1) := by decide +kernel
theorem dX6_insert_90 : decode cX6_insert 90 = .ok (.iload_n 1, 1) := by decide +kernel
theorem dX6_insert_91 : decode cX6_insert 91 = .ok (.iastore, 1) := by decide +kernel
theorem dX6_insert_92 : decode cX6_insert 92 = .ok (.return_, 1) := by decide +kernel
theorem dX6_rankAll_0 : decode cX6_rankAll 0 = .ok (.iconst 0, 1) := by decide +kernel
theorem dX6_rankAll_1 : decode cX6_rankAll 1 = .ok (.istore_n 2, 1) := by decide +kernel
theorem dX6_rankAll_2 : decode cX6_rankAll 2 = .ok (.iconst 0, 1) := by decide +kernel
theorem dX6_rankAll_3 : decode cX6_rankAll 3 = .ok (.istore_n 3, 1) := by decide +kernel
theorem dX6_rankAll_4 : decode cX6_rankAll 4 = .ok (.iload_n 3, 1) := by decide +kernel
theorem dX6_rankAll_5 : decode cX6_rankAll 5 = .ok (.aload_n 0, 1) := by decide +kernel
theorem dX6_rankAll_6 : decode cX6_rankAll 6 = .ok (.getfield 9, 3) := by decide +kernel
theorem dX6_rankAll_9 : decode cX6_rankAll 9 = .ok (.arraylength, 1) := by decide +kernel
theorem dX6_rankAll_10 : decode cX6_rankAll 10 = .ok (.if_icmp .ge 48, 3) := by decide +kernel
theorem dX6_rankAll_13 : decode cX6_rankAll 13 = .ok (.iload_n 3, 1) := by decide +kernel
theorem dX6_rankAll_14 : decode cX6_rankAll 14 = .ok (.aload_n 0, 1) := by decide +kernel
theorem dX6_rankAll_15 : decode cX6_rankAll 15 = .ok (.getfield 27, 3) := by decide +kernel
theorem dX6_rankAll_18 : decode cX6_rankAll 18 = .ok (.arraylength, 1) := by decide +kernel
theorem dX6_rankAll_19 : decode cX6_rankAll 19 = .ok (.if_icmp .ge 39, 3) := by decide +kernel
theorem dX6_rankAll_22 : decode cX6_rankAll 22 = .ok (.aload_n 0, 1) := by decide +kernel
theorem dX6_rankAll_23 : decode cX6_rankAll 23 = .ok (.getfield 9, 3) := by decide +kernel
theorem dX6_rankAll_26 : decode cX6_rankAll 26 = .ok (.iload_n 3, 1) := by decide +kernel
theorem dX6_rankAll_27 : decode cX6_rankAll 27 = .ok (.baload, 1) := by decide +kernel
theorem dX6_rankAll_28 : decode cX6_rankAll 28 = .ok (.ifCond .eq 24, 3) := by decide +kernel
theorem dX6_rankAll_31 : decode cX6_rankAll 31 = .ok (.aload_n 0, 1) := by decide +kernel
theorem dX6_rankAll_32 : decode cX6_rankAll 32 = .ok (.getfield 27, 3) := by decide +kernel
theorem dX6_rankAll_35 : decode cX6_rankAll 35 = .ok (.iload_n 3, 1) := by decide +kernel
theorem dX6_rankAll_36 : decode cX6_rankAll 36 = .ok (.aload_n 0, 1) := by decide +kernel
theorem dX6_rankAll_37 : decode cX6_rankAll 37 = .ok (.iload_n 1, 1) := by decide +kernel
theorem dX6_rankAll_38 : decode cX6_rankAll 38 = .ok (.iload_n 3, 1) := by decide +kernel
theorem dX6_rankAll_39 : decode cX6_rankAll 39 = .ok (.invokevirtual 96, 3) := by decide +kernel
theorem dX6_rankAll_42 : decode cX6_rankAll 42 = .ok (.iastore, 1) := by decide +kernel
theorem dX6_rankAll_43 : decode cX6_rankAll 43 = .ok (.aload_n 0, 1) := by decide +kernel
theorem dX6_rankAll_44 : decode cX6_rankAll 44 = .ok (.iload_n 3, 1) := by decide +kernel
theorem dX6_rankAll_45 : decode cX6_rankAll 45 = .ok (.iload_n 2, 1) := by decide +kernel
theorem dX6_rankAll_46 : decode cX6_rankAll 46 = .ok (.invokevirtual 99, 3) := by decide +kernel
theorem dX6_rankAll_49 : decode cX6_rankAll 49 = .ok (.iinc 2 1, 3) := by decide +kernel
theorem dX6_rankAll_52 : decode cX6_rankAll 52 = .ok (.iinc 3 1, 3) := by decide +kernel
theorem dX6_rankAll_55 : decode cX6_rankAll 55 = .ok (.goto (-51), 3) := by decide +kernel
theorem dX6_rankAll_58 : decode cX6_rankAll 58 = .ok (.return_, 1) := by decide +kernel
theorem dX6_rankedAt_0 : decode cX6_rankedAt 0 = .ok (.iload_n 2, 1) := by decide +kernel
theorem dX6_rankedAt_1 : decode cX6_rankedAt 1 = .ok (.ifCond .lt 20, 3) := by decide +kernel
theorem dX6_rankedAt_4 : decode cX6_rankedAt 4 = .ok (.iload_n 2, 1) := by decide +kernel
theorem dX6_rankedAt_5 : decode cX6_rankedAt 5 = .ok (.aload_n 0, 1) := by decide +kernel
theorem dX6_rankedAt_6 : decode cX6_rankedAt 6 = .ok (.getfield 33, 3) := by decide +kernel
theorem dX6_rankedAt_9 : decode cX6_rankedAt 9 = .ok (.if_icmp .ge 12, 3) := by decide +kernel
theorem dX6_rankedAt_12 : decode cX6_rankedAt 12 = .ok (.iload_n 2, 1) := by decide +kernel
theorem dX6_rankedAt_13 : decode cX6_rankedAt 13 = .ok (.aload_n 0, 1) := by decide +kernel
theorem dX6_rankedAt_14 : decode cX6_rankedAt 14 = .ok (.getfield 30, 3) := by decide +kernel
theorem dX6_rankedAt_17 : decode cX6_rankedAt 17 = .ok (.arraylength, 1) := by decide +kernel
theorem dX6_rankedAt_18 : decode cX6_rankedAt 18 = .ok (.if_icmp .lt 5, 3) := by decide +kernel
theorem dX6_rankedAt_21 : decode cX6_rankedAt 21 = .ok (.iconst (-1), 1) := by decide +kernel
theorem dX6_rankedAt_22 : decode cX6_rankedAt 22 = .ok (.ireturn, 1) := by decide +kernel
theorem dX6_rankedAt_23 : decode cX6_rankedAt 23 = .ok (.aload_n 0, 1) := by decide +kernel
theorem dX6_rankedAt_24 : decode cX6_rankedAt 24 = .ok (.iload_n 1, 1) := by decide +kernel
theorem dX6_rankedAt_25 : decode cX6_rankedAt 25 = .ok (.invokevirtual 92, 3) := by decide +kernel
theorem dX6_rankedAt_28 : decode cX6_rankedAt 28 = .ok (.aload_n 0, 1) := by decide +kernel
theorem dX6_rankedAt_29 : decode cX6_rankedAt 29 = .ok (.getfield 30, 3) := by decide +kernel
theorem dX6_rankedAt_32 : decode cX6_rankedAt 32 = .ok (.iload_n 2, 1) := by decide +kernel
theorem dX6_rankedAt_33 : decode cX6_rankedAt 33 = .ok (.iaload, 1) := by decide +kernel
theorem dX6_rankedAt_34 : decode cX6_rankedAt 34 = .ok (.ireturn, 1) := by decide +kernel
theorem dX6_keepBest_0 : decode cX6_keepBest 0 = .ok (.aload_n 0, 1) := by decide +kernel
theorem dX6_keepBest_1 : decode cX6_keepBest 1 = .ok (.aload_n 0, 1) := by decide +kernel
theorem dX6_keepBest_2 : decode cX6_keepBest 2 = .ok (.getfield 37, 3) := by decide +kernel
theorem dX6_keepBest_5 : decode cX6_keepBest 5 = .ok (.invokevirtual 92, 3) := by decide +kernel
theorem dX6_keepBest_8 : decode cX6_keepBest 8 = .ok (.iload_n 1, 1) := by decide +kernel
theorem dX6_keepBest_9 : decode cX6_keepBest 9 = .ok (.aload_n 0, 1) := by decide +kernel
theorem dX6_keepBest_10 : decode cX6_keepBest 10 = .ok (.getfield 33, 3) := by decide +kernel
theorem dX6_keepBest_13 : decode cX6_keepBest 13 = .ok (.invokestatic 110, 3) := by decide +kernel
theorem dX6_keepBest_16 : decode cX6_keepBest 16 = .ok (.iconst 1, 1) := by decide +kernel
theorem dX6_keepBest_17 : decode cX6_keepBest 17 = .ok (.isub, 1) := by decide +kernel
theorem dX6_keepBest_18 : decode cX6_keepBest 18 = .ok (.istore_n 3, 1) := by decide +kernel
theorem dX6_keepBest_19 : decode cX6_keepBest 19 = .ok (.iload_n 3, 1) := by decide +kernel
theorem dX6_keepBest_20 : decode cX6_keepBest 20 = .ok (.ifCond .lt 25, 3) := by decide +kernel
theorem dX6_keepBest_23 : decode cX6_keepBest 23 = .ok (.iload_n 3, 1) := by decide +kernel
theorem dX6_keepBest_24 : decode cX6_keepBest 24 = .ok (.aload_n 0, 1) := by decide +kernel
theorem dX6_keepBest_25 : decode cX6_keepBest 25 = .ok (.getfield 30, 3) := by decide +kernel
theorem dX6_keepBest_28 : decode cX6_keepBest 28 = .ok (.arraylength, 1) := by decide +kernel
theorem dX6_keepBest_29 : decode cX6_keepBest 29 = .ok (.if_icmp .ge 16, 3) := by decide +kernel
theorem dX6_keepBest_32 : decode cX6_keepBest 32 = .ok (.aload_n 0, 1) := by decide +kernel
theorem dX6_keepBest_33 : decode cX6_keepBest 33 = .ok (.aload_n 0, 1) := by decide +kernel
theorem dX6_keepBest_34 : decode cX6_keepBest 34 = .ok (.getfield 30, 3) := by decide +kernel
theorem dX6_keepBest_37 : decode cX6_keepBest 37 = .ok (.iload_n 3, 1) := by decide +kernel
theorem dX6_keepBest_38 : decode cX6_keepBest 38 = .ok (.iaload, 1) := by decide +kernel
theorem dX6_keepBest_39 : decode cX6_keepBest 39 = .ok (.invokevirtual 107, 3) := by decide +kernel
theorem dX6_keepBest_42 : decode cX6_keepBest 42 = .ok (.goto 4, 3) := by decide +kernel
theorem dX6_keepBest_45 : decode cX6_keepBest 45 = .ok (.iconst 0, 1) := by decide +kernel
theorem dX6_keepBest_46 : decode cX6_keepBest 46 = .ok (.istore 4, 2) := by decide +kernel
theorem dX6_keepBest_48 : decode cX6_keepBest 48 = .ok (.iconst 0, 1) := by decide +kernel
theorem dX6_keepBest_49 : decode cX6_keepBest 49 = .ok (.istore 5, 2) := by decide +kernel
theorem dX6_keepBest_51 : decode cX6_keepBest 51 = .ok (.iload 5, 2) := by decide +kernel
theorem dX6_keepBest_53 : decode cX6_keepBest 53 = .ok (.aload_n 0, 1) := by decide +kernel
theorem dX6_keepBest_54 : decode cX6_keepBest 54 = .ok (.getfield 33, 3) := by decide +kernel
theorem dX6_keepBest_57 : decode cX6_keepBest 57 = .ok (.if_icmp .ge 46, 3) := by decide +kernel
theorem dX6_keepBest_60 : decode cX6_keepBest 60 = .ok (.iload 5, 2) := by decide +kernel
theorem dX6_keepBest_62 : decode cX6_keepBest 62 = .ok (.aload_n 0, 1) := by decide +kernel
theorem dX6_keepBest_63 : decode cX6_keepBest 63 = .ok (.getfield 30, 3) := by decide +kernel
theorem dX6_keepBest_66 : decode cX6_keepBest 66 = .ok (.arraylength, 1) := by decide +kernel
theorem dX6_keepBest_67 : decode cX6_keepBest 67 = .ok (.if_icmp .ge 36, 3) := by decide +kernel
theorem dX6_keepBest_70 : decode cX6_keepBest 70 = .ok (.aload_n 0, 1) := by decide +kernel
theorem dX6_keepBest_71 : decode cX6_keepBest 71 = .ok (.aload_n 0, 1) := by decide +kernel
theorem dX6_keepBest_72 : decode cX6_keepBest 72 = .ok (.getfield 30, 3) := by decide +kernel
theorem dX6_keepBest_75 : decode cX6_keepBest 75 = .ok (.iload 5, 2) := by decide +kernel
theorem dX6_keepBest_77 : decode cX6_keepBest 77 = .ok (.iaload, 1) := by decide +kernel
theorem dX6_keepBest_78 : decode cX6_keepBest 78 = .ok (.invokevirtual 107, 3) := by decide +kernel
theorem dX6_keepBest_81 : decode cX6_keepBest 81 = .ok (.iload 4, 2) := by decide +kernel
theorem dX6_keepBest_83 : decode cX6_keepBest 83 = .ok (.if_icmp .lt 14, 3) := by decide +kernel
theorem dX6_keepBest_86 : decode cX6_keepBest 86 = .ok (.aload_n 2, 1) := by decide +kernel
theorem dX6_keepBest_87 : decode cX6_keepBest 87 = .ok (.aload_n 0, 1) := by decide +kernel
theorem dX6_keepBest_88 : decode cX6_keepBest 88 = .ok (.getfield 30, 3) := by decide +kernel
theorem dX6_keepBest_91 : decode cX6_keepBest 91 = .ok (.iload 5, 2) := by decide +kernel
theorem dX6_keepBest_93 : decode cX6_keepBest 93 = .ok (.iaload, 1) := by decide +kernel
theorem dX6_keepBest_94 : decode cX6_keepBest 94 = .ok (.invokevirtual 115, 3) := by decide +kernel
theorem dX6_keepBest_97 : decode cX6_keepBest 97 = .ok (.iinc 5 1, 3) := by decide +kernel
theorem dX6_keepBest_100 : decode cX6_keepBest 100 = .ok (.goto (-49), 3) := by decide +kernel
theorem dX6_keepBest_103 : decode cX6_keepBest 103 = .ok (.aload_n 2, 1) := by decide +kernel
theorem dX6_keepBest_104 : decode cX6_keepBest 104 = .ok (.getfield 33, 3) := by decide +kernel
theorem dX6_keepBest_107 : decode cX6_keepBest 107 = .ok (.ireturn, 1) := by decide +kernel
theorem dX7_isHandedIn_0 : decode cX7_isHandedIn 0 = .ok (.aload_n 0, 1) := by decide +kernel
theorem dX7_isHandedIn_1 : decode cX7_isHandedIn 1 = .ok (.getfield 11, 3) := by decide +kernel
theorem dX7_isHandedIn_4 : decode cX7_isHandedIn 4 = .ok (.iconst (-1), 1) := by decide +kernel
theorem dX7_isHandedIn_5 : decode cX7_isHandedIn 5 = .ok (.if_icmp .eq 7, 3) := by decide +kernel
theorem dX7_isHandedIn_8 : decode cX7_isHandedIn 8 = .ok (.iconst 1, 1) := by decide +kernel
theorem dX7_isHandedIn_9 : decode cX7_isHandedIn 9 = .ok (.goto 4, 3) := by decide +kernel
theorem dX7_isHandedIn_12 : decode cX7_isHandedIn 12 = .ok (.iconst 0, 1) := by decide +kernel
theorem dX7_isHandedIn_13 : decode cX7_isHandedIn 13 = .ok (.ireturn, 1) := by decide +kernel
theorem dX7_isThing_0 : decode cX7_isThing 0 = .ok (.iload_n 0, 1) := by decide +kernel
theorem dX7_isThing_1 : decode cX7_isThing 1 = .ok (.ifCond .lt 13, 3) := by decide +kernel
theorem dX7_isThing_4 : decode cX7_isThing 4 = .ok (.iload_n 0, 1) := by decide +kernel
theorem dX7_isThing_5 : decode cX7_isThing 5 = .ok (.bipush 15, 2) := by decide +kernel
theorem dX7_isThing_7 : decode cX7_isThing 7 = .ok (.if_icmp .ge 7, 3) := by decide +kernel
theorem dX7_isThing_10 : decode cX7_isThing 10 = .ok (.iconst 1, 1) := by decide +kernel
theorem dX7_isThing_11 : decode cX7_isThing 11 = .ok (.goto 4, 3) := by decide +kernel
theorem dX7_isThing_14 : decode cX7_isThing 14 = .ok (.iconst 0, 1) := by decide +kernel
theorem dX7_isThing_15 : decode cX7_isThing 15 = .ok (.ireturn, 1) := by decide +kernel
theorem dX7_isCell_0 : decode cX7_isCell 0 = .ok (.iload_n 0, 1) := by decide +kernel
theorem dX7_isCell_1 : decode cX7_isCell 1 = .ok (.ifCond .lt 32, 3) := by decide +kernel
theorem dX7_isCell_4 : decode cX7_isCell 4 = .ok (.iload_n 0, 1) := by decide +kernel
theorem dX7_isCell_5 : decode cX7_isCell 5 = .ok (.iconst 2, 1) := by decide +kernel
theorem dX7_isCell_6 : decode cX7_isCell 6 = .ok (.if_icmp .ge 27, 3) := by decide +kernel
theorem dX7_isCell_9 : decode cX7_isCell 9 = .ok (.iload_n 1, 1) := by decide +kernel
theorem dX7_isCell_10 : decode cX7_isCell 10 = .ok (.ifCond .lt 23, 3) := by decide +kernel
theorem dX7_isCell_13 : decode cX7_isCell 13 = .ok (.iload_n 1, 1) := by decide +kernel
theorem dX7_isCell_14 : decode cX7_isCell 14 = .ok (.bipush 10, 2) := by decide +kernel
theorem dX7_isCell_16 : decode cX7_isCell 16 = .ok (.if_icmp .ge 17, 3) := by decide +kernel
theorem dX7_isCell_19 : decode cX7_isCell 19 = .ok (.iload_n 2, 1) := by decide +kernel
theorem dX7_isCell_20 : decode cX7_isCell 20 = .ok (.ifCond .lt 13, 3) := by decide +kernel
theorem dX7_isCell_23 : decode cX7_isCell 23 = .ok (.iload_n 2, 1) := by decide +kernel
theorem dX7_isCell_24 : decode cX7_isCell 24 = .ok (.bipush 8, 2) := by decide +kernel
theorem dX7_isCell_26 : decode cX7_isCell 26 = .ok (.if_icmp .ge 7, 3) := by decide +kernel
theorem dX7_isCell_29 : decode cX7_isCell 29 = .ok (.iconst 1, 1) := by decide +kernel
theorem dX7_isCell_30 : decode cX7_isCell 30 = .ok (.goto 4, 3) := by decide +kernel
theorem dX7_isCell_33 : decode cX7_isCell 33 = .ok (.iconst 0, 1) := by decide +kernel
theorem dX7_isCell_34 : decode cX7_isCell 34 = .ok (.ireturn, 1) := by decide +kernel
theorem dX7_isInside_0 : decode cX7_isInside 0 = .ok (.iload_n 0, 1) := by decide +kernel
theorem dX7_isInside_1 : decode cX7_isInside 1 = .ok (.bipush 120, 2) := by decide +kernel
theorem dX7_isInside_3 : decode cX7_isInside 3 = .ok (.irem, 1) := by decide +kernel
theorem dX7_isInside_4 : decode cX7_isInside 4 = .ok (.bipush 12, 2) := by decide +kernel
theorem dX7_isInside_6 : decode cX7_isInside 6 = .ok (.idiv, 1) := by decide +kernel
theorem dX7_isInside_7 : decode cX7_isInside 7 = .ok (.iconst 1, 1) := by decide +kernel
theorem dX7_isInside_8 : decode cX7_isInside 8 = .ok (.isub, 1) := by decide +kernel
theorem dX7_isInside_9 : decode cX7_isInside 9 = .ok (.istore_n 1, 1) := by decide +kernel
theorem dX7_isInside_10 : decode cX7_isInside 10 = .ok (.iload_n 0, 1) := by decide +kernel
theorem dX7_isInside_11 : decode cX7_isInside 11 = .ok (.bipush 12, 2) := by decide +kernel
theorem dX7_isInside_13 : decode cX7_isInside 13 = .ok (.irem, 1) := by decide +kernel
theorem dX7_isInside_14 : decode cX7_isInside 14 = .ok (.iconst 1, 1) := by decide +kernel
theorem dX7_isInside_15 : decode cX7_isInside 15 = .ok (.isub, 1) := by decide +kernel
theorem dX7_isInside_16 : decode cX7_isInside 16 = .ok (.istore_n 2, 1) := by decide +kernel
theorem dX7_isInside_17 : decode cX7_isInside 17 = .ok (.iload_n 0, 1) := by decide +kernel
theorem dX7_isInside_18 : decode cX7_isInside 18 = .ok (.ifCond .lt 34, 3) := by decide +kernel
theorem dX7_isInside_21 : decode cX7_isInside 21 = .ok (.iload_n 0, 1) := by decide +kernel
theorem dX7_isInside_22 : decode cX7_isInside 22 = .ok (.sipush 240, 3) := by decide +kernel
theorem dX7_isInside_25 : decode cX7_isInside 25 = .ok (.if_icmp .ge 27, 3) := by decide +kernel
theorem dX7_isInside_28 : decode cX7_isInside 28 = .ok (.iload_n 1, 1) := by decide +kernel
theorem dX7_isInside_29 : decode cX7_isInside 29 = .ok (.ifCond .lt 23, 3) := by decide +kernel
theorem dX7_isInside_32 : decode cX7_isInside 32 = .ok (.iload_n 1, 1) := by decide +kernel
theorem dX7_isInside_33 : decode cX7_isInside 33 = .ok (.bipush 8, 2) := by decide +kernel
theorem dX7_isInside_35 : decode cX7_isInside 35 = .ok (.if_icmp .ge 17, 3) := by decide +kernel
theorem dX7_isInside_38 : decode cX7_isInside 38 = .ok (.iload_n 2, 1) := by decide +kernel
theorem dX7_isInside_39 : decode cX7_isInside 39 = .ok (.ifCond .lt 13, 3) := by decide +kernel
theorem dX7_isInside_42 : decode cX7_isInside 42 = .ok (.iload_n 2, 1) := by decide +kernel
theorem dX7_isInside_43 : decode cX7_isInside 43 = .ok (.bipush 10, 2) := by decide +kernel
theorem dX7_isInside_45 : decode cX7_isInside 45 = .ok (.if_icmp .ge 7, 3) := by decide +kernel
theorem dX7_isInside_48 : decode cX7_isInside 48 = .ok (.iconst 1, 1) := by decide +kernel
theorem dX7_isInside_49 : decode cX7_isInside 49 = .ok (.goto 4, 3) := by decide +kernel
theorem dX7_isInside_52 : decode cX7_isInside 52 = .ok (.iconst 0, 1) := by decide +kernel
theorem dX7_isInside_53 : decode cX7_isInside 53 = .ok (.ireturn, 1) := by decide +kernel
theorem dX7_placeOf_0 : decode cX7_placeOf 0 = .ok (.iload_n 0, 1) := by decide +kernel
theorem dX7_placeOf_1 : decode cX7_placeOf 1 = .ok (.bipush 120, 2) := by decide +kernel
theorem dX7_placeOf_3 : decode cX7_placeOf 3 = .ok (.imul, 1) := by decide +kernel
theorem dX7_placeOf_4 : decode cX7_placeOf 4 = .ok (.iload_n 2, 1) := by decide +kernel
theorem dX7_placeOf_5 : decode cX7_placeOf 5 = .ok (.iconst 1, 1) := by decide +kernel
theorem dX7_placeOf_6 : decode cX7_placeOf 6 = .ok (.iadd, 1) := by decide +kernel
theorem dX7_placeOf_7 : decode cX7_placeOf 7 = .ok (.bipush 12, 2) := by decide +kernel
theorem dX7_placeOf_9 : decode cX7_placeOf 9 = .ok (.imul, 1) := by decide +kernel
theorem dX7_placeOf_10 : decode cX7_placeOf 10 = .ok (.iadd, 1) := by decide +kernel
theorem dX7_placeOf_11 : decode cX7_placeOf 11 = .ok (.iload_n 1, 1) := by decide +kernel
theorem dX7_placeOf_12 : decode cX7_placeOf 12 = .ok (.iadd, 1) := by decide +kernel
theorem dX7_placeOf_13 : decode cX7_placeOf 13 = .ok (.iconst 1, 1) := by decide +kernel
theorem dX7_placeOf_14 : decode cX7_placeOf 14 = .ok (.iadd, 1) := by decide +kernel
theorem dX7_placeOf_15 : decode cX7_placeOf 15 = .ok (.ireturn, 1) := by decide +kernel
theorem dX7_thingAt_0 : decode cX7_thingAt 0 = .ok (.iload_n 1, 1) := by decide +kernel
theorem dX7_thingAt_1 : decode cX7_thingAt 1 = .ok (.ifCond .lt 21, 3) := by decide +kernel
theorem dX7_thingAt_4 : decode cX7_thingAt 4 = .ok (.iload_n 1, 1) := by decide +kernel
theorem dX7_thingAt_5 : decode cX7_thingAt 5 = .ok (.aload_n 0, 1) := by decide +kernel
theorem dX7_thingAt_6 : decode cX7_thingAt 6 = .ok (.getfield 15, 3) := by decide +kernel
theorem dX7_thingAt_9 : decode cX7_thingAt 9 = .ok (.arraylength, 1) := by decide +kernel
theorem dX7_thingAt_10 : decode cX7_thingAt 10 = .ok (.if_icmp .ge 12, 3) := by decide +kernel
theorem dX7_thingAt_13 : decode cX7_thingAt 13 = .ok (.aload_n 0, 1) := by decide +kernel
theorem dX7_thingAt_14 : decode cX7_thingAt 14 = .ok (.getfield 15, 3) := by decide +kernel
theorem dX7_thingAt_17 : decode cX7_thingAt 17 = .ok (.iload_n 1, 1) := by decide +kernel
theorem dX7_thingAt_18 : decode cX7_thingAt 18 = .ok (.iaload, 1) := by decide +kernel
theorem dX7_thingAt_19 : decode cX7_thingAt 19 = .ok (.goto 4, 3) := by decide +kernel
theorem dX7_thingAt_22 : decode cX7_thingAt 22 = .ok (.iconst 0, 1) := by decide +kernel
theorem dX7_thingAt_23 : decode cX7_thingAt 23 = .ok (.ireturn, 1) := by decide +kernel
theorem dX7_countOf_0 : decode cX7_countOf 0 = .ok (.iload_n 1, 1) := by decide +kernel
theorem dX7_countOf_1 : decode cX7_countOf 1 = .ok (.ifCond .lt 21, 3) := by decide +kernel
theorem dX7_countOf_4 : decode cX7_countOf 4 = .ok (.iload_n 1, 1) := by decide +kernel
theorem dX7_countOf_5 : decode cX7_countOf 5 = .ok (.aload_n 0, 1) := by decide +kernel
theorem dX7_countOf_6 : decode cX7_countOf 6 = .ok (.getfield 19, 3) := by decide +kernel
theorem dX7_countOf_9 : decode cX7_countOf 9 = .ok (.arraylength, 1) := by decide +kernel
theorem dX7_countOf_10 : decode cX7_countOf 10 = .ok (.if_icmp .ge 12, 3) := by decide +kernel
theorem dX7_countOf_13 : decode cX7_countOf 13 = .ok (.aload_n 0, 1) := by decide +kernel
theorem dX7_countOf_14 : decode cX7_countOf 14 = .ok (.getfield 19, 3) := by decide +kernel
theorem dX7_countOf_17 : decode cX7_countOf 17 = .ok (.iload_n 1, 1) := by decide +kernel
theorem dX7_countOf_18 : decode cX7_countOf 18 = .ok (.iaload, 1) := by decide +kernel
theorem dX7_countOf_19 : decode cX7_countOf 19 = .ok (.goto 4, 3) := by decide +kernel
theorem dX7_countOf_22 : decode cX7_countOf 22 = .ok (.iconst 0, 1) := by decide +kernel
theorem dX7_countOf_23 : decode cX7_countOf 23 = .ok (.ireturn, 1) := by decide +kernel
theorem dX7_allCells_0 : decode cX7_allCells 0 = .ok (.aload_n 0, 1) := by decide +kernel
theorem dX7_allCells_1 : decode cX7_allCells 1 = .ok (.getfield 22, 3) := by decide +kernel
theorem dX7_allCells_4 : decode cX7_allCells 4 = .ok (.iconst 0, 1) := by decide +kernel
theorem dX7_allCells_5 : decode cX7_allCells 5 = .ok (.iaload, 1) := by decide +kernel
theorem dX7_allCells_6 : decode cX7_allCells 6 = .ok (.aload_n 0, 1) := by decide +kernel
theorem dX7_allCells_7 : decode cX7_allCells 7 = .ok (.getfield 22, 3) := by decide +kernel
theorem dX7_allCells_10 : decode cX7_allCells 10 = .ok (.iconst 1, 1) := by decide +kernel
theorem dX7_allCells_11 : decode cX7_allCells 11 = .ok (.iaload, 1) := by decide +kernel
theorem dX7_allCells_12 : decode cX7_allCells 12 = .ok (.iadd, 1) := by decide +kernel
theorem dX7_allCells_13 : decode cX7_allCells 13 = .ok (.ireturn, 1) := by decide +kernel
theorem dX7_roomsWithCells_0 : decode cX7_roomsWithCells 0 = .ok (.iconst 0, 1) := by decide +kernel
theorem dX7_roomsWithCells_1 : decode cX7_roomsWithCells 1 = .ok (.istore_n 1, 1) := by decide +kernel
theorem dX7_roomsWithCells_2 : decode cX7_roomsWithCells 2 = .ok (.iconst 1, 1) := by decide +kernel
theorem dX7_roomsWithCells_3 : decode cX7_roomsWithCells 3 = .ok (.istore_n 2, 1) := by decide +kernel
theorem dX7_roomsWithCells_4 : decode cX7_roomsWithCells 4 = .ok (.iload_n 2, 1) := by decide +kernel
theorem dX7_roomsWithCells_5 : decode cX7_roomsWithCells 5 = .ok (.bipush 12, 2) := by decide +kernel
theorem dX7_roomsWithCells_7 : decode cX7_roomsWithCells 7 = .ok (.if_icmp .gt 35, 3) := by decide +kernel
theorem dX7_roomsWithCells_10 : decode cX7_roomsWithCells 10 = .ok (.iload_n 2, 1) := by decide +kernel
theorem dX7_roomsWithCells_11 : decode cX7_roomsWithCells 11 = .ok (.aload_n 0, 1) := by decide +kernel
theorem dX7_roomsWithCells_12 : decode cX7_roomsWithCells 12 = .ok (.getfield 19, 3) := by decide +kernel
theorem dX7_roomsWithCells_15 : decode cX7_roomsWithCells 15 = .ok (.arraylength, 1) := by decide +kernel
theorem dX7_roomsWithCells_16 : decode cX7_roomsWithCells 16 = .ok (.if_icmp .ge 26, 3) := by decide +kernel
theorem dX7_roomsWithCells_19 : decode cX7_roomsWithCells 19 = .ok (.iload_n 1, 1) := by decide +kernel
theorem dX7_roomsWithCells_20 : decode cX7_roomsWithCells 20 = .ok (.aload_n 0, 1) := by decide +kernel
theorem dX7_roomsWithCells_21 : decode cX7_roomsWithCells 21 = .ok (.getfield 19, 3) := by decide +kernel
theorem dX7_roomsWithCells_24 : decode cX7_roomsWithCells 24 = .ok (.iload_n 2, 1) := by decide +kernel
theorem dX7_roomsWithCells_25 : decode cX7_roomsWithCells 25 = .ok (.iaload, 1) := by decide +kernel
theorem dX7_roomsWithCells_26 : decode cX7_roomsWithCells 26 = .ok (.ifCond .le 7, 3) := by decide +kernel
theorem dX7_roomsWithCells_29 : decode cX7_roomsWithCells 29 = .ok (.iconst 1, 1) := by decide +kernel
theorem dX7_roomsWithCells_30 : decode cX7_roomsWithCells 30 = .ok (.goto 4, 3) := by decide +kernel
theorem dX7_roomsWithCells_33 : decode cX7_roomsWithCells 33 = .ok (.iconst 0, 1) := by decide +kernel
theorem dX7_roomsWithCells_34 : decode cX7_roomsWithCells 34 = .ok (.iadd, 1) := by decide +kernel
theorem dX7_roomsWithCells_35 : decode cX7_roomsWithCells 35 = .ok (.istore_n 1, 1) := by decide +kernel
theorem dX7_roomsWithCells_36 : decode cX7_roomsWithCells 36 = .ok (.iinc 2 1, 3) := by decide +kernel
theorem dX7_roomsWithCells_39 : decode cX7_roomsWithCells 39 = .ok (.goto (-35), 3) := by decide +kernel
theorem dX7_roomsWithCells_42 : decode cX7_roomsWithCells 42 = .ok (.iload_n 1, 1) := by decide +kernel
theorem dX7_roomsWithCells_43 : decode cX7_roomsWithCells 43 = .ok (.ireturn, 1) := by decide +kernel
theorem dX7_storeysWithCells_0 : decode cX7_storeysWithCells 0 = .ok (.aload_n 0, 1) := by decide +kernel
theorem dX7_storeysWithCells_1 : decode cX7_storeysWithCells 1 = .ok (.getfield 22, 3) := by decide +kernel
theorem dX7_storeysWithCells_4 : decode cX7_storeysWithCells 4 = .ok (.iconst 0, 1) := by decide +kernel
theorem dX7_storeysWithCells_5 : decode cX7_storeysWithCells 5 = .ok (.iaload, 1) := by decide +kernel
theorem dX7_storeysWithCells_6 : decode cX7_storeysWithCells 6 = .ok (.ifCond .le 7, 3) := by decide +kernel
theorem dX7_storeysWithCells_9 : decode cX7_storeysWithCells 9 = .ok (.iconst 1, 1) := by decide +kernel
theorem dX7_storeysWithCells_10 : decode cX7_storeysWithCells 10 = .ok (.goto 4, 3) := by decide +kernel
theorem dX7_storeysWithCells_13 : decode cX7_storeysWithCells 13 = .ok (.iconst 0, 1) := by decide +kernel
theorem dX7_storeysWithCells_14 : decode cX7_storeysWithCells 14 = .ok (.aload_n 0, 1) := by decide +kernel
theorem dX7_storeysWithCells_15 : decode cX7_storeysWithCells 15 = .ok (.getfield 22, 3) := by decide +kernel
theorem dX7_storeysWithCells_18 : decode cX7_storeysWithCells 18 = .ok (.iconst 1, 1) := by decide +kernel
theorem dX7_storeysWithCells_19 : decode cX7_storeysWithCells 19 = .ok (.iaload, 1) := by decide +kernel
theorem dX7_storeysWithCells_20 : decode cX7_storeysWithCells 20 = .ok (.ifCond .le 7, 3) := by decide +kernel
theorem dX7_storeysWithCells_23 : decode cX7_storeysWithCells 23 = .ok (.iconst 1, 1) := by decide +kernel
theorem dX7_storeysWithCells_24 : decode cX7_storeysWithCells 24 = .ok (.goto 4, 3) := by decide +kernel
theorem dX7_storeysWithCells_27 : decode cX7_storeysWithCells 27 = .ok (.iconst 0, 1) := by decide +kernel
theorem dX7_storeysWithCells_28 : decode cX7_storeysWithCells 28 = .ok (.iadd, 1) := by decide +kernel
theorem dX7_storeysWithCells_29 : decode cX7_storeysWithCells 29 = .ok (.ireturn, 1) := by decide +kernel
theorem dX7_put_0 : decode cX7_put 0 = .ok (.iload_n 1, 1) := by decide +kernel
theorem dX7_put_1 : decode cX7_put 1 = .ok (.bipush 13, 2) := by decide +kernel
theorem dX7_put_3 : decode cX7_put 3 = .ok (.if_icmp .lt 17, 3) := by decide +kernel
theorem dX7_put_6 : decode cX7_put 6 = .ok (.iload_n 1, 1) := by decide +kernel
theorem dX7_put_7 : decode cX7_put 7 = .ok (.sipush 227, 3) := by decide +kernel
theorem dX7_put_10 : decode cX7_put 10 = .ok (.if_icmp .ge 10, 3) := by decide +kernel
theorem dX7_put_13 : decode cX7_put 13 = .ok (.iload_n 2, 1) := by decide +kernel
theorem dX7_put_14 : decode cX7_put 14 = .ok (.invokestatic 31, 3) := by decide +kernel
theorem dX7_put_17 : decode cX7_put 17 = .ok (.ifCond .ne 4, 3) := by decide +kernel
theorem dX7_put_20 : decode cX7_put 20 = .ok (.return_, 1) := by decide +kernel
theorem dX7_put_21 : decode cX7_put 21 = .ok (.aload_n 0, 1) := by decide +kernel
theorem dX7_put_22 : decode cX7_put 22 = .ok (.getfield 15, 3) := by decide +kernel
theorem dX7_put_25 : decode cX7_put 25 = .ok (.iload_n 1, 1) := by decide +kernel
theorem dX7_put_26 : decode cX7_put 26 = .ok (.iaload, 1) := by decide +kernel
theorem dX7_put_27 : decode cX7_put 27 = .ok (.istore_n 3, 1) := by decide +kernel
theorem dX7_put_28 : decode cX7_put 28 = .ok (.iload_n 1, 1) := by decide +kernel
theorem dX7_put_29 : decode cX7_put 29 = .ok (.bipush 120, 2) := by decide +kernel
theorem dX7_put_31 : decode cX7_put 31 = .ok (.if_icmp .ge 7, 3) := by decide +kernel
theorem dX7_put_34 : decode cX7_put 34 = .ok (.iconst 0, 1) := by decide +kernel
theorem dX7_put_35 : decode cX7_put 35 = .ok (.goto 4, 3) := by decide +kernel
theorem dX7_put_38 : decode cX7_put 38 = .ok (.iconst 1, 1) := by decide +kernel
theorem dX7_put_39 : decode cX7_put 39 = .ok (.istore 4, 2) := by decide +kernel
theorem dX7_put_41 : decode cX7_put 41 = .ok (.iconst 0, 1) := by decide +kernel
theorem dX7_put_42 : decode cX7_put 42 = .ok (.istore 5, 2) := by decide +kernel
theorem dX7_put_44 : decode cX7_put 44 = .ok (.iload 5, 2) := by decide +kernel
theorem dX7_put_46 : decode cX7_put 46 = .ok (.getstatic 35, 3) := by decide +kernel
theorem dX7_put_49 : decode cX7_put 49 = .ok (.arraylength, 1) := by decide +kernel
theorem dX7_put_50 : decode cX7_put 50 = .ok (.if_icmp .ge 55, 3) := by decide +kernel
theorem dX7_put_53 : decode cX7_put 53 = .ok (.aload_n 0, 1) := by decide +kernel
theorem dX7_put_54 : decode cX7_put 54 = .ok (.iload_n 1, 1) := by decide +kernel
theorem dX7_put_55 : decode cX7_put 55 = .ok (.getstatic 35, 3) := by decide +kernel
theorem dX7_put_58 : decode cX7_put 58 = .ok (.iload 5, 2) := by decide +kernel
theorem dX7_put_60 : decode cX7_put 60 = .ok (.iaload, 1) := by decide +kernel
theorem dX7_put_61 : decode cX7_put 61 = .ok (.iadd, 1) := by decide +kernel
theorem dX7_put_62 : decode cX7_put 62 = .ok (.invokevirtual 38, 3) := by decide +kernel
theorem dX7_put_65 : decode cX7_put 65 = .ok (.istore 6, 2) := by decide +kernel
theorem dX7_put_67 : decode cX7_put 67 = .ok (.aload_n 0, 1) := by decide +kernel
theorem dX7_put_68 : decode cX7_put 68 = .ok (.dup, 1) := by decide +kernel
theorem dX7_put_69 : decode cX7_put 69 = .ok (.getfield 25, 3) := by decide +kernel
theorem dX7_put_72 : decode cX7_put 72 = .ok (.iload_n 2, 1) := by decide +kernel
theorem dX7_put_73 : decode cX7_put 73 = .ok (.iload 6, 2) := by decide +kernel
theorem dX7_put_75 : decode cX7_put 75 = .ok (.if_icmp .eq 7, 3) := by decide +kernel
theorem dX7_put_78 : decode cX7_put 78 = .ok (.iconst 1, 1) := by decide +kernel
theorem dX7_put_79 : decode cX7_put 79 = .ok (.goto 4, 3) := by decide +kernel
theorem dX7_put_82 : decode cX7_put 82 = .ok (.iconst 0, 1) := by decide +kernel
theorem dX7_put_83 : decode cX7_put 83 = .ok (.iload_n 3, 1) := by decide +kernel
theorem dX7_put_84 : decode cX7_put 84 = .ok (.iload 6, 2) := by decide +kernel
theorem dX7_put_86 : decode cX7_put 86 = .ok (.if_icmp .eq 7, 3) := by decide +kernel
theorem dX7_put_89 : decode cX7_put 89 = .ok (.iconst 1, 1) := by decide +kernel
theorem dX7_put_90 : decode cX7_put 90 = .ok (.goto 4, 3) := by decide +kernel
theorem dX7_put_93 : decode cX7_put 93 = .ok (.iconst 0, 1) := by decide +kernel
theorem dX7_put_94 : decode cX7_put 94 = .ok (.isub, 1) := by decide +kernel
theorem dX7_put_95 : decode cX7_put 95 = .ok (.iadd, 1) := by decide +kernel
theorem dX7_put_96 : decode cX7_put 96 = .ok (.putfield 25, 3) := by decide +kernel
theorem dX7_put_99 : decode cX7_put 99 = .ok (.iinc 5 1, 3) := by decide +kernel
theorem dX7_put_102 : decode cX7_put 102 = .ok (.goto (-58), 3) := by decide +kernel
theorem dX7_put_105 : decode cX7_put 105 = .ok (.iload_n 3, 1) := by decide +kernel
theorem dX7_put_106 : decode cX7_put 106 = .ok (.invokestatic 31, 3) := by decide +kernel
theorem dX7_put_109 : decode cX7_put 109 = .ok (.ifCond .eq 13, 3) := by decide +kernel
theorem dX7_put_112 : decode cX7_put 112 = .ok (.aload_n 0, 1) := by decide +kernel
theorem dX7_put_113 : decode cX7_put 113 = .ok (.getfield 19, 3) := by decide +kernel
theorem dX7_put_116 : decode cX7_put 116 = .ok (.iload_n 3, 1) := by decide +kernel
theorem dX7_put_117 : decode cX7_put 117 = .ok (.dup2, 1) := by decide +kernel
theorem dX7_put_118 : decode cX7_put 118 = .ok (.iaload, 1) := by decide +kernel
theorem dX7_put_119 : decode cX7_put 119 = .ok (.iconst 1, 1) := by decide +kernel
theorem dX7_put_120 : decode cX7_put 120 = .ok (.isub, 1) := by decide +kernel
theorem dX7_put_121 : decode cX7_put 121 = .ok (.iastore, 1) := by decide +kernel
theorem dX7_put_122 : decode cX7_put 122 = .ok (.aload_n 0, 1) := by decide +kernel
theorem dX7_put_123 : decode cX7_put 123 = .ok (.getfield 19, 3) := by decide +kernel
theorem dX7_put_126 : decode cX7_put 126 = .ok (.iload_n 2, 1) := by decide +kernel
theorem dX7_put_127 : decode cX7_put 127 = .ok (.dup2, 1) := by decide +kernel
theorem dX7_put_128 : decode cX7_put 128 = .ok (.iaload, 1) := by decide +kernel
theorem dX7_put_129 : decode cX7_put 129 = .ok (.iconst 1, 1) := by decide +kernel
theorem dX7_put_130 : decode cX7_put 130 = .ok (.iadd, 1) := by decide +kernel
theorem dX7_put_131 : decode cX7_put 131 = .ok (.iastore, 1) := by decide +kernel
theorem dX7_put_132 : decode cX7_put 132 = .ok (.aload_n 0, 1) := by decide +kernel
theorem dX7_put_133 : decode cX7_put 133 = .ok (.getfield 22, 3) := by decide +kernel
theorem dX7_put_136 : decode cX7_put 136 = .ok (.iload 4, 2) := by decide +kernel
theorem dX7_put_138 : decode cX7_put 138 = .ok (.dup2, 1) := by decide +kernel
theorem dX7_put_139 : decode cX7_put 139 = .ok (.iaload, 1) := by decide +kernel
theorem dX7_put_140 : decode cX7_put 140 = .ok (.iload_n 2, 1) := by decide +kernel
theorem dX7_put_141 : decode cX7_put 141 = .ok (.ifCond .eq 7, 3) := by decide +kernel
theorem dX7_put_144 : decode cX7_put 144 = .ok (.iconst 1, 1) := by decide +kernel
theorem dX7_put_145 : decode cX7_put 145 = .ok (.goto 4, 3) := by decide +kernel
theorem dX7_put_148 : decode cX7_put 148 = .ok (.iconst 0, 1) := by decide +kernel
theorem dX7_put_149 : decode cX7_put 149 = .ok (.iload_n 3, 1) := by decide +kernel
theorem dX7_put_150 : decode cX7_put 150 = .ok (.ifCond .eq 7, 3) := by decide +kernel
theorem dX7_put_153 : decode cX7_put 153 = .ok (.iconst 1, 1) := by decide +kernel
theorem dX7_put_154 : decode cX7_put 154 = .ok (.goto 4, 3) := by decide +kernel
theorem dX7_put_157 : decode cX7_put 157 = .ok (.iconst 0, 1) := by decide +kernel
theorem dX7_put_158 : decode cX7_put 158 = .ok (.isub, 1) := by decide +kernel
theorem dX7_put_159 : decode cX7_put 159 = .ok (.iadd, 1) := by decide +kernel
theorem dX7_put_160 : decode cX7_put 160 = .ok (.iastore, 1) := by decide +kernel
theorem dX7_put_161 : decode cX7_put 161 = .ok (.aload_n 0, 1) := by decide +kernel
theorem dX7_put_162 : decode cX7_put 162 = .ok (.getfield 15, 3) := by decide +kernel
theorem dX7_put_165 : decode cX7_put 165 = .ok (.iload_n 1, 1) := by decide +kernel
theorem dX7_put_166 : decode cX7_put 166 = .ok (.iload_n 2, 1) := by decide +kernel
theorem dX7_put_167 : decode cX7_put 167 = .ok (.iastore, 1) := by decide +kernel
theorem dX7_put_168 : decode cX7_put 168 = .ok (.return_, 1) := by decide +kernel
theorem dX7_costBy_0 : decode cX7_costBy 0 = .ok (.aload_n 0, 1) := by decide +kernel
theorem dX7_costBy_1 : decode cX7_costBy 1 = .ok (.getfield 25, 3) := by decide +kernel
theorem dX7_costBy_4 : decode cX7_costBy 4 = .ok (.aload_n 1, 1) := by decide +kernel
theorem dX7_costBy_5 : decode cX7_costBy 5 = .ok (.iconst 0, 1) := by decide +kernel
theorem dX7_costBy_6 : decode cX7_costBy 6 = .ok (.invokevirtual 44, 3) := by decide +kernel
theorem dX7_costBy_9 : decode cX7_costBy 9 = .ok (.imul, 1) := by decide +kernel
theorem dX7_costBy_10 : decode cX7_costBy 10 = .ok (.aload_n 0, 1) := by decide +kernel
theorem dX7_costBy_11 : decode cX7_costBy 11 = .ok (.bipush 13, 2) := by decide +kernel
theorem dX7_costBy_13 : decode cX7_costBy 13 = .ok (.invokevirtual 47, 3) := by decide +kernel
theorem dX7_costBy_16 : decode cX7_costBy 16 = .ok (.aload_n 1, 1) := by decide +kernel
theorem dX7_costBy_17 : decode cX7_costBy 17 = .ok (.iconst 1, 1) := by decide +kernel
theorem dX7_costBy_18 : decode cX7_costBy 18 = .ok (.invokevirtual 44, 3) := by decide +kernel
theorem dX7_costBy_21 : decode cX7_costBy 21 = .ok (.imul, 1) := by decide +kernel
theorem dX7_costBy_22 : decode cX7_costBy 22 = .ok (.iadd, 1) := by decide +kernel
theorem dX7_costBy_23 : decode cX7_costBy 23 = .ok (.aload_n 0, 1) := by decide +kernel
theorem dX7_costBy_24 : decode cX7_costBy 24 = .ok (.bipush 14, 2) := by decide +kernel
theorem dX7_costBy_26 : decode cX7_costBy 26 = .ok (.invokevirtual 47, 3) := by decide +kernel
theorem dX7_costBy_29 : decode cX7_costBy 29 = .ok (.aload_n 1, 1) := by decide +kernel
theorem dX7_costBy_30 : decode cX7_costBy 30 = .ok (.iconst 2, 1) := by decide +kernel
theorem dX7_costBy_31 : decode cX7_costBy 31 = .ok (.invokevirtual 44, 3) := by decide +kernel
theorem dX7_costBy_34 : decode cX7_costBy 34 = .ok (.imul, 1) := by decide +kernel
theorem dX7_costBy_35 : decode cX7_costBy 35 = .ok (.iadd, 1) := by decide +kernel
theorem dX7_costBy_36 : decode cX7_costBy 36 = .ok (.istore_n 2, 1) := by decide +kernel
theorem dX7_costBy_37 : decode cX7_costBy 37 = .ok (.iconst 1, 1) := by decide +kernel
theorem dX7_costBy_38 : decode cX7_costBy 38 = .ok (.istore_n 3, 1) := by decide +kernel
theorem dX7_costBy_39 : decode cX7_costBy 39 = .ok (.iload_n 3, 1) := by decide +kernel
theorem dX7_costBy_40 : decode cX7_costBy 40 = .ok (.bipush 12, 2) := by decide +kernel
theorem dX7_costBy_42 : decode cX7_costBy 42 = .ok (.if_icmp .gt 23, 3) := by decide +kernel
theorem dX7_costBy_45 : decode cX7_costBy 45 = .ok (.iload_n 2, 1) := by decide +kernel
theorem dX7_costBy_46 : decode cX7_costBy 46 = .ok (.aload_n 0, 1) := by decide +kernel
theorem dX7_costBy_47 : decode cX7_costBy 47 = .ok (.iload_n 3, 1) := by decide +kernel
theorem dX7_costBy_48 : decode cX7_costBy 48 = .ok (.invokevirtual 47, 3) := by decide +kernel
theorem dX7_costBy_51 : decode cX7_costBy 51 = .ok (.aload_n 1, 1) := by decide +kernel
theorem dX7_costBy_52 : decode cX7_costBy 52 = .ok (.iload_n 3, 1) := by decide +kernel
theorem dX7_costBy_53 : decode cX7_costBy 53 = .ok (.invokevirtual 50, 3) := by decide +kernel
theorem dX7_costBy_56 : decode cX7_costBy 56 = .ok (.imul, 1) := by decide +kernel
theorem dX7_costBy_57 : decode cX7_costBy 57 = .ok (.iadd, 1) := by decide +kernel
theorem dX7_costBy_58 : decode cX7_costBy 58 = .ok (.istore_n 2, 1) := by decide +kernel
theorem dX7_costBy_59 : decode cX7_costBy 59 = .ok (.iinc 3 1, 3) := by decide +kernel
theorem dX7_costBy_62 : decode cX7_costBy 62 = .ok (.goto (-23), 3) := by decide +kernel
theorem dX7_costBy_65 : decode cX7_costBy 65 = .ok (.iload_n 2, 1) := by decide +kernel
theorem dX7_costBy_66 : decode cX7_costBy 66 = .ok (.ireturn, 1) := by decide +kernel
theorem dX7_alikeCellsTurned_0 : decode cX7_alikeCellsTurned 0 = .ok (.iconst 0, 1) := by decide +kernel
theorem dX7_alikeCellsTurned_1 : decode cX7_alikeCellsTurned 1 = .ok (.istore 4, 2) := by decide +kernel
theorem dX7_alikeCellsTurned_3 : decode cX7_alikeCellsTurned 3 = .ok (.iconst 0, 1) := by decide +kernel
theorem dX7_alikeCellsTurned_4 : decode cX7_alikeCellsTurned 4 = .ok (.istore 5, 2) := by decide +kernel
theorem dX7_alikeCellsTurned_6 : decode cX7_alikeCellsTurned 6 = .ok (.iload 5, 2) := by decide +kernel
theorem dX7_alikeCellsTurned_8 : decode cX7_alikeCellsTurned 8 = .ok (.bipush 8, 2) := by decide +kernel
theorem dX7_alikeCellsTurned_10 : decode cX7_alikeCellsTurned 10 = .ok (.if_icmp .ge 96, 3) := by decide +kernel
theorem dX7_alikeCellsTurned_13 : decode cX7_alikeCellsTurned 13 = .ok (.iconst 0, 1) := by decide +kernel
theorem dX7_alikeCellsTurned_14 : decode cX7_alikeCellsTurned 14 = .ok (.istore 6, 2) := by decide +kernel
theorem dX7_alikeCellsTurned_16 : decode cX7_alikeCellsTurned 16 = .ok (.iload 6, 2) := by decide +kernel
theorem dX7_alikeCellsTurned_18 : decode cX7_alikeCellsTurned 18 = .ok (.bipush 10, 2) := by decide +kernel
theorem dX7_alikeCellsTurned_20 : decode cX7_alikeCellsTurned 20 = .ok (.if_icmp .ge 80, 3) := by decide +kernel
theorem dX7_alikeCellsTurned_23 : decode cX7_alikeCellsTurned 23 = .ok (.aload_n 0, 1) := by decide +kernel
theorem dX7_alikeCellsTurned_24 : decode cX7_alikeCellsTurned 24 = .ok (.iconst 0, 1) := by decide +kernel
theorem dX7_alikeCellsTurned_25 : decode cX7_alikeCellsTurned 25 = .ok (.iload 6, 2) := by decide +kernel
theorem dX7_alikeCellsTurned_27 : decode cX7_alikeCellsTurned 27 = .ok (.iload 5, 2) := by decide +kernel
theorem dX7_alikeCellsTurned_29 : decode cX7_alikeCellsTurned 29 = .ok (.invokestatic 63, 3) := by decide +kernel
theorem dX7_alikeCellsTurned_32 : decode cX7_alikeCellsTurned 32 = .ok (.invokevirtual 38, 3) := by decide +kernel
theorem dX7_alikeCellsTurned_35 : decode cX7_alikeCellsTurned 35 = .ok (.istore 7, 2) := by decide +kernel
theorem dX7_alikeCellsTurned_37 : decode cX7_alikeCellsTurned 37 = .ok (.iload_n 2, 1) := by decide +kernel
theorem dX7_alikeCellsTurned_38 : decode cX7_alikeCellsTurned 38 = .ok (.ifCond .eq 11, 3) := by decide +kernel
theorem dX7_alikeCellsTurned_41 : decode cX7_alikeCellsTurned 41 = .ok (.bipush 9, 2) := by decide +kernel
theorem dX7_alikeCellsTurned_43 : decode cX7_alikeCellsTurned 43 = .ok (.iload 6, 2) := by decide +kernel
theorem dX7_alikeCellsTurned_45 : decode cX7_alikeCellsTurned 45 = .ok (.isub, 1) := by decide +kernel
theorem dX7_alikeCellsTurned_46 : decode cX7_alikeCellsTurned 46 = .ok (.goto 5, 3) := by decide +kernel
theorem dX7_alikeCellsTurned_49 : decode cX7_alikeCellsTurned 49 = .ok (.iload 6, 2) := by decide +kernel
theorem dX7_alikeCellsTurned_51 : decode cX7_alikeCellsTurned 51 = .ok (.istore 8, 2) := by decide +kernel
theorem dX7_alikeCellsTurned_53 : decode cX7_alikeCellsTurned 53 = .ok (.iload_n 3, 1) := by decide +kernel
theorem dX7_alikeCellsTurned_54 : decode cX7_alikeCellsTurned 54 = .ok (.ifCond .eq 11, 3) := by decide +kernel
theorem dX7_alikeCellsTurned_57 : decode cX7_alikeCellsTurned 57 = .ok (.bipush 7, 2) := by decide +kernel
theorem dX7_alikeCellsTurned_59 : decode cX7_alikeCellsTurned 59 = .ok (.iload 5, 2) := by decide +kernel
theorem dX7_alikeCellsTurned_61 : decode cX7_alikeCellsTurned 61 = .ok (.isub, 1) := by decide +kernel
theorem dX7_alikeCellsTurned_62 : decode cX7_alikeCellsTurned 62 = .ok (.goto 5, 3) := by decide +kernel
theorem dX7_alikeCellsTurned_65 : decode cX7_alikeCellsTurned 65 = .ok (.iload 5, 2) := by decide +kernel
theorem dX7_alikeCellsTurned_67 : decode cX7_alikeCellsTurned 67 = .ok (.istore 9, 2) := by decide +kernel
theorem dX7_alikeCellsTurned_69 : decode cX7_alikeCellsTurned 69 = .ok (.iload 7, 2) := by decide +kernel
theorem dX7_alikeCellsTurned_71 : decode cX7_alikeCellsTurned 71 = .ok (.ifCond .eq 23, 3) := by decide +kernel
theorem dX7_alikeCellsTurned_74 : decode cX7_alikeCellsTurned 74 = .ok (.iload 7, 2) := by decide +kernel
theorem dX7_alikeCellsTurned_76 : decode cX7_alikeCellsTurned 76 = .ok (.aload_n 1, 1) := by decide +kernel
theorem dX7_alikeCellsTurned_77 : decode cX7_alikeCellsTurned 77 = .ok (.iconst 0, 1) := by decide +kernel
theorem dX7_alikeCellsTurned_78 : decode cX7_alikeCellsTurned 78 = .ok (.iload 8, 2) := by decide +kernel
theorem dX7_alikeCellsTurned_80 : decode cX7_alikeCellsTurned 80 = .ok (.iload 9, 2) := by decide +kernel
theorem dX7_alikeCellsTurned_82 : decode cX7_alikeCellsTurned 82 = .ok (.invokestatic 63, 3) := by decide +kernel
theorem dX7_alikeCellsTurned_85 : decode cX7_alikeCellsTurned 85 = .ok (.invokevirtual 38, 3) := by decide +kernel
theorem dX7_alikeCellsTurned_88 : decode cX7_alikeCellsTurned 88 = .ok (.if_icmp .ne 6, 3) := by decide +kernel
theorem dX7_alikeCellsTurned_91 : decode cX7_alikeCellsTurned 91 = .ok (.iinc 4 1, 3) := by decide +kernel
theorem dX7_alikeCellsTurned_94 : decode cX7_alikeCellsTurned 94 = .ok (.iinc 6 1, 3) := by decide +kernel
theorem dX7_alikeCellsTurned_97 : decode cX7_alikeCellsTurned 97 = .ok (.goto (-81), 3) := by decide +kernel
theorem dX7_alikeCellsTurned_100 : decode cX7_alikeCellsTurned 100 = .ok (.iinc 5 1, 3) := by decide +kernel
theorem dX7_alikeCellsTurned_103 : decode cX7_alikeCellsTurned 103 = .ok (.goto (-97), 3) := by decide +kernel
theorem dX7_alikeCellsTurned_106 : decode cX7_alikeCellsTurned 106 = .ok (.iload 4, 2) := by decide +kernel
theorem dX7_alikeCellsTurned_108 : decode cX7_alikeCellsTurned 108 = .ok (.ireturn, 1) := by decide +kernel
theorem dX7_alikeCells_0 : decode cX7_alikeCells 0 = .ok (.iconst 0, 1) := by decide +kernel
theorem dX7_alikeCells_1 : decode cX7_alikeCells 1 = .ok (.istore_n 2, 1) := by decide +kernel
theorem dX7_alikeCells_2 : decode cX7_alikeCells 2 = .ok (.iconst 0, 1) := by decide +kernel
theorem dX7_alikeCells_3 : decode cX7_alikeCells 3 = .ok (.istore_n 3, 1) := by decide +kernel
theorem dX7_alikeCells_4 : decode cX7_alikeCells 4 = .ok (.iload_n 3, 1) := by decide +kernel
theorem dX7_alikeCells_5 : decode cX7_alikeCells 5 = .ok (.iconst 4, 1) := by decide +kernel
theorem dX7_alikeCells_6 : decode cX7_alikeCells 6 = .ok (.if_icmp .ge 41, 3) := by decide +kernel
theorem dX7_alikeCells_9 : decode cX7_alikeCells 9 = .ok (.iload_n 2, 1) := by decide +kernel
theorem dX7_alikeCells_10 : decode cX7_alikeCells 10 = .ok (.aload_n 0, 1) := by decide +kernel
theorem dX7_alikeCells_11 : decode cX7_alikeCells 11 = .ok (.aload_n 1, 1) := by decide +kernel
theorem dX7_alikeCells_12 : decode cX7_alikeCells 12 = .ok (.iload_n 3, 1) := by decide +kernel
theorem dX7_alikeCells_13 : decode cX7_alikeCells 13 = .ok (.iconst 1, 1) := by decide +kernel
theorem dX7_alikeCells_14 : decode cX7_alikeCells 14 = .ok (.iand, 1) := by decide +kernel
theorem dX7_alikeCells_15 : decode cX7_alikeCells 15 = .ok (.ifCond .eq 7, 3) := by decide +kernel
theorem dX7_alikeCells_18 : decode cX7_alikeCells 18 = .ok (.iconst 1, 1) := by decide +kernel
theorem dX7_alikeCells_19 : decode cX7_alikeCells 19 = .ok (.goto 4, 3) := by decide +kernel
theorem dX7_alikeCells_22 : decode cX7_alikeCells 22 = .ok (.iconst 0, 1) := by decide +kernel
theorem dX7_alikeCells_23 : decode cX7_alikeCells 23 = .ok (.iload_n 3, 1) := by decide +kernel
theorem dX7_alikeCells_24 : decode cX7_alikeCells 24 = .ok (.iconst 2, 1) := by decide +kernel
theorem dX7_alikeCells_25 : decode cX7_alikeCells 25 = .ok (.iand, 1) := by decide +kernel
theorem dX7_alikeCells_26 : decode cX7_alikeCells 26 = .ok (.ifCond .eq 7, 3) := by decide +kernel
theorem dX7_alikeCells_29 : decode cX7_alikeCells 29 = .ok (.iconst 1, 1) := by decide +kernel
theorem dX7_alikeCells_30 : decode cX7_alikeCells 30 = .ok (.goto 4, 3) := by decide +kernel
theorem dX7_alikeCells_33 : decode cX7_alikeCells 33 = .ok (.iconst 0, 1) := by decide +kernel
theorem dX7_alikeCells_34 : decode cX7_alikeCells 34 = .ok (.invokevirtual 53, 3) := by decide +kernel
theorem dX7_alikeCells_37 : decode cX7_alikeCells 37 = .ok (.invokestatic 57, 3) := by decide +kernel
theorem dX7_alikeCells_40 : decode cX7_alikeCells 40 = .ok (.istore_n 2, 1) := by decide +kernel
theorem dX7_alikeCells_41 : decode cX7_alikeCells 41 = .ok (.iinc 3 1, 3) := by decide +kernel
theorem dX7_alikeCells_44 : decode cX7_alikeCells 44 = .ok (.goto (-40), 3) := by decide +kernel
theorem dX7_alikeCells_47 : decode cX7_alikeCells 47 = .ok (.iload_n 2, 1) := by decide +kernel
theorem dX7_alikeCells_48 : decode cX7_alikeCells 48 = .ok (.ireturn, 1) := by decide +kernel
theorem dX8_setSun_0 : decode cX8_setSun 0 = .ok (.iload_n 1, 1) := by decide +kernel
theorem dX8_setSun_1 : decode cX8_setSun 1 = .ok (.ifCond .lt 19, 3) := by decide +kernel
theorem dX8_setSun_4 : decode cX8_setSun 4 = .ok (.iload_n 1, 1) := by decide +kernel
theorem dX8_setSun_5 : decode cX8_setSun 5 = .ok (.aload_n 0, 1) := by decide +kernel
theorem dX8_setSun_6 : decode cX8_setSun 6 = .ok (.getfield 9, 3) := by decide +kernel
theorem dX8_setSun_9 : decode cX8_setSun 9 = .ok (.arraylength, 1) := by decide +kernel
theorem dX8_setSun_10 : decode cX8_setSun 10 = .ok (.if_icmp .ge 10, 3) := by decide +kernel
theorem dX8_setSun_13 : decode cX8_setSun 13 = .ok (.aload_n 0, 1) := by decide +kernel
theorem dX8_setSun_14 : decode cX8_setSun 14 = .ok (.getfield 9, 3) := by decide +kernel
theorem dX8_setSun_17 : decode cX8_setSun 17 = .ok (.iload_n 1, 1) := by decide +kernel
theorem dX8_setSun_18 : decode cX8_setSun 18 = .ok (.iload_n 2, 1) := by decide +kernel
theorem dX8_setSun_19 : decode cX8_setSun 19 = .ok (.iastore, 1) := by decide +kernel
theorem dX8_setSun_20 : decode cX8_setSun 20 = .ok (.return_, 1) := by decide +kernel
theorem dX8_forgetMend_0 : decode cX8_forgetMend 0 = .ok (.aload_n 0, 1) := by decide +kernel
theorem dX8_forgetMend_1 : decode cX8_forgetMend 1 = .ok (.iconst (-1), 1) := by decide +kernel
theorem dX8_forgetMend_2 : decode cX8_forgetMend 2 = .ok (.putfield 28, 3) := by decide +kernel
theorem dX8_forgetMend_5 : decode cX8_forgetMend 5 = .ok (.return_, 1) := by decide +kernel
theorem dX8_mendPart_0 : decode cX8_mendPart 0 = .ok (.iload_n 1, 1) := by decide +kernel
theorem dX8_mendPart_1 : decode cX8_mendPart 1 = .ok (.ifCond .lt 21, 3) := by decide +kernel
theorem dX8_mendPart_4 : decode cX8_mendPart 4 = .ok (.iload_n 1, 1) := by decide +kernel
theorem dX8_mendPart_5 : decode cX8_mendPart 5 = .ok (.aload_n 0, 1) := by decide +kernel
theorem dX8_mendPart_6 : decode cX8_mendPart 6 = .ok (.getfield 25, 3) := by decide +kernel
theorem dX8_mendPart_9 : decode cX8_mendPart 9 = .ok (.arraylength, 1) := by decide +kernel
theorem dX8_mendPart_10 : decode cX8_mendPart 10 = .ok (.if_icmp .ge 12, 3) := by decide +kernel
theorem dX8_mendPart_13 : decode cX8_mendPart 13 = .ok (.aload_n 0, 1) := by decide +kernel
theorem dX8_mendPart_14 : decode cX8_mendPart 14 = .ok (.getfield 25, 3) := by decide +kernel
theorem dX8_mendPart_17 : decode cX8_mendPart 17 = .ok (.iload_n 1, 1) := by decide +kernel
theorem dX8_mendPart_18 : decode cX8_mendPart 18 = .ok (.iaload, 1) := by decide +kernel
theorem dX8_mendPart_19 : decode cX8_mendPart 19 = .ok (.goto 4, 3) := by decide +kernel
theorem dX8_mendPart_22 : decode cX8_mendPart 22 = .ok (.iconst (-1), 1) := by decide +kernel
theorem dX8_mendPart_23 : decode cX8_mendPart 23 = .ok (.ireturn, 1) := by decide +kernel
theorem dX8_lightAt_0 : decode cX8_lightAt 0 = .ok (.iconst 0, 1) := by decide +kernel
theorem dX8_lightAt_1 : decode cX8_lightAt 1 = .ok (.istore_n 3, 1) := by decide +kernel
theorem dX8_lightAt_2 : decode cX8_lightAt 2 = .ok (.aload_n 1, 1) := by decide +kernel
theorem dX8_lightAt_3 : decode cX8_lightAt 3 = .ok (.getfield 46, 3) := by decide +kernel
theorem dX8_lightAt_6 : decode cX8_lightAt 6 = .ok (.astore 4, 2) := by decide +kernel
theorem dX8_lightAt_8 : decode cX8_lightAt 8 = .ok (.iconst 0, 1) := by decide +kernel
theorem dX8_lightAt_9 : decode cX8_lightAt 9 = .ok (.istore 5, 2) := by decide +kernel
theorem dX8_lightAt_11 : decode cX8_lightAt 11 = .ok (.iload 5, 2) := by decide +kernel
theorem dX8_lightAt_13 : decode cX8_lightAt 13 = .ok (.aload_n 0, 1) := by decide +kernel
theorem dX8_lightAt_14 : decode cX8_lightAt 14 = .ok (.getfield 9, 3) := by decide +kernel
theorem dX8_lightAt_17 : decode cX8_lightAt 17 = .ok (.arraylength, 1) := by decide +kernel
theorem dX8_lightAt_18 : decode cX8_lightAt 18 = .ok (.if_icmp .ge 61, 3) := by decide +kernel
theorem dX8_lightAt_21 : decode cX8_lightAt 21 = .ok (.iload 5, 2) := by decide +kernel
theorem dX8_lightAt_23 : decode cX8_lightAt 23 = .ok (.getstatic 49, 3) := by decide +kernel
theorem dX8_lightAt_26 : decode cX8_lightAt 26 = .ok (.arraylength, 1) := by decide +kernel
theorem dX8_lightAt_27 : decode cX8_lightAt 27 = .ok (.if_icmp .ge 52, 3) := by decide +kernel
theorem dX8_lightAt_30 : decode cX8_lightAt 30 = .ok (.iload_n 2, 1) := by decide +kernel
theorem dX8_lightAt_31 : decode cX8_lightAt 31 = .ok (.getstatic 49, 3) := by decide +kernel
theorem dX8_lightAt_34 : decode cX8_lightAt 34 = .ok (.iload 5, 2) := by decide +kernel
theorem dX8_lightAt_36 : decode cX8_lightAt 36 = .ok (.iaload, 1) := by decide +kernel
theorem dX8_lightAt_37 : decode cX8_lightAt 37 = .ok (.iadd, 1) := by decide +kernel
theorem dX8_lightAt_38 : decode cX8_lightAt 38 = .ok (.istore 6, 2) := by decide +kernel
theorem dX8_lightAt_40 : decode cX8_lightAt 40 = .ok (.iload 6, 2) := by decide +kernel
theorem dX8_lightAt_42 : decode cX8_lightAt 42 = .ok (.ifCond .lt 31, 3) := by decide +kernel
theorem dX8_lightAt_45 : decode cX8_lightAt 45 = .ok (.iload 6, 2) := by decide +kernel
theorem dX8_lightAt_47 : decode cX8_lightAt 47 = .ok (.aload 4, 2) := by decide +kernel
theorem dX8_lightAt_49 : decode cX8_lightAt 49 = .ok (.arraylength, 1) := by decide +kernel
theorem dX8_lightAt_50 : decode cX8_lightAt 50 = .ok (.if_icmp .ge 23, 3) := by decide +kernel
theorem dX8_lightAt_53 : decode cX8_lightAt 53 = .ok (.aload 4, 2) := by decide +kernel
theorem dX8_lightAt_55 : decode cX8_lightAt 55 = .ok (.iload 6, 2) := by decide +kernel
theorem dX8_lightAt_57 : decode cX8_lightAt 57 = .ok (.iaload, 1) := by decide +kernel
theorem dX8_lightAt_58 : decode cX8_lightAt 58 = .ok (.ifCond .ne 15, 3) := by decide +kernel
theorem dX8_lightAt_61 : decode cX8_lightAt 61 = .ok (.iload_n 3, 1) := by decide +kernel
theorem dX8_lightAt_62 : decode cX8_lightAt 62 = .ok (.aload_n 0, 1) := by decide +kernel
theorem dX8_lightAt_63 : decode cX8_lightAt 63 = .ok (.getfield 9, 3) := by decide +kernel
theorem dX8_lightAt_66 : decode cX8_lightAt 66 = .ok (.iload 5, 2) := by decide +kernel
theorem dX8_lightAt_68 : decode cX8_lightAt 68 = .ok (.iaload, 1) := by decide +kernel
theorem dX8_lightAt_69 : decode cX8_lightAt 69 = .ok (.invokestatic 40, 3) := by decide +kernel
theorem dX8_lightAt_72 : decode cX8_lightAt 72 = .ok (.istore_n 3, 1) := by decide +kernel
theorem dX8_lightAt_73 : decode cX8_lightAt 73 = .ok (.iinc 5 1, 3) := by decide +kernel
theorem dX8_lightAt_76 : decode cX8_lightAt 76 = .ok (.goto (-65), 3) := by decide +kernel
theorem dX8_lightAt_79 : decode cX8_lightAt 79 = .ok (.iload_n 3, 1) := by decide +kernel
theorem dX8_lightAt_80 : decode cX8_lightAt 80 = .ok (.ireturn, 1) := by decide +kernel
theorem dX8_lightOf_0 : decode cX8_lightOf 0 = .ok (.iconst 0, 1) := by decide +kernel
theorem dX8_lightOf_1 : decode cX8_lightOf 1 = .ok (.istore_n 3, 1) := by decide +kernel
theorem dX8_lightOf_2 : decode cX8_lightOf 2 = .ok (.bipush 13, 2) := by decide +kernel
theorem dX8_lightOf_4 : decode cX8_lightOf 4 = .ok (.istore 4, 2) := by decide +kernel
theorem dX8_lightOf_6 : decode cX8_lightOf 6 = .ok (.iload 4, 2) := by decide +kernel
theorem dX8_lightOf_8 : decode cX8_lightOf 8 = .ok (.sipush 227, 3) := by decide +kernel
theorem dX8_lightOf_11 : decode cX8_lightOf 11 = .ok (.if_icmp .ge 31, 3) := by decide +kernel
theorem dX8_lightOf_14 : decode cX8_lightOf 14 = .ok (.aload_n 1, 1) := by decide +kernel
theorem dX8_lightOf_15 : decode cX8_lightOf 15 = .ok (.iload 4, 2) := by decide +kernel
theorem dX8_lightOf_17 : decode cX8_lightOf 17 = .ok (.invokevirtual 32, 3) := by decide +kernel
theorem dX8_lightOf_20 : decode cX8_lightOf 20 = .ok (.iload_n 2, 1) := by decide +kernel
theorem dX8_lightOf_21 : decode cX8_lightOf 21 = .ok (.if_icmp .ne 15, 3) := by decide +kernel
theorem dX8_lightOf_24 : decode cX8_lightOf 24 = .ok (.iload_n 3, 1) := by decide +kernel
theorem dX8_lightOf_25 : decode cX8_lightOf 25 = .ok (.aload_n 0, 1) := by decide +kernel
theorem dX8_lightOf_26 : decode cX8_lightOf 26 = .ok (.aload_n 1, 1) := by decide +kernel
theorem dX8_lightOf_27 : decode cX8_lightOf 27 = .ok (.iload 4, 2) := by decide +kernel
theorem dX8_lightOf_29 : decode cX8_lightOf 29 = .ok (.invokevirtual 36, 3) := by decide +kernel
theorem dX8_lightOf_32 : decode cX8_lightOf 32 = .ok (.invokestatic 40, 3) := by decide +kernel
theorem dX8_lightOf_35 : decode cX8_lightOf 35 = .ok (.istore_n 3, 1) := by decide +kernel
theorem dX8_lightOf_36 : decode cX8_lightOf 36 = .ok (.iinc 4 1, 3) := by decide +kernel
theorem dX8_lightOf_39 : decode cX8_lightOf 39 = .ok (.goto (-33), 3) := by decide +kernel
theorem dX8_lightOf_42 : decode cX8_lightOf 42 = .ok (.iload_n 3, 1) := by decide +kernel
theorem dX8_lightOf_43 : decode cX8_lightOf 43 = .ok (.ireturn, 1) := by decide +kernel
theorem dX8_darkRooms_0 : decode cX8_darkRooms 0 = .ok (.iconst 0, 1) := by decide +kernel
theorem dX8_darkRooms_1 : decode cX8_darkRooms 1 = .ok (.istore_n 2, 1) := by decide +kernel
theorem dX8_darkRooms_2 : decode cX8_darkRooms 2 = .ok (.bipush 13, 2) := by decide +kernel
theorem dX8_darkRooms_4 : decode cX8_darkRooms 4 = .ok (.istore_n 3, 1) := by decide +kernel
theorem dX8_darkRooms_5 : decode cX8_darkRooms 5 = .ok (.iload_n 3, 1) := by decide +kernel
theorem dX8_darkRooms_6 : decode cX8_darkRooms 6 = .ok (.sipush 227, 3) := by decide +kernel
theorem dX8_darkRooms_9 : decode cX8_darkRooms 9 = .ok (.if_icmp .ge 54, 3) := by decide +kernel
theorem dX8_darkRooms_12 : decode cX8_darkRooms 12 = .ok (.aload_n 1, 1) := by decide +kernel
theorem dX8_darkRooms_13 : decode cX8_darkRooms 13 = .ok (.iload_n 3, 1) := by decide +kernel
theorem dX8_darkRooms_14 : decode cX8_darkRooms 14 = .ok (.invokevirtual 32, 3) := by decide +kernel
theorem dX8_darkRooms_17 : decode cX8_darkRooms 17 = .ok (.istore 4, 2) := by decide +kernel
theorem dX8_darkRooms_19 : decode cX8_darkRooms 19 = .ok (.iload 4, 2) := by decide +kernel
theorem dX8_darkRooms_21 : decode cX8_darkRooms 21 = .ok (.iconst 1, 1) := by decide +kernel
theorem dX8_darkRooms_22 : decode cX8_darkRooms 22 = .ok (.if_icmp .lt 35, 3) := by decide +kernel
theorem dX8_darkRooms_25 : decode cX8_darkRooms 25 = .ok (.iload 4, 2) := by decide +kernel
theorem dX8_darkRooms_27 : decode cX8_darkRooms 27 = .ok (.bipush 12, 2) := by decide +kernel
theorem dX8_darkRooms_29 : decode cX8_darkRooms 29 = .ok (.if_icmp .gt 28, 3) := by decide +kernel
theorem dX8_darkRooms_32 : decode cX8_darkRooms 32 = .ok (.iload_n 2, 1) := by decide +kernel
theorem dX8_darkRooms_33 : decode cX8_darkRooms 33 = .ok (.iload 4, 2) := by decide +kernel
theorem dX8_darkRooms_35 : decode cX8_darkRooms 35 = .ok (.iushr, 1) := by decide +kernel
theorem dX8_darkRooms_36 : decode cX8_darkRooms 36 = .ok (.iconst 1, 1) := by decide +kernel
theorem dX8_darkRooms_37 : decode cX8_darkRooms 37 = .ok (.iand, 1) := by decide +kernel
theorem dX8_darkRooms_38 : decode cX8_darkRooms 38 = .ok (.ifCond .ne 19, 3) := by decide +kernel
theorem dX8_darkRooms_41 : decode cX8_darkRooms 41 = .ok (.aload_n 0, 1) := by decide +kernel
theorem dX8_darkRooms_42 : decode cX8_darkRooms 42 = .ok (.aload_n 1, 1) := by decide +kernel
theorem dX8_darkRooms_43 : decode cX8_darkRooms 43 = .ok (.iload_n 3, 1) := by decide +kernel
theorem dX8_darkRooms_44 : decode cX8_darkRooms 44 = .ok (.invokevirtual 36, 3) := by decide +kernel
theorem dX8_darkRooms_47 : decode cX8_darkRooms 47 = .ok (.ifCond .le 10, 3) := by decide +kernel
theorem dX8_darkRooms_50 : decode cX8_darkRooms 50 = .ok (.iload_n 2, 1) := by decide +kernel
theorem dX8_darkRooms_51 : decode cX8_darkRooms 51 = .ok (.iconst 1, 1) := by decide +kernel
theorem dX8_darkRooms_52 : decode cX8_darkRooms 52 = .ok (.iload 4, 2) := by decide +kernel
theorem dX8_darkRooms_54 : decode cX8_darkRooms 54 = .ok (.ishl, 1) := by decide +kernel
theorem dX8_darkRooms_55 : decode cX8_darkRooms 55 = .ok (.ior, 1) := by decide +kernel
theorem dX8_darkRooms_56 : decode cX8_darkRooms 56 = .ok (.istore_n 2, 1) := by decide +kernel
theorem dX8_darkRooms_57 : decode cX8_darkRooms 57 = .ok (.iinc 3 1, 3) := by decide +kernel
theorem dX8_darkRooms_60 : decode cX8_darkRooms 60 = .ok (.goto (-55), 3) := by decide +kernel
theorem dX8_darkRooms_63 : decode cX8_darkRooms 63 = .ok (.aload_n 1, 1) := by decide +kernel
theorem dX8_darkRooms_64 : decode cX8_darkRooms 64 = .ok (.invokevirtual 52, 3) := by decide +kernel
theorem dX8_darkRooms_67 : decode cX8_darkRooms 67 = .ok (.iload_n 2, 1) := by decide +kernel
theorem dX8_darkRooms_68 : decode cX8_darkRooms 68 = .ok (.invokestatic 56, 3) := by decide +kernel
theorem dX8_darkRooms_71 : decode cX8_darkRooms 71 = .ok (.isub, 1) := by decide +kernel
theorem dX8_darkRooms_72 : decode cX8_darkRooms 72 = .ok (.ireturn, 1) := by decide +kernel
theorem dX8_stepFrom_0 : decode cX8_stepFrom 0 = .ok (.aload_n 0, 1) := by decide +kernel
theorem dX8_stepFrom_1 : decode cX8_stepFrom 1 = .ok (.iload_n 1, 1) := by decide +kernel
theorem dX8_stepFrom_2 : decode cX8_stepFrom 2 = .ok (.invokevirtual 32, 3) := by decide +kernel
theorem dX8_stepFrom_5 : decode cX8_stepFrom 5 = .ok (.istore_n 3, 1) := by decide +kernel
theorem dX8_stepFrom_6 : decode cX8_stepFrom 6 = .ok (.iload_n 2, 1) := by decide +kernel
theorem dX8_stepFrom_7 : decode cX8_stepFrom 7 = .ok (.ifCond .lt 11, 3) := by decide +kernel
theorem dX8_stepFrom_10 : decode cX8_stepFrom 10 = .ok (.iload_n 2, 1) := by decide +kernel
theorem dX8_stepFrom_11 : decode cX8_stepFrom 11 = .ok (.getstatic 49, 3) := by decide +kernel
theorem dX8_stepFrom_14 : decode cX8_stepFrom 14 = .ok (.arraylength, 1) := by decide +kernel
theorem dX8_stepFrom_15 : decode cX8_stepFrom 15 = .ok (.if_icmp .lt 46, 3) := by decide +kernel
theorem dX8_stepFrom_18 : decode cX8_stepFrom 18 = .ok (.iload_n 1, 1) := by decide +kernel
theorem dX8_stepFrom_19 : decode cX8_stepFrom 19 = .ok (.bipush 120, 2) := by decide +kernel
theorem dX8_stepFrom_21 : decode cX8_stepFrom 21 = .ok (.if_icmp .ge 10, 3) := by decide +kernel
theorem dX8_stepFrom_24 : decode cX8_stepFrom 24 = .ok (.iload_n 1, 1) := by decide +kernel
theorem dX8_stepFrom_25 : decode cX8_stepFrom 25 = .ok (.bipush 120, 2) := by decide +kernel
theorem dX8_stepFrom_27 : decode cX8_stepFrom 27 = .ok (.iadd, 1) := by decide +kernel
theorem dX8_stepFrom_28 : decode cX8_stepFrom 28 = .ok (.goto 7, 3) := by decide +kernel
theorem dX8_stepFrom_31 : decode cX8_stepFrom 31 = .ok (.iload_n 1, 1) := by decide +kernel
theorem dX8_stepFrom_32 : decode cX8_stepFrom 32 = .ok (.bipush 120, 2) := by decide +kernel
theorem dX8_stepFrom_34 : decode cX8_stepFrom 34 = .ok (.isub, 1) := by decide +kernel
theorem dX8_stepFrom_35 : decode cX8_stepFrom 35 = .ok (.istore 4, 2) := by decide +kernel
theorem dX8_stepFrom_37 : decode cX8_stepFrom 37 = .ok (.iload_n 3, 1) := by decide +kernel
theorem dX8_stepFrom_38 : decode cX8_stepFrom 38 = .ok (.bipush 14, 2) := by decide +kernel
theorem dX8_stepFrom_40 : decode cX8_stepFrom 40 = .ok (.if_icmp .ne 19, 3) := by decide +kernel
theorem dX8_stepFrom_43 : decode cX8_stepFrom 43 = .ok (.aload_n 0, 1) := by decide +kernel
theorem dX8_stepFrom_44 : decode cX8_stepFrom 44 = .ok (.iload 4, 2) := by decide +kernel
theorem dX8_stepFrom_46 : decode cX8_stepFrom 46 = .ok (.invokevirtual 32, 3) := by decide +kernel
theorem dX8_stepFrom_49 : decode cX8_stepFrom 49 = .ok (.bipush 14, 2) := by decide +kernel
theorem dX8_stepFrom_51 : decode cX8_stepFrom 51 = .ok (.if_icmp .ne 8, 3) := by decide +kernel
theorem dX8_stepFrom_54 : decode cX8_stepFrom 54 = .ok (.iload 4, 2) := by decide +kernel
theorem dX8_stepFrom_56 : decode cX8_stepFrom 56 = .ok (.goto 4, 3) := by decide +kernel
theorem dX8_stepFrom_59 : decode cX8_stepFrom 59 = .ok (.iconst (-1), 1) := by decide +kernel
theorem dX8_stepFrom_60 : decode cX8_stepFrom 60 = .ok (.ireturn, 1) := by decide +kernel
theorem dX8_stepFrom_61 : decode cX8_stepFrom 61 = .ok (.iload_n 1, 1) := by decide +kernel
theorem dX8_stepFrom_62 : decode cX8_stepFrom 62 = .ok (.getstatic 49, 3) := by decide +kernel
theorem dX8_stepFrom_65 : decode cX8_stepFrom 65 = .ok (.iload_n 2, 1) := by decide +kernel
theorem dX8_stepFrom_66 : decode cX8_stepFrom 66 = .ok (.iaload, 1) := by decide +kernel
theorem dX8_stepFrom_67 : decode cX8_stepFrom 67 = .ok (.iadd, 1) := by decide +kernel
theorem dX8_stepFrom_68 : decode cX8_stepFrom 68 = .ok (.istore 4, 2) := by decide +kernel
theorem dX8_stepFrom_70 : decode cX8_stepFrom 70 = .ok (.aload_n 0, 1) := by decide +kernel
theorem dX8_stepFrom_71 : decode cX8_stepFrom 71 = .ok (.iload 4, 2) := by decide +kernel
theorem dX8_stepFrom_73 : decode cX8_stepFrom 73 = .ok (.invokevirtual 32, 3) := by decide +kernel
theorem dX8_stepFrom_76 : decode cX8_stepFrom 76 = .ok (.istore 5, 2) := by decide +kernel
theorem dX8_stepFrom_78 : decode cX8_stepFrom 78 = .ok (.iload_n 3, 1) := by decide +kernel
theorem dX8_stepFrom_79 : decode cX8_stepFrom 79 = .ok (.ifCond .eq 8, 3) := by decide +kernel
theorem dX8_stepFrom_82 : decode cX8_stepFrom 82 = .ok (.iload 5, 2) := by decide +kernel
theorem dX8_stepFrom_84 : decode cX8_stepFrom 84 = .ok (.ifCond .ne 5, 3) := by decide +kernel
theorem dX8_stepFrom_87 : decode cX8_stepFrom 87 = .ok (.iconst (-1), 1) := by decide +kernel
theorem dX8_stepFrom_88 : decode cX8_stepFrom 88 = .ok (.ireturn, 1) := by decide +kernel
theorem dX8_stepFrom_89 : decode cX8_stepFrom 89 = .ok (.iload_n 3, 1) := by decide +kernel
theorem dX8_stepFrom_90 : decode cX8_stepFrom 90 = .ok (.iload 5, 2) := by decide +kernel
theorem dX8_stepFrom_92 : decode cX8_stepFrom 92 = .ok (.if_icmp .eq 16, 3) := by decide +kernel
theorem dX8_stepFrom_95 : decode cX8_stepFrom 95 = .ok (.iload_n 3, 1) := by decide +kernel
theorem dX8_stepFrom_96 : decode cX8_stepFrom 96 = .ok (.bipush 13, 2) := by decide +kernel
theorem dX8_stepFrom_98 : decode cX8_stepFrom 98 = .ok (.if_icmp .ge 10, 3) := by decide +kernel
theorem dX8_stepFrom_101 : decode cX8_stepFrom 101 = .ok (.iload 5, 2) := by decide +kernel
theorem dX8_stepFrom_103 : decode cX8_stepFrom 103 = .ok (.bipush 13, 2) := by decide +kernel
theorem dX8_stepFrom_105 : decode cX8_stepFrom 105 = .ok (.if_icmp .lt 8, 3) := by decide +kernel
theorem dX8_stepFrom_108 : decode cX8_stepFrom 108 = .ok (.iload 4, 2) := by decide +kernel
theorem dX8_stepFrom_110 : decode cX8_stepFrom 110 = .ok (.goto 4, 3) := by decide +kernel
theorem dX8_stepFrom_113 : decode cX8_stepFrom 113 = .ok (.iconst (-1), 1) := by decide +kernel
theorem dX8_stepFrom_114 : decode cX8_stepFrom 114 = .ok (.ireturn, 1) := by decide +kernel
theorem dX8_walk_0 : decode cX8_walk 0 = .ok (.iload_n 3, 1) := by decide +kernel
theorem dX8_walk_1 : decode cX8_walk 1 = .ok (.istore 5, 2) := by decide +kernel
theorem dX8_walk_3 : decode cX8_walk 3 = .ok (.iconst 0, 1) := by decide +kernel
theorem dX8_walk_4 : decode cX8_walk 4 = .ok (.istore 6, 2) := by decide +kernel
theorem dX8_walk_6 : decode cX8_walk 6 = .ok (.iload 6, 2) := by decide +kernel
theorem dX8_walk_8 : decode cX8_walk 8 = .ok (.iload 5, 2) := by decide +kernel
theorem dX8_walk_10 : decode cX8_walk 10 = .ok (.if_icmp .ge 168, 3) := by decide +kernel
theorem dX8_walk_13 : decode cX8_walk 13 = .ok (.iload 6, 2) := by decide +kernel
theorem dX8_walk_15 : decode cX8_walk 15 = .ok (.aload_n 0, 1) := by decide +kernel
theorem dX8_walk_16 : decode cX8_walk 16 = .ok (.getfield 17, 3) := by decide +kernel
theorem dX8_walk_19 : decode cX8_walk 19 = .ok (.arraylength, 1) := by decide +kernel
theorem dX8_walk_20 : decode cX8_walk 20 = .ok (.if_icmp .ge 158, 3) := by decide +kernel
theorem dX8_walk_23 : decode cX8_walk 23 = .ok (.aload_n 0, 1) := by decide +kernel
theorem dX8_walk_24 : decode cX8_walk 24 = .ok (.getfield 17, 3) := by decide +kernel
theorem dX8_walk_27 : decode cX8_walk 27 = .ok (.iload 6, 2) := by decide +kernel
theorem dX8_walk_29 : decode cX8_walk 29 = .ok (.iaload, 1) := by decide +kernel
theorem dX8_walk_30 : decode cX8_walk 30 = .ok (.istore 7, 2) := by decide +kernel
theorem dX8_walk_32 : decode cX8_walk 32 = .ok (.iload 7, 2) := by decide +kernel
theorem dX8_walk_34 : decode cX8_walk 34 = .ok (.ifCond .lt 23, 3) := by decide +kernel
theorem dX8_walk_37 : decode cX8_walk 37 = .ok (.iload 7, 2) := by decide +kernel
theorem dX8_walk_39 : decode cX8_walk 39 = .ok (.aload_n 0, 1) := by decide +kernel
theorem dX8_walk_40 : decode cX8_walk 40 = .ok (.getfield 22, 3) := by decide +kernel
theorem dX8_walk_43 : decode cX8_walk 43 = .ok (.arraylength, 1) := by decide +kernel
theorem dX8_walk_44 : decode cX8_walk 44 = .ok (.if_icmp .ge 13, 3) := by decide +kernel
theorem dX8_walk_47 : decode cX8_walk 47 = .ok (.aload_n 0, 1) := by decide +kernel
theorem dX8_walk_48 : decode cX8_walk 48 = .ok (.getfield 22, 3) := by decide +kernel
theorem dX8_walk_51 : decode cX8_walk 51 = .ok (.iload 7, 2) := by decide +kernel
theorem dX8_walk_53 : decode cX8_walk 53 = .ok (.iaload, 1) := by decide +kernel
theorem dX8_walk_54 : decode cX8_walk 54 = .ok (.goto 5, 3) := by decide +kernel
theorem dX8_walk_57 : decode cX8_walk 57 = .ok (.iload 4, 2) := by decide +kernel
theorem dX8_walk_59 : decode cX8_walk 59 = .ok (.istore 8, 2) := by decide +kernel
theorem dX8_walk_61 : decode cX8_walk 61 = .ok (.iload 8, 2) := by decide +kernel
theorem dX8_walk_63 : decode cX8_walk 63 = .ok (.iload 4, 2) := by decide +kernel
theorem dX8_walk_65 : decode cX8_walk 65 = .ok (.if_icmp .lt 5, 3) := by decide +kernel
theorem dX8_walk_68 : decode cX8_walk 68 = .ok (.iconst (-1), 1) := by decide +kernel
theorem dX8_walk_69 : decode cX8_walk 69 = .ok (.ireturn, 1) := by decide +kernel
theorem dX8_walk_70 : decode cX8_walk 70 = .ok (.iconst 0, 1) := by decide +kernel
theorem dX8_walk_71 : decode cX8_walk 71 = .ok (.istore 9, 2) := by decide +kernel
theorem dX8_walk_73 : decode cX8_walk 73 = .ok (.iload 9, 2) := by decide +kernel
theorem dX8_walk_75 : decode cX8_walk 75 = .ok (.iconst 4, 1) := by decide +kernel
theorem dX8_walk_76 : decode cX8_walk 76 = .ok (.if_icmp .gt 96, 3) := by decide +kernel
theorem dX8_walk_79 : decode cX8_walk 79 = .ok (.aload_n 1, 1) := by decide +kernel
theorem dX8_walk_80 : decode cX8_walk 80 = .ok (.iload 7, 2) := by decide +kernel
theorem dX8_walk_82 : decode cX8_walk 82 = .ok (.iload 9, 2) := by decide +kernel
theorem dX8_walk_84 : decode cX8_walk 84 = .ok (.invokestatic 68, 3) := by decide +kernel
theorem dX8_walk_87 : decode cX8_walk 87 = .ok (.istore 10, 2) := by decide +kernel
theorem dX8_walk_89 : decode cX8_walk 89 = .ok (.iload 10, 2) := by decide +kernel
theorem dX8_walk_91 : decode cX8_walk 91 = .ok (.ifCond .lt 75, 3) := by decide +kernel
theorem dX8_walk_94 : decode cX8_walk 94 = .ok (.iload 10, 2) := by decide +kernel
theorem dX8_walk_96 : decode cX8_walk 96 = .ok (.aload_n 0, 1) := by decide +kernel
theorem dX8_walk_97 : decode cX8_walk 97 = .ok (.getfield 22, 3) := by decide +kernel
theorem dX8_walk_100 : decode cX8_walk 100 = .ok (.arraylength, 1) := by decide +kernel
theorem dX8_walk_101 : decode cX8_walk 101 = .ok (.if_icmp .ge 65, 3) := by decide +kernel
theorem dX8_walk_104 : decode cX8_walk 104 = .ok (.aload_n 0, 1) := by decide +kernel
theorem dX8_walk_105 : decode cX8_walk 105 = .ok (.getfield 22, 3) := by decide +kernel
theorem dX8_walk_108 : decode cX8_walk 108 = .ok (.iload 10, 2) := by decide +kernel
theorem dX8_walk_110 : decode cX8_walk 110 = .ok (.iaload, 1) := by decide +kernel
theorem dX8_walk_111 : decode cX8_walk 111 = .ok (.iconst (-1), 1) := by decide +kernel
theorem dX8_walk_112 : decode cX8_walk 112 = .ok (.if_icmp .eq 6, 3) := by decide +kernel
theorem dX8_walk_115 : decode cX8_walk 115 = .ok (.goto 51, 3) := by decide +kernel
theorem dX8_walk_118 : decode cX8_walk 118 = .ok (.aload_n 1, 1) := by decide +kernel
theorem dX8_walk_119 : decode cX8_walk 119 = .ok (.iload 10, 2) := by decide +kernel
theorem dX8_walk_121 : decode cX8_walk 121 = .ok (.invokevirtual 32, 3) := by decide +kernel
theorem dX8_walk_124 : decode cX8_walk 124 = .ok (.iload_n 2, 1) := by decide +kernel
theorem dX8_walk_125 : decode cX8_walk 125 = .ok (.if_icmp .ne 8, 3) := by decide +kernel
theorem dX8_walk_128 : decode cX8_walk 128 = .ok (.iload 8, 2) := by decide +kernel
theorem dX8_walk_130 : decode cX8_walk 130 = .ok (.iconst 1, 1) := by decide +kernel
theorem dX8_walk_131 : decode cX8_walk 131 = .ok (.iadd, 1) := by decide +kernel
theorem dX8_walk_132 : decode cX8_walk 132 = .ok (.ireturn, 1) := by decide +kernel
theorem dX8_walk_133 : decode cX8_walk 133 = .ok (.aload_n 0, 1) := by decide +kernel
theorem dX8_walk_134 : decode cX8_walk 134 = .ok (.getfield 22, 3) := by decide +kernel
theorem dX8_walk_137 : decode cX8_walk 137 = .ok (.iload 10, 2) := by decide +kernel
theorem dX8_walk_139 : decode cX8_walk 139 = .ok (.iload 8, 2) := by decide +kernel
theorem dX8_walk_141 : decode cX8_walk 141 = .ok (.iconst 1, 1) := by decide +kernel
theorem dX8_walk_142 : decode cX8_walk 142 = .ok (.iadd, 1) := by decide +kernel
theorem dX8_walk_143 : decode cX8_walk 143 = .ok (.iastore, 1) := by decide +kernel
theorem dX8_walk_144 : decode cX8_walk 144 = .ok (.iload 5, 2) := by decide +kernel
theorem dX8_walk_146 : decode cX8_walk 146 = .ok (.aload_n 0, 1) := by decide +kernel
theorem dX8_walk_147 : decode cX8_walk 147 = .ok (.getfield 17, 3) := by decide +kernel
theorem dX8_walk_150 : decode cX8_walk 150 = .ok (.arraylength, 1) := by decide +kernel
theorem dX8_walk_151 : decode cX8_walk 151 = .ok (.if_icmp .ge 15, 3) := by decide +kernel
theorem dX8_walk_154 : decode cX8_walk 154 = .ok (.aload_n 0, 1) := by decide +kernel
theorem dX8_walk_155 : decode cX8_walk 155 = .ok (.getfield 17, 3) := by decide +kernel
theorem dX8_walk_158 : decode cX8_walk 158 = .ok (.iload 5, 2) := by decide +kernel
theorem dX8_walk_160 : decode cX8_walk 160 = .ok (.iload 10, 2) := by decide +kernel
theorem dX8_walk_162 : decode cX8_walk 162 = .ok (.iastore, 1) := by decide +kernel
theorem dX8_walk_163 : decode cX8_walk 163 = .ok (.iinc 5 1, 3) := by decide +kernel
theorem dX8_walk_166 : decode cX8_walk 166 = .ok (.iinc 9 1, 3) := by decide +kernel
theorem dX8_walk_169 : decode cX8_walk 169 = .ok (.goto (-96), 3) := by decide +kernel
theorem dX8_walk_172 : decode cX8_walk 172 = .ok (.iinc 6 1, 3) := by decide +kernel
theorem dX8_walk_175 : decode cX8_walk 175 = .ok (.goto (-169), 3) := by decide +kernel
theorem dX8_walk_178 : decode cX8_walk 178 = .ok (.iconst (-1), 1) := by decide +kernel
theorem dX8_walk_179 : decode cX8_walk 179 = .ok (.ireturn, 1) := by decide +kernel
theorem dX8_stepsWithin_0 : decode cX8_stepsWithin 0 = .ok (.aload_n 1, 1) := by decide +kernel
theorem dX8_stepsWithin_1 : decode cX8_stepsWithin 1 = .ok (.iload_n 2, 1) := by decide +kernel
theorem dX8_stepsWithin_2 : decode cX8_stepsWithin 2 = .ok (.invokevirtual 61, 3) := by decide +kernel
theorem dX8_stepsWithin_5 : decode cX8_stepsWithin 5 = .ok (.ifCond .eq 16, 3) := by decide +kernel
theorem dX8_stepsWithin_8 : decode cX8_stepsWithin 8 = .ok (.aload_n 1, 1) := by decide +kernel
theorem dX8_stepsWithin_9 : decode cX8_stepsWithin 9 = .ok (.iload_n 3, 1) := by decide +kernel
theorem dX8_stepsWithin_10 : decode cX8_stepsWithin 10 = .ok (.invokevirtual 61, 3) := by decide +kernel
theorem dX8_stepsWithin_13 : decode cX8_stepsWithin 13 = .ok (.ifCond .eq 8, 3) := by decide +kernel
theorem dX8_stepsWithin_16 : decode cX8_stepsWithin 16 = .ok (.iload 4, 2) := by decide +kernel
theorem dX8_stepsWithin_18 : decode cX8_stepsWithin 18 = .ok (.ifCond .ge 5, 3) := by decide +kernel
theorem dX8_stepsWithin_21 : decode cX8_stepsWithin 21 = .ok (.iconst (-1), 1) := by decide +kernel
theorem dX8_stepsWithin_22 : decode cX8_stepsWithin 22 = .ok (.ireturn, 1) := by decide +kernel
theorem dX8_stepsWithin_23 : decode cX8_stepsWithin 23 = .ok (.iload_n 2, 1) := by decide +kernel
theorem dX8_stepsWithin_24 : decode cX8_stepsWithin 24 = .ok (.iload_n 3, 1) := by decide +kernel
theorem dX8_stepsWithin_25 : decode cX8_stepsWithin 25 = .ok (.if_icmp .ne 5, 3) := by decide +kernel
theorem dX8_stepsWithin_28 : decode cX8_stepsWithin 28 = .ok (.iconst 0, 1) := by decide +kernel
theorem dX8_stepsWithin_29 : decode cX8_stepsWithin 29 = .ok (.ireturn, 1) := by decide +kernel
theorem dX8_stepsWithin_30 : decode cX8_stepsWithin 30 = .ok (.iconst 0, 1) := by decide +kernel
theorem dX8_stepsWithin_31 : decode cX8_stepsWithin 31 = .ok (.istore 5, 2) := by decide +kernel
theorem dX8_stepsWithin_33 : decode cX8_stepsWithin 33 = .ok (.iconst 0, 1) := by decide +kernel
theorem dX8_stepsWithin_34 : decode cX8_stepsWithin 34 = .ok (.istore 6, 2) := by decide +kernel
theorem dX8_stepsWithin_36 : decode cX8_stepsWithin 36 = .ok (.iload 6, 2) := by decide +kernel
theorem dX8_stepsWithin_38 : decode cX8_stepsWithin 38 = .ok (.aload_n 0, 1) := by decide +kernel
theorem dX8_stepsWithin_39 : decode cX8_stepsWithin 39 = .ok (.getfield 22, 3) := by decide +kernel
theorem dX8_stepsWithin_42 : decode cX8_stepsWithin 42 = .ok (.arraylength, 1) := by decide +kernel
theorem dX8_stepsWithin_43 : decode cX8_stepsWithin 43 = .ok (.if_icmp .ge 70, 3) := by decide +kernel
theorem dX8_stepsWithin_46 : decode cX8_stepsWithin 46 = .ok (.aload_n 1, 1) := by decide +kernel
theorem dX8_stepsWithin_47 : decode cX8_stepsWithin 47 = .ok (.iload 6, 2) := by decide +kernel
theorem dX8_stepsWithin_49 : decode cX8_stepsWithin 49 = .ok (.invokevirtual 32, 3) := by decide +kernel
theorem dX8_stepsWithin_52 : decode cX8_stepsWithin 52 = .ok (.iload_n 2, 1) := by decide +kernel
theorem dX8_stepsWithin_53 : decode cX8_stepsWithin 53 = .ok (.if_icmp .ne 7, 3) := by decide +kernel
theorem dX8_stepsWithin_56 : decode cX8_stepsWithin 56 = .ok (.iconst 1, 1) := by decide +kernel
theorem dX8_stepsWithin_57 : decode cX8_stepsWithin 57 = .ok (.goto 4, 3) := by decide +kernel
theorem dX8_stepsWithin_60 : decode cX8_stepsWithin 60 = .ok (.iconst 0, 1) := by decide +kernel
theorem dX8_stepsWithin_61 : decode cX8_stepsWithin 61 = .ok (.istore 7, 2) := by decide +kernel
theorem dX8_stepsWithin_63 : decode cX8_stepsWithin 63 = .ok (.aload_n 0, 1) := by decide +kernel
theorem dX8_stepsWithin_64 : decode cX8_stepsWithin 64 = .ok (.getfield 22, 3) := by decide +kernel
theorem dX8_stepsWithin_67 : decode cX8_stepsWithin 67 = .ok (.iload 6, 2) := by decide +kernel
theorem dX8_stepsWithin_69 : decode cX8_stepsWithin 69 = .ok (.iload 7, 2) := by decide +kernel
theorem dX8_stepsWithin_71 : decode cX8_stepsWithin 71 = .ok (.ifCond .eq 7, 3) := by decide +kernel
theorem dX8_stepsWithin_74 : decode cX8_stepsWithin 74 = .ok (.iconst 0, 1) := by decide +kernel
theorem dX8_stepsWithin_75 : decode cX8_stepsWithin 75 = .ok (.goto 4, 3) := by decide +kernel
theorem dX8_stepsWithin_78 : decode cX8_stepsWithin 78 = .ok (.iconst (-1), 1) := by decide +kernel
theorem dX8_stepsWithin_79 : decode cX8_stepsWithin 79 = .ok (.iastore, 1) := by decide +kernel
theorem dX8_stepsWithin_80 : decode cX8_stepsWithin 80 = .ok (.iload 7, 2) := by decide +kernel
theorem dX8_stepsWithin_82 : decode cX8_stepsWithin 82 = .ok (.ifCond .eq 25, 3) := by decide +kernel
theorem dX8_stepsWithin_85 : decode cX8_stepsWithin 85 = .ok (.iload 5, 2) := by decide +kernel
theorem dX8_stepsWithin_87 : decode cX8_stepsWithin 87 = .ok (.aload_n 0, 1) := by decide +kernel
theorem dX8_stepsWithin_88 : decode cX8_stepsWithin 88 = .ok (.getfield 17, 3) := by decide +kernel
theorem dX8_stepsWithin_91 : decode cX8_stepsWithin 91 = .ok (.arraylength, 1) := by decide +kernel
theorem dX8_stepsWithin_92 : decode cX8_stepsWithin 92 = .ok (.if_icmp .ge 15, 3) := by decide +kernel
theorem dX8_stepsWithin_95 : decode cX8_stepsWithin 95 = .ok (.aload_n 0, 1) := by decide +kernel
theorem dX8_stepsWithin_96 : decode cX8_stepsWithin 96 = .ok (.getfield 17, 3) := by decide +kernel
theorem dX8_stepsWithin_99 : decode cX8_stepsWithin 99 = .ok (.iload 5, 2) := by decide +kernel
theorem dX8_stepsWithin_101 : decode cX8_stepsWithin 101 = .ok (.iload 6, 2) := by decide +kernel
theorem dX8_stepsWithin_103 : decode cX8_stepsWithin 103 = .ok (.iastore, 1) := by decide +kernel
theorem dX8_stepsWithin_104 : decode cX8_stepsWithin 104 = .ok (.iinc 5 1, 3) := by decide +kernel
theorem dX8_stepsWithin_107 : decode cX8_stepsWithin 107 = .ok (.iinc 6 1, 3) := by decide +kernel
theorem dX8_stepsWithin_110 : decode cX8_stepsWithin 110 = .ok (.goto (-74), 3) := by decide +kernel
theorem dX8_stepsWithin_113 : decode cX8_stepsWithin 113 = .ok (.aload_n 0, 1) := by decide +kernel
theorem dX8_stepsWithin_114 : decode cX8_stepsWithin 114 = .ok (.aload_n 1, 1) := by decide +kernel
theorem dX8_stepsWithin_115 : decode cX8_stepsWithin 115 = .ok (.iload_n 3, 1) := by decide +kernel
theorem dX8_stepsWithin_116 : decode cX8_stepsWithin 116 = .ok (.iload 5, 2) := by decide +kernel
theorem dX8_stepsWithin_118 : decode cX8_stepsWithin 118 = .ok (.iload 4, 2) := by decide +kernel
theorem dX8_stepsWithin_120 : decode cX8_stepsWithin 120 = .ok (.invokevirtual 64, 3) := by decide +kernel
theorem dX8_stepsWithin_123 : decode cX8_stepsWithin 123 = .ok (.ireturn, 1) := by decide +kernel
theorem dX8_measure_0 : decode cX8_measure 0 = .ok (.iload_n 1, 1) := by decide +kernel
theorem dX8_measure_1 : decode cX8_measure 1 = .ok (.lookupswitch 133 #[(7, 72), (29, 67), (30, 78), (31, 85), (32, 92), (33, 97), (34, 103)], 67) := by decide +kernel
theorem dX8_measure_68 : decode cX8_measure 68 = .ok (.aload_n 2, 1) := by decide +kernel
theorem dX8_measure_69 : decode cX8_measure 69 = .ok (.invokevirtual 121, 3) := by decide +kernel
theorem dX8_measure_72 : decode cX8_measure 72 = .ok (.ireturn, 1) := by decide +kernel
theorem dX8_measure_73 : decode cX8_measure 73 = .ok (.aload_n 2, 1) := by decide +kernel
theorem dX8_measure_74 : decode cX8_measure 74 = .ok (.aload_n 3, 1) := by decide +kernel
theorem dX8_measure_75 : decode cX8_measure 75 = .ok (.invokevirtual 97, 3) := by decide +kernel
theorem dX8_measure_78 : decode cX8_measure 78 = .ok (.ireturn, 1) := by decide +kernel
theorem dX8_measure_79 : decode cX8_measure 79 = .ok (.aload_n 2, 1) := by decide +kernel
theorem dX8_measure_80 : decode cX8_measure 80 = .ok (.bipush 13, 2) := by decide +kernel
theorem dX8_measure_82 : decode cX8_measure 82 = .ok (.invokevirtual 61, 3) := by decide +kernel
theorem dX8_measure_85 : decode cX8_measure 85 = .ok (.ireturn, 1) := by decide +kernel
theorem dX8_measure_86 : decode cX8_measure 86 = .ok (.aload_n 2, 1) := by decide +kernel
theorem dX8_measure_87 : decode cX8_measure 87 = .ok (.bipush 14, 2) := by decide +kernel
theorem dX8_measure_89 : decode cX8_measure 89 = .ok (.invokevirtual 61, 3) := by decide +kernel
theorem dX8_measure_92 : decode cX8_measure 92 = .ok (.ireturn, 1) := by decide +kernel
theorem dX8_measure_93 : decode cX8_measure 93 = .ok (.aload_n 2, 1) := by decide +kernel
theorem dX8_measure_94 : decode cX8_measure 94 = .ok (.invokevirtual 52, 3) := by decide +kernel
theorem dX8_measure_97 : decode cX8_measure 97 = .ok (.ireturn, 1) := by decide +kernel
theorem dX8_measure_98 : decode cX8_measure 98 = .ok (.aload_n 0, 1) := by decide +kernel
theorem dX8_measure_99 : decode cX8_measure 99 = .ok (.aload_n 2, 1) := by decide +kernel
theorem dX8_measure_100 : decode cX8_measure 100 = .ok (.invokevirtual 124, 3) := by decide +kernel
theorem dX8_measure_103 : decode cX8_measure 103 = .ok (.ireturn, 1) := by decide +kernel
theorem dX8_measure_104 : decode cX8_measure 104 = .ok (.aload_n 2, 1) := by decide +kernel
theorem dX8_measure_105 : decode cX8_measure 105 = .ok (.invokevirtual 128, 3) := by decide +kernel
theorem dX8_measure_108 : decode cX8_measure 108 = .ok (.ifCond .eq 10, 3) := by decide +kernel
theorem dX8_measure_111 : decode cX8_measure 111 = .ok (.aload_n 2, 1) := by decide +kernel
theorem dX8_measure_112 : decode cX8_measure 112 = .ok (.getfield 132, 3) := by decide +kernel
theorem dX8_measure_115 : decode cX8_measure 115 = .ok (.goto 5, 3) := by decide +kernel
theorem dX8_measure_118 : decode cX8_measure 118 = .ok (.iload 4, 2) := by decide +kernel
theorem dX8_measure_120 : decode cX8_measure 120 = .ok (.aload_n 3, 1) := by decide +kernel
theorem dX8_measure_121 : decode cX8_measure 121 = .ok (.iconst 4, 1) := by decide +kernel
theorem dX8_measure_122 : decode cX8_measure 122 = .ok (.invokevirtual 135, 3) := by decide +kernel
theorem dX8_measure_125 : decode cX8_measure 125 = .ok (.if_icmp .le 7, 3) := by decide +kernel
theorem dX8_measure_128 : decode cX8_measure 128 = .ok (.iconst 1, 1) := by decide +kernel
theorem dX8_measure_129 : decode cX8_measure 129 = .ok (.goto 4, 3) := by decide +kernel
theorem dX8_measure_132 : decode cX8_measure 132 = .ok (.iconst 0, 1) := by decide +kernel
theorem dX8_measure_133 : decode cX8_measure 133 = .ok (.ireturn, 1) := by decide +kernel
theorem dX8_measure_134 : decode cX8_measure 134 = .ok (.aload_n 2, 1) := by decide +kernel
theorem dX8_measure_135 : decode cX8_measure 135 = .ok (.invokevirtual 138, 3) := by decide +kernel
theorem dX8_measure_138 : decode cX8_measure 138 = .ok (.ireturn, 1) := by decide +kernel
theorem dX8_throwsOut_0 : decode cX8_throwsOut 0 = .ok (.lconst 0, 1) := by decide +kernel
theorem dX8_throwsOut_1 : decode cX8_throwsOut 1 = .ok (.lstore 6, 2) := by decide +kernel
theorem dX8_throwsOut_3 : decode cX8_throwsOut 3 = .ok (.iconst 0, 1) := by decide +kernel
theorem dX8_throwsOut_4 : decode cX8_throwsOut 4 = .ok (.iload_n 3, 1) := by decide +kernel
theorem dX8_throwsOut_5 : decode cX8_throwsOut 5 = .ok (.invokestatic 40, 3) := by decide +kernel
theorem dX8_throwsOut_8 : decode cX8_throwsOut 8 = .ok (.istore 8, 2) := by decide +kernel
theorem dX8_throwsOut_10 : decode cX8_throwsOut 10 = .ok (.iload 8, 2) := by decide +kernel
theorem dX8_throwsOut_12 : decode cX8_throwsOut 12 = .ok (.iload 4, 2) := by decide +kernel
theorem dX8_throwsOut_14 : decode cX8_throwsOut 14 = .ok (.if_icmp .ge 128, 3) := by decide +kernel
theorem dX8_throwsOut_17 : decode cX8_throwsOut 17 = .ok (.iload 8, 2) := by decide +kernel
theorem dX8_throwsOut_19 : decode cX8_throwsOut 19 = .ok (.aload_n 2, 1) := by decide +kernel
theorem dX8_throwsOut_20 : decode cX8_throwsOut 20 = .ok (.getfield 105, 3) := by decide +kernel
theorem dX8_throwsOut_23 : decode cX8_throwsOut 23 = .ok (.arraylength, 1) := by decide +kernel
theorem dX8_throwsOut_24 : decode cX8_throwsOut 24 = .ok (.if_icmp .ge 118, 3) := by decide +kernel
theorem dX8_throwsOut_27 : decode cX8_throwsOut 27 = .ok (.aload_n 2, 1) := by decide +kernel
theorem dX8_throwsOut_28 : decode cX8_throwsOut 28 = .ok (.getfield 105, 3) := by decide +kernel
theorem dX8_throwsOut_31 : decode cX8_throwsOut 31 = .ok (.iload 8, 2) := by decide +kernel
theorem dX8_throwsOut_33 : decode cX8_throwsOut 33 = .ok (.iaload, 1) := by decide +kernel
theorem dX8_throwsOut_34 : decode cX8_throwsOut 34 = .ok (.istore 9, 2) := by decide +kernel
theorem dX8_throwsOut_36 : decode cX8_throwsOut 36 = .ok (.iload 9, 2) := by decide +kernel
theorem dX8_throwsOut_38 : decode cX8_throwsOut 38 = .ok (.bipush (-3), 2) := by decide +kernel
theorem dX8_throwsOut_40 : decode cX8_throwsOut 40 = .ok (.if_icmp .ne 12, 3) := by decide +kernel
theorem dX8_throwsOut_43 : decode cX8_throwsOut 43 = .ok (.lload 6, 2) := by decide +kernel
theorem dX8_throwsOut_45 : decode cX8_throwsOut 45 = .ok (.lconst 1, 1) := by decide +kernel
theorem dX8_throwsOut_46 : decode cX8_throwsOut 46 = .ok (.lxor, 1) := by decide +kernel
theorem dX8_throwsOut_47 : decode cX8_throwsOut 47 = .ok (.lstore 6, 2) := by decide +kernel
theorem dX8_throwsOut_49 : decode cX8_throwsOut 49 = .ok (.goto 87, 3) := by decide +kernel
theorem dX8_throwsOut_52 : decode cX8_throwsOut 52 = .ok (.iload 9, 2) := by decide +kernel
theorem dX8_throwsOut_54 : decode cX8_throwsOut 54 = .ok (.ifCond .ge 44, 3) := by decide +kernel
theorem dX8_throwsOut_57 : decode cX8_throwsOut 57 = .ok (.lload 6, 2) := by decide +kernel
theorem dX8_throwsOut_59 : decode cX8_throwsOut 59 = .ok (.lconst 1, 1) := by decide +kernel
theorem dX8_throwsOut_60 : decode cX8_throwsOut 60 = .ok (.land, 1) := by decide +kernel
theorem dX8_throwsOut_61 : decode cX8_throwsOut 61 = .ok (.lstore 10, 2) := by decide +kernel
theorem dX8_throwsOut_63 : decode cX8_throwsOut 63 = .ok (.lload 6, 2) := by decide +kernel
theorem dX8_throwsOut_65 : decode cX8_throwsOut 65 = .ok (.iconst 1, 1) := by decide +kernel
theorem dX8_throwsOut_66 : decode cX8_throwsOut 66 = .ok (.lushr, 1) := by decide +kernel
theorem dX8_throwsOut_67 : decode cX8_throwsOut 67 = .ok (.lstore 6, 2) := by decide +kernel
theorem dX8_throwsOut_69 : decode cX8_throwsOut 69 = .ok (.iload 9, 2) := by decide +kernel
theorem dX8_throwsOut_71 : decode cX8_throwsOut 71 = .ok (.bipush (-2), 2) := by decide +kernel
theorem dX8_throwsOut_73 : decode cX8_throwsOut 73 = .ok (.if_icmp .ne 11, 3) := by decide +kernel
theorem dX8_throwsOut_76 : decode cX8_throwsOut 76 = .ok (.lload 6, 2) := by decide +kernel
theorem dX8_throwsOut_78 : decode cX8_throwsOut 78 = .ok (.lload 10, 2) := by decide +kernel
theorem dX8_throwsOut_80 : decode cX8_throwsOut 80 = .ok (.lor, 1) := by decide +kernel
theorem dX8_throwsOut_81 : decode cX8_throwsOut 81 = .ok (.goto 12, 3) := by decide +kernel
theorem dX8_throwsOut_84 : decode cX8_throwsOut 84 = .ok (.lload 6, 2) := by decide +kernel
theorem dX8_throwsOut_86 : decode cX8_throwsOut 86 = .ok (.lload 10, 2) := by decide +kernel
theorem dX8_throwsOut_88 : decode cX8_throwsOut 88 = .ok (.ldc2_w 108, 3) := by decide +kernel
theorem dX8_throwsOut_91 : decode cX8_throwsOut 91 = .ok (.lor, 1) := by decide +kernel
theorem dX8_throwsOut_92 : decode cX8_throwsOut 92 = .ok (.land, 1) := by decide +kernel
theorem dX8_throwsOut_93 : decode cX8_throwsOut 93 = .ok (.lstore 6, 2) := by decide +kernel
theorem dX8_throwsOut_95 : decode cX8_throwsOut 95 = .ok (.goto 41, 3) := by decide +kernel
theorem dX8_throwsOut_98 : decode cX8_throwsOut 98 = .ok (.aload_n 0, 1) := by decide +kernel
theorem dX8_throwsOut_99 : decode cX8_throwsOut 99 = .ok (.iload 9, 2) := by decide +kernel
theorem dX8_throwsOut_101 : decode cX8_throwsOut 101 = .ok (.invokestatic 110, 3) := by decide +kernel
theorem dX8_throwsOut_104 : decode cX8_throwsOut 104 = .ok (.aload_n 1, 1) := by decide +kernel
theorem dX8_throwsOut_105 : decode cX8_throwsOut 105 = .ok (.aload_n 2, 1) := by decide +kernel
theorem dX8_throwsOut_106 : decode cX8_throwsOut 106 = .ok (.iload 5, 2) := by decide +kernel
theorem dX8_throwsOut_108 : decode cX8_throwsOut 108 = .ok (.invokevirtual 113, 3) := by decide +kernel
theorem dX8_throwsOut_111 : decode cX8_throwsOut 111 = .ok (.istore 10, 2) := by decide +kernel
theorem dX8_throwsOut_113 : decode cX8_throwsOut 113 = .ok (.lload 6, 2) := by decide +kernel
theorem dX8_throwsOut_115 : decode cX8_throwsOut 115 = .ok (.iconst 1, 1) := by decide +kernel
theorem dX8_throwsOut_116 : decode cX8_throwsOut 116 = .ok (.lshl, 1) := by decide +kernel
theorem dX8_throwsOut_117 : decode cX8_throwsOut 117 = .ok (.iload 9, 2) := by decide +kernel
theorem dX8_throwsOut_119 : decode cX8_throwsOut 119 = .ok (.iload 10, 2) := by decide +kernel
theorem dX8_throwsOut_121 : decode cX8_throwsOut 121 = .ok (.invokestatic 117, 3) := by decide +kernel
theorem dX8_throwsOut_124 : decode cX8_throwsOut 124 = .ok (.ifCond .eq 7, 3) := by decide +kernel
theorem dX8_throwsOut_127 : decode cX8_throwsOut 127 = .ok (.iconst 1, 1) := by decide +kernel
theorem dX8_throwsOut_128 : decode cX8_throwsOut 128 = .ok (.goto 4, 3) := by decide +kernel
theorem dX8_throwsOut_131 : decode cX8_throwsOut 131 = .ok (.iconst 0, 1) := by decide +kernel
theorem dX8_throwsOut_132 : decode cX8_throwsOut 132 = .ok (.i2l, 1) := by decide +kernel
theorem dX8_throwsOut_133 : decode cX8_throwsOut 133 = .ok (.lor, 1) := by decide +kernel
theorem dX8_throwsOut_134 : decode cX8_throwsOut 134 = .ok (.lstore 6, 2) := by decide +kernel
theorem dX8_throwsOut_136 : decode cX8_throwsOut 136 = .ok (.iinc 8 1, 3) := by decide +kernel
theorem dX8_throwsOut_139 : decode cX8_throwsOut 139 = .ok (.goto (-129), 3) := by decide +kernel
theorem dX8_throwsOut_142 : decode cX8_throwsOut 142 = .ok (.lload 6, 2) := by decide +kernel
theorem dX8_throwsOut_144 : decode cX8_throwsOut 144 = .ok (.lconst 1, 1) := by decide +kernel
theorem dX8_throwsOut_145 : decode cX8_throwsOut 145 = .ok (.land, 1) := by decide +kernel
theorem dX8_throwsOut_146 : decode cX8_throwsOut 146 = .ok (.lconst 0, 1) := by decide +kernel
theorem dX8_throwsOut_147 : decode cX8_throwsOut 147 = .ok (.lcmp, 1) := by decide +kernel
theorem dX8_throwsOut_148 : decode cX8_throwsOut 148 = .ok (.ifCond .eq 7, 3) := by decide +kernel
theorem dX8_throwsOut_151 : decode cX8_throwsOut 151 = .ok (.iconst 1, 1) := by decide +kernel
theorem dX8_throwsOut_152 : decode cX8_throwsOut 152 = .ok (.goto 4, 3) := by decide +kernel
theorem dX8_throwsOut_155 : decode cX8_throwsOut 155 = .ok (.iconst 0, 1) := by decide +kernel
theorem dX8_throwsOut_156 : decode cX8_throwsOut 156 = .ok (.ireturn, 1) := by decide +kernel
theorem dX8_breaks_0 : decode cX8_breaks 0 = .ok (.iload_n 3, 1) := by decide +kernel
theorem dX8_breaks_1 : decode cX8_breaks 1 = .ok (.ifCond .lt 39, 3) := by decide +kernel
theorem dX8_breaks_4 : decode cX8_breaks 4 = .ok (.iload_n 3, 1) := by decide +kernel
theorem dX8_breaks_5 : decode cX8_breaks 5 = .ok (.aload_n 2, 1) := by decide +kernel
theorem dX8_breaks_6 : decode cX8_breaks 6 = .ok (.getfield 79, 3) := by decide +kernel
theorem dX8_breaks_9 : decode cX8_breaks 9 = .ok (.arraylength, 1) := by decide +kernel
theorem dX8_breaks_10 : decode cX8_breaks 10 = .ok (.if_icmp .ge 30, 3) := by decide +kernel
theorem dX8_breaks_13 : decode cX8_breaks 13 = .ok (.iload_n 3, 1) := by decide +kernel
theorem dX8_breaks_14 : decode cX8_breaks 14 = .ok (.aload_n 2, 1) := by decide +kernel
theorem dX8_breaks_15 : decode cX8_breaks 15 = .ok (.getfield 82, 3) := by decide +kernel
theorem dX8_breaks_18 : decode cX8_breaks 18 = .ok (.arraylength, 1) := by decide +kernel
theorem dX8_breaks_19 : decode cX8_breaks 19 = .ok (.if_icmp .ge 21, 3) := by decide +kernel
theorem dX8_breaks_22 : decode cX8_breaks 22 = .ok (.iload_n 3, 1) := by decide +kernel
theorem dX8_breaks_23 : decode cX8_breaks 23 = .ok (.aload_n 2, 1) := by decide +kernel
theorem dX8_breaks_24 : decode cX8_breaks 24 = .ok (.getfield 85, 3) := by decide +kernel
theorem dX8_breaks_27 : decode cX8_breaks 27 = .ok (.arraylength, 1) := by decide +kernel
theorem dX8_breaks_28 : decode cX8_breaks 28 = .ok (.if_icmp .ge 12, 3) := by decide +kernel
theorem dX8_breaks_31 : decode cX8_breaks 31 = .ok (.iload_n 3, 1) := by decide +kernel
theorem dX8_breaks_32 : decode cX8_breaks 32 = .ok (.aload_n 2, 1) := by decide +kernel
theorem dX8_breaks_33 : decode cX8_breaks 33 = .ok (.getfield 88, 3) := by decide +kernel
theorem dX8_breaks_36 : decode cX8_breaks 36 = .ok (.arraylength, 1) := by decide +kernel
theorem dX8_breaks_37 : decode cX8_breaks 37 = .ok (.if_icmp .lt 5, 3) := by decide +kernel
theorem dX8_breaks_40 : decode cX8_breaks 40 = .ok (.iconst 0, 1) := by decide +kernel
theorem dX8_breaks_41 : decode cX8_breaks 41 = .ok (.ireturn, 1) := by decide +kernel
theorem dX8_breaks_42 : decode cX8_breaks 42 = .ok (.aload_n 2, 1) := by decide +kernel
theorem dX8_breaks_43 : decode cX8_breaks 43 = .ok (.getfield 82, 3) := by decide +kernel
theorem dX8_breaks_46 : decode cX8_breaks 46 = .ok (.iload_n 3, 1) := by decide +kernel
theorem dX8_breaks_47 : decode cX8_breaks 47 = .ok (.iaload, 1) := by decide +kernel
theorem dX8_breaks_48 : decode cX8_breaks 48 = .ok (.istore 5, 2) := by decide +kernel
theorem dX8_breaks_50 : decode cX8_breaks 50 = .ok (.aload_n 2, 1) := by decide +kernel
theorem dX8_breaks_51 : decode cX8_breaks 51 = .ok (.getfield 85, 3) := by decide +kernel
theorem dX8_breaks_54 : decode cX8_breaks 54 = .ok (.iload_n 3, 1) := by decide +kernel
theorem dX8_breaks_55 : decode cX8_breaks 55 = .ok (.iaload, 1) := by decide +kernel
theorem dX8_breaks_56 : decode cX8_breaks 56 = .ok (.istore 6, 2) := by decide +kernel
theorem dX8_breaks_58 : decode cX8_breaks 58 = .ok (.aload_n 2, 1) := by decide +kernel
theorem dX8_breaks_59 : decode cX8_breaks 59 = .ok (.getfield 88, 3) := by decide +kernel
theorem dX8_breaks_62 : decode cX8_breaks 62 = .ok (.iload_n 3, 1) := by decide +kernel
theorem dX8_breaks_63 : decode cX8_breaks 63 = .ok (.iaload, 1) := by decide +kernel
theorem dX8_breaks_64 : decode cX8_breaks 64 = .ok (.istore 7, 2) := by decide +kernel
theorem dX8_breaks_66 : decode cX8_breaks 66 = .ok (.aload_n 2, 1) := by decide +kernel
theorem dX8_breaks_67 : decode cX8_breaks 67 = .ok (.getfield 79, 3) := by decide +kernel
theorem dX8_breaks_70 : decode cX8_breaks 70 = .ok (.iload_n 3, 1) := by decide +kernel
theorem dX8_breaks_71 : decode cX8_breaks 71 = .ok (.iaload, 1) := by decide +kernel
theorem dX8_breaks_72 : decode cX8_breaks 72 = .ok (.tableswitch 159 0 8 #[52, 86, 107, 159, 159, 159, 159, 130, 146], 52) := by decide +kernel
theorem dX8_breaks_124 : decode cX8_breaks 124 = .ok (.aload_n 1, 1) := by decide +kernel
theorem dX8_breaks_125 : decode cX8_breaks 125 = .ok (.iload 5, 2) := by decide +kernel
theorem dX8_breaks_127 : decode cX8_breaks 127 = .ok (.invokevirtual 61, 3) := by decide +kernel
theorem dX8_breaks_130 : decode cX8_breaks 130 = .ok (.iload 6, 2) := by decide +kernel
theorem dX8_breaks_132 : decode cX8_breaks 132 = .ok (.if_icmp .lt 20, 3) := by decide +kernel
theorem dX8_breaks_135 : decode cX8_breaks 135 = .ok (.iload 7, 2) := by decide +kernel
theorem dX8_breaks_137 : decode cX8_breaks 137 = .ok (.ifCond .le 19, 3) := by decide +kernel
theorem dX8_breaks_140 : decode cX8_breaks 140 = .ok (.aload_n 0, 1) := by decide +kernel
theorem dX8_breaks_141 : decode cX8_breaks 141 = .ok (.aload_n 1, 1) := by decide +kernel
theorem dX8_breaks_142 : decode cX8_breaks 142 = .ok (.iload 5, 2) := by decide +kernel
theorem dX8_breaks_144 : decode cX8_breaks 144 = .ok (.invokevirtual 91, 3) := by decide +kernel
theorem dX8_breaks_147 : decode cX8_breaks 147 = .ok (.iload 7, 2) := by decide +kernel
theorem dX8_breaks_149 : decode cX8_breaks 149 = .ok (.if_icmp .ge 7, 3) := by decide +kernel
theorem dX8_breaks_152 : decode cX8_breaks 152 = .ok (.iconst 1, 1) := by decide +kernel
theorem dX8_breaks_153 : decode cX8_breaks 153 = .ok (.goto 4, 3) := by decide +kernel
theorem dX8_breaks_156 : decode cX8_breaks 156 = .ok (.iconst 0, 1) := by decide +kernel
theorem dX8_breaks_157 : decode cX8_breaks 157 = .ok (.ireturn, 1) := by decide +kernel
theorem dX8_breaks_158 : decode cX8_breaks 158 = .ok (.aload_n 0, 1) := by decide +kernel
theorem dX8_breaks_159 : decode cX8_breaks 159 = .ok (.aload_n 1, 1) := by decide +kernel
theorem dX8_breaks_160 : decode cX8_breaks 160 = .ok (.iload 5, 2) := by decide +kernel
theorem dX8_breaks_162 : decode cX8_breaks 162 = .ok (.iload 6, 2) := by decide +kernel
theorem dX8_breaks_164 : decode cX8_breaks 164 = .ok (.iload 7, 2) := by decide +kernel
theorem dX8_breaks_166 : decode cX8_breaks 166 = .ok (.invokevirtual 94, 3) := by decide +kernel
theorem dX8_breaks_169 : decode cX8_breaks 169 = .ok (.iconst (-1), 1) := by decide +kernel
theorem dX8_breaks_170 : decode cX8_breaks 170 = .ok (.if_icmp .ne 7, 3) := by decide +kernel
theorem dX8_breaks_173 : decode cX8_breaks 173 = .ok (.iconst 1, 1) := by decide +kernel
theorem dX8_breaks_174 : decode cX8_breaks 174 = .ok (.goto 4, 3) := by decide +kernel
theorem dX8_breaks_177 : decode cX8_breaks 177 = .ok (.iconst 0, 1) := by decide +kernel
theorem dX8_breaks_178 : decode cX8_breaks 178 = .ok (.ireturn, 1) := by decide +kernel
theorem dX8_breaks_179 : decode cX8_breaks 179 = .ok (.aload_n 0, 1) := by decide +kernel
theorem dX8_breaks_180 : decode cX8_breaks 180 = .ok (.aload_n 1, 1) := by decide +kernel
theorem dX8_breaks_181 : decode cX8_breaks 181 = .ok (.iload 5, 2) := by decide +kernel
theorem dX8_breaks_183 : decode cX8_breaks 183 = .ok (.iload 6, 2) := by decide +kernel
theorem dX8_breaks_185 : decode cX8_breaks 185 = .ok (.iload 7, 2) := by decide +kernel
theorem dX8_breaks_187 : decode cX8_breaks 187 = .ok (.iconst 1, 1) := by decide +kernel
theorem dX8_breaks_188 : decode cX8_breaks 188 = .ok (.isub, 1) := by decide +kernel
theorem dX8_breaks_189 : decode cX8_breaks 189 = .ok (.invokevirtual 94, 3) := by decide +kernel
theorem dX8_breaks_192 : decode cX8_breaks 192 = .ok (.iconst (-1), 1) := by decide +kernel
theorem dX8_breaks_193 : decode cX8_breaks 193 = .ok (.if_icmp .eq 7, 3) := by decide +kernel
theorem dX8_breaks_196 : decode cX8_breaks 196 = .ok (.iconst 1, 1) := by decide +kernel
theorem dX8_breaks_197 : decode cX8_breaks 197 = .ok (.goto 4, 3) := by decide +kernel
theorem dX8_breaks_200 : decode cX8_breaks 200 = .ok (.iconst 0, 1) := by decide +kernel
theorem dX8_breaks_201 : decode cX8_breaks 201 = .ok (.ireturn, 1) := by decide +kernel
theorem dX8_breaks_202 : decode cX8_breaks 202 = .ok (.aload_n 1, 1) := by decide +kernel
theorem dX8_breaks_203 : decode cX8_breaks 203 = .ok (.aload_n 2, 1) := by decide +kernel
theorem dX8_breaks_204 : decode cX8_breaks 204 = .ok (.invokevirtual 97, 3) := by decide +kernel
theorem dX8_breaks_207 : decode cX8_breaks 207 = .ok (.iload 5, 2) := by decide +kernel
theorem dX8_breaks_209 : decode cX8_breaks 209 = .ok (.if_icmp .le 7, 3) := by decide +kernel
theorem dX8_breaks_212 : decode cX8_breaks 212 = .ok (.iconst 1, 1) := by decide +kernel
theorem dX8_breaks_213 : decode cX8_breaks 213 = .ok (.goto 4, 3) := by decide +kernel
theorem dX8_breaks_216 : decode cX8_breaks 216 = .ok (.iconst 0, 1) := by decide +kernel
theorem dX8_breaks_217 : decode cX8_breaks 217 = .ok (.ireturn, 1) := by decide +kernel
theorem dX8_breaks_218 : decode cX8_breaks 218 = .ok (.aload_n 0, 1) := by decide +kernel
theorem dX8_breaks_219 : decode cX8_breaks 219 = .ok (.aload_n 1, 1) := by decide +kernel
theorem dX8_breaks_220 : decode cX8_breaks 220 = .ok (.aload_n 2, 1) := by decide +kernel
theorem dX8_breaks_221 : decode cX8_breaks 221 = .ok (.iload 5, 2) := by decide +kernel
theorem dX8_breaks_223 : decode cX8_breaks 223 = .ok (.iload 6, 2) := by decide +kernel
theorem dX8_breaks_225 : decode cX8_breaks 225 = .ok (.iload 4, 2) := by decide +kernel
theorem dX8_breaks_227 : decode cX8_breaks 227 = .ok (.invokevirtual 101, 3) := by decide +kernel
theorem dX8_breaks_230 : decode cX8_breaks 230 = .ok (.ireturn, 1) := by decide +kernel
theorem dX8_breaks_231 : decode cX8_breaks 231 = .ok (.iconst 0, 1) := by decide +kernel
theorem dX8_breaks_232 : decode cX8_breaks 232 = .ok (.ireturn, 1) := by decide +kernel
theorem dX8_firstBroken_0 : decode cX8_firstBroken 0 = .ok (.iconst 0, 1) := by decide +kernel
theorem dX8_firstBroken_1 : decode cX8_firstBroken 1 = .ok (.istore 4, 2) := by decide +kernel
theorem dX8_firstBroken_3 : decode cX8_firstBroken 3 = .ok (.iload 4, 2) := by decide +kernel
theorem dX8_firstBroken_5 : decode cX8_firstBroken 5 = .ok (.aload_n 2, 1) := by decide +kernel
theorem dX8_firstBroken_6 : decode cX8_firstBroken 6 = .ok (.getfield 72, 3) := by decide +kernel
theorem dX8_firstBroken_9 : decode cX8_firstBroken 9 = .ok (.if_icmp .ge 24, 3) := by decide +kernel
theorem dX8_firstBroken_12 : decode cX8_firstBroken 12 = .ok (.aload_n 0, 1) := by decide +kernel
theorem dX8_firstBroken_13 : decode cX8_firstBroken 13 = .ok (.aload_n 1, 1) := by decide +kernel
theorem dX8_firstBroken_14 : decode cX8_firstBroken 14 = .ok (.aload_n 2, 1) := by decide +kernel
theorem dX8_firstBroken_15 : decode cX8_firstBroken 15 = .ok (.iload 4, 2) := by decide +kernel
theorem dX8_firstBroken_17 : decode cX8_firstBroken 17 = .ok (.iload_n 3, 1) := by decide +kernel
theorem dX8_firstBroken_18 : decode cX8_firstBroken 18 = .ok (.invokevirtual 75, 3) := by decide +kernel
theorem dX8_firstBroken_21 : decode cX8_firstBroken 21 = .ok (.ifCond .eq 6, 3) := by decide +kernel
theorem dX8_firstBroken_24 : decode cX8_firstBroken 24 = .ok (.iload 4, 2) := by decide +kernel
theorem dX8_firstBroken_26 : decode cX8_firstBroken 26 = .ok (.ireturn, 1) := by decide +kernel
theorem dX8_firstBroken_27 : decode cX8_firstBroken 27 = .ok (.iinc 4 1, 3) := by decide +kernel
theorem dX8_firstBroken_30 : decode cX8_firstBroken 30 = .ok (.goto (-27), 3) := by decide +kernel
theorem dX8_firstBroken_33 : decode cX8_firstBroken 33 = .ok (.iconst (-1), 1) := by decide +kernel
theorem dX8_firstBroken_34 : decode cX8_firstBroken 34 = .ok (.ireturn, 1) := by decide +kernel
theorem dX8_setMend_0 : decode cX8_setMend 0 = .ok (.iload_n 2, 1) := by decide +kernel
theorem dX8_setMend_1 : decode cX8_setMend 1 = .ok (.iconst (-1), 1) := by decide +kernel
theorem dX8_setMend_2 : decode cX8_setMend 2 = .ok (.if_icmp .eq 7, 3) := by decide +kernel
theorem dX8_setMend_5 : decode cX8_setMend 5 = .ok (.iconst 1, 1) := by decide +kernel
theorem dX8_setMend_6 : decode cX8_setMend 6 = .ok (.goto 4, 3) := by decide +kernel
theorem dX8_setMend_9 : decode cX8_setMend 9 = .ok (.iconst 0, 1) := by decide +kernel
theorem dX8_setMend_10 : decode cX8_setMend 10 = .ok (.istore 4, 2) := by decide +kernel
theorem dX8_setMend_12 : decode cX8_setMend 12 = .ok (.aload_n 0, 1) := by decide +kernel
theorem dX8_setMend_13 : decode cX8_setMend 13 = .ok (.getfield 25, 3) := by decide +kernel
theorem dX8_setMend_16 : decode cX8_setMend 16 = .ok (.iconst 0, 1) := by decide +kernel
theorem dX8_setMend_17 : decode cX8_setMend 17 = .ok (.iload_n 1, 1) := by decide +kernel
theorem dX8_setMend_18 : decode cX8_setMend 18 = .ok (.iastore, 1) := by decide +kernel
theorem dX8_setMend_19 : decode cX8_setMend 19 = .ok (.aload_n 0, 1) := by decide +kernel
theorem dX8_setMend_20 : decode cX8_setMend 20 = .ok (.getfield 25, 3) := by decide +kernel
theorem dX8_setMend_23 : decode cX8_setMend 23 = .ok (.iconst 1, 1) := by decide +kernel
theorem dX8_setMend_24 : decode cX8_setMend 24 = .ok (.iload 4, 2) := by decide +kernel
theorem dX8_setMend_26 : decode cX8_setMend 26 = .ok (.ifCond .eq 10, 3) := by decide +kernel
theorem dX8_setMend_29 : decode cX8_setMend 29 = .ok (.iload_n 2, 1) := by decide +kernel
theorem dX8_setMend_30 : decode cX8_setMend 30 = .ok (.bipush 120, 2) := by decide +kernel
theorem dX8_setMend_32 : decode cX8_setMend 32 = .ok (.idiv, 1) := by decide +kernel
theorem dX8_setMend_33 : decode cX8_setMend 33 = .ok (.goto 4, 3) := by decide +kernel
theorem dX8_setMend_36 : decode cX8_setMend 36 = .ok (.iconst (-1), 1) := by decide +kernel
theorem dX8_setMend_37 : decode cX8_setMend 37 = .ok (.iastore, 1) := by decide +kernel
theorem dX8_setMend_38 : decode cX8_setMend 38 = .ok (.aload_n 0, 1) := by decide +kernel
theorem dX8_setMend_39 : decode cX8_setMend 39 = .ok (.getfield 25, 3) := by decide +kernel
theorem dX8_setMend_42 : decode cX8_setMend 42 = .ok (.iconst 2, 1) := by decide +kernel
theorem dX8_setMend_43 : decode cX8_setMend 43 = .ok (.iload 4, 2) := by decide +kernel
theorem dX8_setMend_45 : decode cX8_setMend 45 = .ok (.ifCond .eq 12, 3) := by decide +kernel
theorem dX8_setMend_48 : decode cX8_setMend 48 = .ok (.iload_n 2, 1) := by decide +kernel
theorem dX8_setMend_49 : decode cX8_setMend 49 = .ok (.bipush 12, 2) := by decide +kernel
theorem dX8_setMend_51 : decode cX8_setMend 51 = .ok (.irem, 1) := by decide +kernel
theorem dX8_setMend_52 : decode cX8_setMend 52 = .ok (.iconst 1, 1) := by decide +kernel
theorem dX8_setMend_53 : decode cX8_setMend 53 = .ok (.isub, 1) := by decide +kernel
theorem dX8_setMend_54 : decode cX8_setMend 54 = .ok (.goto 4, 3) := by decide +kernel
theorem dX8_setMend_57 : decode cX8_setMend 57 = .ok (.iconst (-1), 1) := by decide +kernel
theorem dX8_setMend_58 : decode cX8_setMend 58 = .ok (.iastore, 1) := by decide +kernel
theorem dX8_setMend_59 : decode cX8_setMend 59 = .ok (.aload_n 0, 1) := by decide +kernel
theorem dX8_setMend_60 : decode cX8_setMend 60 = .ok (.getfield 25, 3) := by decide +kernel
theorem dX8_setMend_63 : decode cX8_setMend 63 = .ok (.iconst 3, 1) := by decide +kernel
theorem dX8_setMend_64 : decode cX8_setMend 64 = .ok (.iload 4, 2) := by decide +kernel
theorem dX8_setMend_66 : decode cX8_setMend 66 = .ok (.ifCond .eq 15, 3) := by decide +kernel
theorem dX8_setMend_69 : decode cX8_setMend 69 = .ok (.iload_n 2, 1) := by decide +kernel
theorem dX8_setMend_70 : decode cX8_setMend 70 = .ok (.bipush 120, 2) := by decide +kernel
theorem dX8_setMend_72 : decode cX8_setMend 72 = .ok (.irem, 1) := by decide +kernel
theorem dX8_setMend_73 : decode cX8_setMend 73 = .ok (.bipush 12, 2) := by decide +kernel
theorem dX8_setMend_75 : decode cX8_setMend 75 = .ok (.idiv, 1) := by decide +kernel
theorem dX8_setMend_76 : decode cX8_setMend 76 = .ok (.iconst 1, 1) := by decide +kernel
theorem dX8_setMend_77 : decode cX8_setMend 77 = .ok (.isub, 1) := by decide +kernel
theorem dX8_setMend_78 : decode cX8_setMend 78 = .ok (.goto 4, 3) := by decide +kernel
theorem dX8_setMend_81 : decode cX8_setMend 81 = .ok (.iconst (-1), 1) := by decide +kernel
theorem dX8_setMend_82 : decode cX8_setMend 82 = .ok (.iastore, 1) := by decide +kernel
theorem dX8_setMend_83 : decode cX8_setMend 83 = .ok (.aload_n 0, 1) := by decide +kernel
theorem dX8_setMend_84 : decode cX8_setMend 84 = .ok (.getfield 25, 3) := by decide +kernel
theorem dX8_setMend_87 : decode cX8_setMend 87 = .ok (.iconst 4, 1) := by decide +kernel
theorem dX8_setMend_88 : decode cX8_setMend 88 = .ok (.iload_n 3, 1) := by decide +kernel
theorem dX8_setMend_89 : decode cX8_setMend 89 = .ok (.iastore, 1) := by decide +kernel
theorem dX8_setMend_90 : decode cX8_setMend 90 = .ok (.return_, 1) := by decide +kernel
theorem dX8_seekMend_0 : decode cX8_seekMend 0 = .ok (.iload_n 1, 1) := by decide +kernel
theorem dX8_seekMend_1 : decode cX8_seekMend 1 = .ok (.aload_n 0, 1) := by decide +kernel
theorem dX8_seekMend_2 : decode cX8_seekMend 2 = .ok (.getfield 28, 3) := by decide +kernel
theorem dX8_seekMend_5 : decode cX8_seekMend 5 = .ok (.if_icmp .ne 4, 3) := by decide +kernel
theorem dX8_seekMend_8 : decode cX8_seekMend 8 = .ok (.return_, 1) := by decide +kernel
theorem dX8_seekMend_9 : decode cX8_seekMend 9 = .ok (.aload_n 0, 1) := by decide +kernel
theorem dX8_seekMend_10 : decode cX8_seekMend 10 = .ok (.iload_n 1, 1) := by decide +kernel
theorem dX8_seekMend_11 : decode cX8_seekMend 11 = .ok (.putfield 28, 3) := by decide +kernel
theorem dX8_seekMend_14 : decode cX8_seekMend 14 = .ok (.aload_n 0, 1) := by decide +kernel
theorem dX8_seekMend_15 : decode cX8_seekMend 15 = .ok (.aload_n 2, 1) := by decide +kernel
theorem dX8_seekMend_16 : decode cX8_seekMend 16 = .ok (.aload_n 3, 1) := by decide +kernel
theorem dX8_seekMend_17 : decode cX8_seekMend 17 = .ok (.iload 4, 2) := by decide +kernel
theorem dX8_seekMend_19 : decode cX8_seekMend 19 = .ok (.invokevirtual 141, 3) := by decide +kernel
theorem dX8_seekMend_22 : decode cX8_seekMend 22 = .ok (.istore 5, 2) := by decide +kernel
theorem dX8_seekMend_24 : decode cX8_seekMend 24 = .ok (.aload_n 0, 1) := by decide +kernel
theorem dX8_seekMend_25 : decode cX8_seekMend 25 = .ok (.iload 5, 2) := by decide +kernel
theorem dX8_seekMend_27 : decode cX8_seekMend 27 = .ok (.iconst (-1), 1) := by decide +kernel
theorem dX8_seekMend_28 : decode cX8_seekMend 28 = .ok (.if_icmp .ne 7, 3) := by decide +kernel
theorem dX8_seekMend_31 : decode cX8_seekMend 31 = .ok (.iconst 0, 1) := by decide +kernel
theorem dX8_seekMend_32 : decode cX8_seekMend 32 = .ok (.goto 4, 3) := by decide +kernel
theorem dX8_seekMend_35 : decode cX8_seekMend 35 = .ok (.iconst 2, 1) := by decide +kernel
theorem dX8_seekMend_36 : decode cX8_seekMend 36 = .ok (.iconst (-1), 1) := by decide +kernel
theorem dX8_seekMend_37 : decode cX8_seekMend 37 = .ok (.iconst (-1), 1) := by decide +kernel
theorem dX8_seekMend_38 : decode cX8_seekMend 38 = .ok (.invokevirtual 145, 3) := by decide +kernel
theorem dX8_seekMend_41 : decode cX8_seekMend 41 = .ok (.sipush 3600, 3) := by decide +kernel
theorem dX8_seekMend_44 : decode cX8_seekMend 44 = .ok (.istore 6, 2) := by decide +kernel
theorem dX8_seekMend_46 : decode cX8_seekMend 46 = .ok (.iconst 0, 1) := by decide +kernel
theorem dX8_seekMend_47 : decode cX8_seekMend 47 = .ok (.istore 7, 2) := by decide +kernel
theorem dX8_seekMend_49 : decode cX8_seekMend 49 = .ok (.iload 7, 2) := by decide +kernel
theorem dX8_seekMend_51 : decode cX8_seekMend 51 = .ok (.iload 6, 2) := by decide +kernel
theorem dX8_seekMend_53 : decode cX8_seekMend 53 = .ok (.if_icmp .ge 109, 3) := by decide +kernel
theorem dX8_seekMend_56 : decode cX8_seekMend 56 = .ok (.iload 5, 2) := by decide +kernel
theorem dX8_seekMend_58 : decode cX8_seekMend 58 = .ok (.iconst (-1), 1) := by decide +kernel
theorem dX8_seekMend_59 : decode cX8_seekMend 59 = .ok (.if_icmp .eq 103, 3) := by decide +kernel
theorem dX8_seekMend_62 : decode cX8_seekMend 62 = .ok (.iload 7, 2) := by decide +kernel
theorem dX8_seekMend_64 : decode cX8_seekMend 64 = .ok (.bipush 15, 2) := by decide +kernel
theorem dX8_seekMend_66 : decode cX8_seekMend 66 = .ok (.idiv, 1) := by decide +kernel
theorem dX8_seekMend_67 : decode cX8_seekMend 67 = .ok (.istore 8, 2) := by decide +kernel
theorem dX8_seekMend_69 : decode cX8_seekMend 69 = .ok (.iload 7, 2) := by decide +kernel
theorem dX8_seekMend_71 : decode cX8_seekMend 71 = .ok (.bipush 15, 2) := by decide +kernel
theorem dX8_seekMend_73 : decode cX8_seekMend 73 = .ok (.irem, 1) := by decide +kernel
theorem dX8_seekMend_74 : decode cX8_seekMend 74 = .ok (.istore 9, 2) := by decide +kernel
theorem dX8_seekMend_76 : decode cX8_seekMend 76 = .ok (.aload_n 2, 1) := by decide +kernel
theorem dX8_seekMend_77 : decode cX8_seekMend 77 = .ok (.iload 8, 2) := by decide +kernel
theorem dX8_seekMend_79 : decode cX8_seekMend 79 = .ok (.invokevirtual 32, 3) := by decide +kernel
theorem dX8_seekMend_82 : decode cX8_seekMend 82 = .ok (.istore 10, 2) := by decide +kernel
theorem dX8_seekMend_84 : decode cX8_seekMend 84 = .ok (.iload 9, 2) := by decide +kernel
theorem dX8_seekMend_86 : decode cX8_seekMend 86 = .ok (.iload 10, 2) := by decide +kernel
theorem dX8_seekMend_88 : decode cX8_seekMend 88 = .ok (.if_icmp .eq 68, 3) := by decide +kernel
theorem dX8_seekMend_91 : decode cX8_seekMend 91 = .ok (.iload 8, 2) := by decide +kernel
theorem dX8_seekMend_93 : decode cX8_seekMend 93 = .ok (.invokestatic 149, 3) := by decide +kernel
theorem dX8_seekMend_96 : decode cX8_seekMend 96 = .ok (.ifCond .ne 6, 3) := by decide +kernel
theorem dX8_seekMend_99 : decode cX8_seekMend 99 = .ok (.goto 57, 3) := by decide +kernel
theorem dX8_seekMend_102 : decode cX8_seekMend 102 = .ok (.aload_n 2, 1) := by decide +kernel
theorem dX8_seekMend_103 : decode cX8_seekMend 103 = .ok (.iload 8, 2) := by decide +kernel
theorem dX8_seekMend_105 : decode cX8_seekMend 105 = .ok (.iload 9, 2) := by decide +kernel
theorem dX8_seekMend_107 : decode cX8_seekMend 107 = .ok (.invokevirtual 153, 3) := by decide +kernel
theorem dX8_seekMend_110 : decode cX8_seekMend 110 = .ok (.aload_n 0, 1) := by decide +kernel
theorem dX8_seekMend_111 : decode cX8_seekMend 111 = .ok (.aload_n 2, 1) := by decide +kernel
theorem dX8_seekMend_112 : decode cX8_seekMend 112 = .ok (.aload_n 3, 1) := by decide +kernel
theorem dX8_seekMend_113 : decode cX8_seekMend 113 = .ok (.iload 5, 2) := by decide +kernel
theorem dX8_seekMend_115 : decode cX8_seekMend 115 = .ok (.iload 4, 2) := by decide +kernel
theorem dX8_seekMend_117 : decode cX8_seekMend 117 = .ok (.invokevirtual 75, 3) := by decide +kernel
theorem dX8_seekMend_120 : decode cX8_seekMend 120 = .ok (.ifCond .ne 13, 3) := by decide +kernel
theorem dX8_seekMend_123 : decode cX8_seekMend 123 = .ok (.aload_n 0, 1) := by decide +kernel
theorem dX8_seekMend_124 : decode cX8_seekMend 124 = .ok (.aload_n 2, 1) := by decide +kernel
theorem dX8_seekMend_125 : decode cX8_seekMend 125 = .ok (.aload_n 3, 1) := by decide +kernel
theorem dX8_seekMend_126 : decode cX8_seekMend 126 = .ok (.iload 4, 2) := by decide +kernel
theorem dX8_seekMend_128 : decode cX8_seekMend 128 = .ok (.invokevirtual 141, 3) := by decide +kernel
theorem dX8_seekMend_131 : decode cX8_seekMend 131 = .ok (.istore 5, 2) := by decide +kernel
theorem dX8_seekMend_133 : decode cX8_seekMend 133 = .ok (.aload_n 2, 1) := by decide +kernel
theorem dX8_seekMend_134 : decode cX8_seekMend 134 = .ok (.iload 8, 2) := by decide +kernel
theorem dX8_seekMend_136 : decode cX8_seekMend 136 = .ok (.iload 10, 2) := by decide +kernel
theorem dX8_seekMend_138 : decode cX8_seekMend 138 = .ok (.invokevirtual 153, 3) := by decide +kernel
theorem dX8_seekMend_141 : decode cX8_seekMend 141 = .ok (.iload 5, 2) := by decide +kernel
theorem dX8_seekMend_143 : decode cX8_seekMend 143 = .ok (.iconst (-1), 1) := by decide +kernel
theorem dX8_seekMend_144 : decode cX8_seekMend 144 = .ok (.if_icmp .ne 12, 3) := by decide +kernel
theorem dX8_seekMend_147 : decode cX8_seekMend 147 = .ok (.aload_n 0, 1) := by decide +kernel
theorem dX8_seekMend_148 : decode cX8_seekMend 148 = .ok (.iconst 1, 1) := by decide +kernel
theorem dX8_seekMend_149 : decode cX8_seekMend 149 = .ok (.iload 8, 2) := by decide +kernel
theorem dX8_seekMend_151 : decode cX8_seekMend 151 = .ok (.iload 9, 2) := by decide +kernel
theorem dX8_seekMend_153 : decode cX8_seekMend 153 = .ok (.invokevirtual 145, 3) := by decide +kernel
theorem dX8_seekMend_156 : decode cX8_seekMend 156 = .ok (.iinc 7 1, 3) := by decide +kernel
theorem dX8_seekMend_159 : decode cX8_seekMend 159 = .ok (.goto (-110), 3) := by decide +kernel
theorem dX8_seekMend_162 : decode cX8_seekMend 162 = .ok (.return_, 1) := by decide +kernel
theorem dX9_hasRoomFor_0 : decode cX9_hasRoomFor 0 = .ok (.aload_n 0, 1) := by decide +kernel
theorem dX9_hasRoomFor_1 : decode cX9_hasRoomFor 1 = .ok (.getfield 15, 3) := by decide +kernel
theorem dX9_hasRoomFor_4 : decode cX9_hasRoomFor 4 = .ok (.iload_n 1, 1) := by decide +kernel
theorem dX9_hasRoomFor_5 : decode cX9_hasRoomFor 5 = .ok (.iadd, 1) := by decide +kernel
theorem dX9_hasRoomFor_6 : decode cX9_hasRoomFor 6 = .ok (.sipush 900, 3) := by decide +kernel
theorem dX9_hasRoomFor_9 : decode cX9_hasRoomFor 9 = .ok (.if_icmp .gt 7, 3) := by decide +kernel
theorem dX9_hasRoomFor_12 : decode cX9_hasRoomFor 12 = .ok (.iconst 1, 1) := by decide +kernel
theorem dX9_hasRoomFor_13 : decode cX9_hasRoomFor 13 = .ok (.goto 4, 3) := by decide +kernel
theorem dX9_hasRoomFor_16 : decode cX9_hasRoomFor 16 = .ok (.iconst 0, 1) := by decide +kernel
theorem dX9_hasRoomFor_17 : decode cX9_hasRoomFor 17 = .ok (.ireturn, 1) := by decide +kernel
theorem dX9_holds_0 : decode cX9_holds 0 = .ok (.iload_n 1, 1) := by decide +kernel
theorem dX9_holds_1 : decode cX9_holds 1 = .ok (.ifCond .lt 15, 3) := by decide +kernel
theorem dX9_holds_4 : decode cX9_holds 4 = .ok (.iload_n 1, 1) := by decide +kernel
theorem dX9_holds_5 : decode cX9_holds 5 = .ok (.aload_n 0, 1) := by decide +kernel
theorem dX9_holds_6 : decode cX9_holds 6 = .ok (.getfield 15, 3) := by decide +kernel
theorem dX9_holds_9 : decode cX9_holds 9 = .ok (.if_icmp .gt 7, 3) := by decide +kernel
theorem dX9_holds_12 : decode cX9_holds 12 = .ok (.iconst 1, 1) := by decide +kernel
theorem dX9_holds_13 : decode cX9_holds 13 = .ok (.goto 4, 3) := by decide +kernel
theorem dX9_holds_16 : decode cX9_holds 16 = .ok (.iconst 0, 1) := by decide +kernel
theorem dX9_holds_17 : decode cX9_holds 17 = .ok (.ireturn, 1) := by decide +kernel
theorem dX9_add_0 : decode cX9_add 0 = .ok (.bipush 24, 2) := by decide +kernel
theorem dX9_add_2 : decode cX9_add 2 = .ok (.istore_n 2, 1) := by decide +kernel
theorem dX9_add_3 : decode cX9_add 3 = .ok (.iload_n 2, 1) := by decide +kernel
theorem dX9_add_4 : decode cX9_add 4 = .ok (.ifCond .lt 54, 3) := by decide +kernel
theorem dX9_add_7 : decode cX9_add 7 = .ok (.aload_n 0, 1) := by decide +kernel
theorem dX9_add_8 : decode cX9_add 8 = .ok (.getfield 15, 3) := by decide +kernel
theorem dX9_add_11 : decode cX9_add 11 = .ok (.ifCond .lt 41, 3) := by decide +kernel
theorem dX9_add_14 : decode cX9_add 14 = .ok (.aload_n 0, 1) := by decide +kernel
theorem dX9_add_15 : decode cX9_add 15 = .ok (.getfield 15, 3) := by decide +kernel
theorem dX9_add_18 : decode cX9_add 18 = .ok (.aload_n 0, 1) := by decide +kernel
theorem dX9_add_19 : decode cX9_add 19 = .ok (.getfield 11, 3) := by decide +kernel
theorem dX9_add_22 : decode cX9_add 22 = .ok (.arraylength, 1) := by decide +kernel
theorem dX9_add_23 : decode cX9_add 23 = .ok (.if_icmp .ge 29, 3) := by decide +kernel
theorem dX9_add_26 : decode cX9_add 26 = .ok (.aload_n 0, 1) := by decide +kernel
theorem dX9_add_27 : decode cX9_add 27 = .ok (.getfield 11, 3) := by decide +kernel
theorem dX9_add_30 : decode cX9_add 30 = .ok (.aload_n 0, 1) := by decide +kernel
theorem dX9_add_31 : decode cX9_add 31 = .ok (.getfield 15, 3) := by decide +kernel
theorem dX9_add_34 : decode cX9_add 34 = .ok (.iload_n 1, 1) := by decide +kernel
theorem dX9_add_35 : decode cX9_add 35 = .ok (.iload_n 2, 1) := by decide +kernel
theorem dX9_add_36 : decode cX9_add 36 = .ok (.iushr, 1) := by decide +kernel
theorem dX9_add_37 : decode cX9_add 37 = .ok (.sipush 255, 3) := by decide +kernel
theorem dX9_add_40 : decode cX9_add 40 = .ok (.iand, 1) := by decide +kernel
theorem dX9_add_41 : decode cX9_add 41 = .ok (.iastore, 1) := by decide +kernel
theorem dX9_add_42 : decode cX9_add 42 = .ok (.aload_n 0, 1) := by decide +kernel
theorem dX9_add_43 : decode cX9_add 43 = .ok (.dup, 1) := by decide +kernel
theorem dX9_add_44 : decode cX9_add 44 = .ok (.getfield 15, 3) := by decide +kernel
theorem dX9_add_47 : decode cX9_add 47 = .ok (.iconst 1, 1) := by decide +kernel
theorem dX9_add_48 : decode cX9_add 48 = .ok (.iadd, 1) := by decide +kernel
theorem dX9_add_49 : decode cX9_add 49 = .ok (.putfield 15, 3) := by decide +kernel
theorem dX9_add_52 : decode cX9_add 52 = .ok (.iinc 2 (-8), 3) := by decide +kernel
theorem dX9_add_55 : decode cX9_add 55 = .ok (.goto (-52), 3) := by decide +kernel
theorem dX9_add_58 : decode cX9_add 58 = .ok (.return_, 1) := by decide +kernel
theorem dX9_clear_0 : decode cX9_clear 0 = .ok (.aload_n 0, 1) := by decide +kernel
theorem dX9_clear_1 : decode cX9_clear 1 = .ok (.iconst 0, 1) := by decide +kernel
theorem dX9_clear_2 : decode cX9_clear 2 = .ok (.putfield 15, 3) := by decide +kernel
theorem dX9_clear_5 : decode cX9_clear 5 = .ok (.return_, 1) := by decide +kernel
theorem dX9_wordOf_0 : decode cX9_wordOf 0 = .ok (.iload_n 1, 1) := by decide +kernel
theorem dX9_wordOf_1 : decode cX9_wordOf 1 = .ok (.iconst 1, 1) := by decide +kernel
theorem dX9_wordOf_2 : decode cX9_wordOf 2 = .ok (.if_icmp .lt 9, 3) := by decide +kernel
theorem dX9_wordOf_5 : decode cX9_wordOf 5 = .ok (.iload_n 1, 1) := by decide +kernel
theorem dX9_wordOf_6 : decode cX9_wordOf 6 = .ok (.bipush 8, 2) := by decide +kernel
theorem dX9_wordOf_8 : decode cX9_wordOf 8 = .ok (.if_icmp .le 5, 3) := by decide +kernel
theorem dX9_wordOf_11 : decode cX9_wordOf 11 = .ok (.lconst 0, 1) := by decide +kernel
theorem dX9_wordOf_12 : decode cX9_wordOf 12 = .ok (.lreturn, 1) := by decide +kernel
theorem dX9_wordOf_13 : decode cX9_wordOf 13 = .ok (.lconst 0, 1) := by decide +kernel
theorem dX9_wordOf_14 : decode cX9_wordOf 14 = .ok (.lstore_n 2, 1) := by decide +kernel
theorem dX9_wordOf_15 : decode cX9_wordOf 15 = .ok (.iconst 0, 1) := by decide +kernel
theorem dX9_wordOf_16 : decode cX9_wordOf 16 = .ok (.istore 4, 2) := by decide +kernel
theorem dX9_wordOf_18 : decode cX9_wordOf 18 = .ok (.iload 4, 2) := by decide +kernel
theorem dX9_wordOf_20 : decode cX9_wordOf 20 = .ok (.iload_n 1, 1) := by decide +kernel
theorem dX9_wordOf_21 : decode cX9_wordOf 21 = .ok (.if_icmp .ge 34, 3) := by decide +kernel
theorem dX9_wordOf_24 : decode cX9_wordOf 24 = .ok (.aload_n 0, 1) := by decide +kernel
theorem dX9_wordOf_25 : decode cX9_wordOf 25 = .ok (.iload 4, 2) := by decide +kernel
theorem dX9_wordOf_27 : decode cX9_wordOf 27 = .ok (.invokevirtual 21, 3) := by decide +kernel
theorem dX9_wordOf_30 : decode cX9_wordOf 30 = .ok (.istore 5, 2) := by decide +kernel
theorem dX9_wordOf_32 : decode cX9_wordOf 32 = .ok (.iload 5, 2) := by decide +kernel
theorem dX9_wordOf_34 : decode cX9_wordOf 34 = .ok (.invokestatic 25, 3) := by decide +kernel
theorem dX9_wordOf_37 : decode cX9_wordOf 37 = .ok (.ifCond .ne 5, 3) := by decide +kernel
theorem dX9_wordOf_40 : decode cX9_wordOf 40 = .ok (.lconst 0, 1) := by decide +kernel
theorem dX9_wordOf_41 : decode cX9_wordOf 41 = .ok (.lreturn, 1) := by decide +kernel
theorem dX9_wordOf_42 : decode cX9_wordOf 42 = .ok (.lload_n 2, 1) := by decide +kernel
theorem dX9_wordOf_43 : decode cX9_wordOf 43 = .ok (.iload 5, 2) := by decide +kernel
theorem dX9_wordOf_45 : decode cX9_wordOf 45 = .ok (.invokestatic 29, 3) := by decide +kernel
theorem dX9_wordOf_48 : decode cX9_wordOf 48 = .ok (.lstore_n 2, 1) := by decide +kernel
theorem dX9_wordOf_49 : decode cX9_wordOf 49 = .ok (.iinc 4 1, 3) := by decide +kernel
theorem dX9_wordOf_52 : decode cX9_wordOf 52 = .ok (.goto (-34), 3) := by decide +kernel
theorem dX9_wordOf_55 : decode cX9_wordOf 55 = .ok (.lload_n 2, 1) := by decide +kernel
theorem dX9_wordOf_56 : decode cX9_wordOf 56 = .ok (.lreturn, 1) := by decide +kernel
theorem dX10_lengthOf_0 : decode cX10_lengthOf 0 = .ok (.iconst 0, 1) := by decide +kernel
theorem dX10_lengthOf_1 : decode cX10_lengthOf 1 = .ok (.istore_n 2, 1) := by decide +kernel
theorem dX10_lengthOf_2 : decode cX10_lengthOf 2 = .ok (.iconst 0, 1) := by decide +kernel
theorem dX10_lengthOf_3 : decode cX10_lengthOf 3 = .ok (.istore_n 3, 1) := by decide +kernel
theorem dX10_lengthOf_4 : decode cX10_lengthOf 4 = .ok (.iload_n 3, 1) := by decide +kernel
theorem dX10_lengthOf_5 : decode cX10_lengthOf 5 = .ok (.bipush 8, 2) := by decide +kernel
theorem dX10_lengthOf_7 : decode cX10_lengthOf 7 = .ok (.if_icmp .ge 22, 3) := by decide +kernel
theorem dX10_lengthOf_10 : decode cX10_lengthOf 10 = .ok (.lload_n 0, 1) := by decide +kernel
theorem dX10_lengthOf_11 : decode cX10_lengthOf 11 = .ok (.iconst 5, 1) := by decide +kernel
theorem dX10_lengthOf_12 : decode cX10_lengthOf 12 = .ok (.iload_n 3, 1) := by decide +kernel
theorem dX10_lengthOf_13 : decode cX10_lengthOf 13 = .ok (.imul, 1) := by decide +kernel
theorem dX10_lengthOf_14 : decode cX10_lengthOf 14 = .ok (.lushr, 1) := by decide +kernel
theorem dX10_lengthOf_15 : decode cX10_lengthOf 15 = .ok (.lconst 0, 1) := by decide +kernel
theorem dX10_lengthOf_16 : decode cX10_lengthOf 16 = .ok (.lcmp, 1) := by decide +kernel
theorem dX10_lengthOf_17 : decode cX10_lengthOf 17 = .ok (.ifCond .eq 6, 3) := by decide +kernel
theorem dX10_lengthOf_20 : decode cX10_lengthOf 20 = .ok (.iinc 2 1, 3) := by decide +kernel
theorem dX10_lengthOf_23 : decode cX10_lengthOf 23 = .ok (.iinc 3 1, 3) := by decide +kernel
theorem dX10_lengthOf_26 : decode cX10_lengthOf 26 = .ok (.goto (-22), 3) := by decide +kernel
theorem dX10_lengthOf_29 : decode cX10_lengthOf 29 = .ok (.iload_n 2, 1) := by decide +kernel
theorem dX10_lengthOf_30 : decode cX10_lengthOf 30 = .ok (.ireturn, 1) := by decide +kernel
theorem dX10_letterOf_0 : decode cX10_letterOf 0 = .ok (.lload_n 0, 1) := by decide +kernel
theorem dX10_letterOf_1 : decode cX10_letterOf 1 = .ok (.invokestatic 41, 3) := by decide +kernel
theorem dX10_letterOf_4 : decode cX10_letterOf 4 = .ok (.istore_n 3, 1) := by decide +kernel
theorem dX10_letterOf_5 : decode cX10_letterOf 5 = .ok (.iload_n 2, 1) := by decide +kernel
theorem dX10_letterOf_6 : decode cX10_letterOf 6 = .ok (.ifCond .lt 8, 3) := by decide +kernel
theorem dX10_letterOf_9 : decode cX10_letterOf 9 = .ok (.iload_n 2, 1) := by decide +kernel
theorem dX10_letterOf_10 : decode cX10_letterOf 10 = .ok (.iload_n 3, 1) := by decide +kernel
theorem dX10_letterOf_11 : decode cX10_letterOf 11 = .ok (.if_icmp .lt 5, 3) := by decide +kernel
theorem dX10_letterOf_14 : decode cX10_letterOf 14 = .ok (.iconst (-1), 1) := by decide +kernel
theorem dX10_letterOf_15 : decode cX10_letterOf 15 = .ok (.ireturn, 1) := by decide +kernel
theorem dX10_letterOf_16 : decode cX10_letterOf 16 = .ok (.lload_n 0, 1) := by decide +kernel
theorem dX10_letterOf_17 : decode cX10_letterOf 17 = .ok (.iconst 5, 1) := by decide +kernel
theorem dX10_letterOf_18 : decode cX10_letterOf 18 = .ok (.iload_n 3, 1) := by decide +kernel
theorem dX10_letterOf_19 : decode cX10_letterOf 19 = .ok (.iconst 1, 1) := by decide +kernel
theorem dX10_letterOf_20 : decode cX10_letterOf 20 = .ok (.isub, 1) := by decide +kernel
theorem dX10_letterOf_21 : decode cX10_letterOf 21 = .ok (.iload_n 2, 1) := by decide +kernel
theorem dX10_letterOf_22 : decode cX10_letterOf 22 = .ok (.isub, 1) := by decide +kernel
theorem dX10_letterOf_23 : decode cX10_letterOf 23 = .ok (.imul, 1) := by decide +kernel
theorem dX10_letterOf_24 : decode cX10_letterOf 24 = .ok (.lushr, 1) := by decide +kernel
theorem dX10_letterOf_25 : decode cX10_letterOf 25 = .ok (.ldc2_w 45, 3) := by decide +kernel
theorem dX10_letterOf_28 : decode cX10_letterOf 28 = .ok (.land, 1) := by decide +kernel
theorem dX10_letterOf_29 : decode cX10_letterOf 29 = .ok (.l2i, 1) := by decide +kernel
theorem dX10_letterOf_30 : decode cX10_letterOf 30 = .ok (.bipush 97, 2) := by decide +kernel
theorem dX10_letterOf_32 : decode cX10_letterOf 32 = .ok (.iadd, 1) := by decide +kernel
theorem dX10_letterOf_33 : decode cX10_letterOf 33 = .ok (.iconst 1, 1) := by decide +kernel
theorem dX10_letterOf_34 : decode cX10_letterOf 34 = .ok (.isub, 1) := by decide +kernel
theorem dX10_letterOf_35 : decode cX10_letterOf 35 = .ok (.ireturn, 1) := by decide +kernel
theorem dX11_day_0 : decode cX11_day 0 = .ok (.iload_n 1, 1) := by decide +kernel
theorem dX11_day_1 : decode cX11_day 1 = .ok (.aload_n 0, 1) := by decide +kernel
theorem dX11_day_2 : decode cX11_day 2 = .ok (.getfield 76, 3) := by decide +kernel
theorem dX11_day_5 : decode cX11_day 5 = .ok (.if_icmp .le 10, 3) := by decide +kernel
theorem dX11_day_8 : decode cX11_day 8 = .ok (.iload_n 1, 1) := by decide +kernel
theorem dX11_day_9 : decode cX11_day 9 = .ok (.sipush 1000, 3) := by decide +kernel
theorem dX11_day_12 : decode cX11_day 12 = .ok (.if_icmp .le 5, 3) := by decide +kernel
theorem dX11_day_15 : decode cX11_day 15 = .ok (.iconst 0, 1) := by decide +kernel
theorem dX11_day_16 : decode cX11_day 16 = .ok (.ireturn, 1) := by decide +kernel
theorem dX11_day_17 : decode cX11_day 17 = .ok (.aload_n 0, 1) := by decide +kernel
theorem dX11_day_18 : decode cX11_day 18 = .ok (.iload_n 1, 1) := by decide +kernel
theorem dX11_day_19 : decode cX11_day 19 = .ok (.putfield 76, 3) := by decide +kernel
theorem dX11_day_22 : decode cX11_day 22 = .ok (.aload_n 0, 1) := by decide +kernel
theorem dX11_day_23 : decode cX11_day 23 = .ok (.getfield 42, 3) := by decide +kernel
theorem dX11_day_26 : decode cX11_day 26 = .ok (.invokevirtual 105, 3) := by decide +kernel
theorem dX11_day_29 : decode cX11_day 29 = .ok (.iconst 1, 1) := by decide +kernel
theorem dX11_day_30 : decode cX11_day 30 = .ok (.ireturn, 1) := by decide +kernel
theorem dX11_feed_0 : decode cX11_feed 0 = .ok (.aload_n 0, 1) := by decide +kernel
theorem dX11_feed_1 : decode cX11_feed 1 = .ok (.getfield 10, 3) := by decide +kernel
theorem dX11_feed_4 : decode cX11_feed 4 = .ok (.bipush 20, 2) := by decide +kernel
theorem dX11_feed_6 : decode cX11_feed 6 = .ok (.invokevirtual 108, 3) := by decide +kernel
theorem dX11_feed_9 : decode cX11_feed 9 = .ok (.ifCond .ne 5, 3) := by decide +kernel
theorem dX11_feed_12 : decode cX11_feed 12 = .ok (.iconst (-1), 1) := by decide +kernel
theorem dX11_feed_13 : decode cX11_feed 13 = .ok (.ireturn, 1) := by decide +kernel
theorem dX11_feed_14 : decode cX11_feed 14 = .ok (.aload_n 0, 1) := by decide +kernel
theorem dX11_feed_15 : decode cX11_feed 15 = .ok (.getfield 10, 3) := by decide +kernel
theorem dX11_feed_18 : decode cX11_feed 18 = .ok (.iload_n 1, 1) := by decide +kernel
theorem dX11_feed_19 : decode cX11_feed 19 = .ok (.invokevirtual 112, 3) := by decide +kernel
theorem dX11_feed_22 : decode cX11_feed 22 = .ok (.aload_n 0, 1) := by decide +kernel
theorem dX11_feed_23 : decode cX11_feed 23 = .ok (.getfield 10, 3) := by decide +kernel
theorem dX11_feed_26 : decode cX11_feed 26 = .ok (.iload_n 2, 1) := by decide +kernel
theorem dX11_feed_27 : decode cX11_feed 27 = .ok (.invokevirtual 112, 3) := by decide +kernel
theorem dX11_feed_30 : decode cX11_feed 30 = .ok (.aload_n 0, 1) := by decide +kernel
theorem dX11_feed_31 : decode cX11_feed 31 = .ok (.getfield 10, 3) := by decide +kernel
theorem dX11_feed_34 : decode cX11_feed 34 = .ok (.iload_n 3, 1) := by decide +kernel
theorem dX11_feed_35 : decode cX11_feed 35 = .ok (.invokevirtual 112, 3) := by decide +kernel
theorem dX11_feed_38 : decode cX11_feed 38 = .ok (.aload_n 0, 1) := by decide +kernel
theorem dX11_feed_39 : decode cX11_feed 39 = .ok (.getfield 10, 3) := by decide +kernel
theorem dX11_feed_42 : decode cX11_feed 42 = .ok (.iload 4, 2) := by decide +kernel
theorem dX11_feed_44 : decode cX11_feed 44 = .ok (.invokevirtual 112, 3) := by decide +kernel
theorem dX11_feed_47 : decode cX11_feed 47 = .ok (.aload_n 0, 1) := by decide +kernel
theorem dX11_feed_48 : decode cX11_feed 48 = .ok (.getfield 10, 3) := by decide +kernel
theorem dX11_feed_51 : decode cX11_feed 51 = .ok (.iload 5, 2) := by decide +kernel
theorem dX11_feed_53 : decode cX11_feed 53 = .ok (.invokevirtual 112, 3) := by decide +kernel
theorem dX11_feed_56 : decode cX11_feed 56 = .ok (.aload_n 0, 1) := by decide +kernel
theorem dX11_feed_57 : decode cX11_feed 57 = .ok (.getfield 10, 3) := by decide +kernel
theorem dX11_feed_60 : decode cX11_feed 60 = .ok (.getfield 116, 3) := by decide +kernel
theorem dX11_feed_63 : decode cX11_feed 63 = .ok (.ireturn, 1) := by decide +kernel
theorem dX11_fault_0 : decode cX11_fault 0 = .ok (.aload_n 0, 1) := by decide +kernel
theorem dX11_fault_1 : decode cX11_fault 1 = .ok (.getfield 80, 3) := by decide +kernel
theorem dX11_fault_4 : decode cX11_fault 4 = .ok (.ireturn, 1) := by decide +kernel
theorem dX11_isDay_0 : decode cX11_isDay 0 = .ok (.iload_n 0, 1) := by decide +kernel
theorem dX11_isDay_1 : decode cX11_isDay 1 = .ok (.ifCond .lt 14, 3) := by decide +kernel
theorem dX11_isDay_4 : decode cX11_isDay 4 = .ok (.iload_n 0, 1) := by decide +kernel
theorem dX11_isDay_5 : decode cX11_isDay 5 = .ok (.sipush 1000, 3) := by decide +kernel
theorem dX11_isDay_8 : decode cX11_isDay 8 = .ok (.if_icmp .gt 7, 3) := by decide +kernel
theorem dX11_isDay_11 : decode cX11_isDay 11 = .ok (.iconst 1, 1) := by decide +kernel
theorem dX11_isDay_12 : decode cX11_isDay 12 = .ok (.goto 4, 3) := by decide +kernel
theorem dX11_isDay_15 : decode cX11_isDay 15 = .ok (.iconst 0, 1) := by decide +kernel
theorem dX11_isDay_16 : decode cX11_isDay 16 = .ok (.ireturn, 1) := by decide +kernel
theorem dX11_binds_0 : decode cX11_binds 0 = .ok (.iload_n 1, 1) := by decide +kernel
theorem dX11_binds_1 : decode cX11_binds 1 = .ok (.invokestatic 145, 3) := by decide +kernel
theorem dX11_binds_4 : decode cX11_binds 4 = .ok (.ifCond .eq 14, 3) := by decide +kernel
theorem dX11_binds_7 : decode cX11_binds 7 = .ok (.aload_n 0, 1) := by decide +kernel
theorem dX11_binds_8 : decode cX11_binds 8 = .ok (.getfield 26, 3) := by decide +kernel
theorem dX11_binds_11 : decode cX11_binds 11 = .ok (.iload_n 1, 1) := by decide +kernel
theorem dX11_binds_12 : decode cX11_binds 12 = .ok (.invokevirtual 148, 3) := by decide +kernel
theorem dX11_binds_15 : decode cX11_binds 15 = .ok (.goto 4, 3) := by decide +kernel
theorem dX11_binds_18 : decode cX11_binds 18 = .ok (.iconst (-1), 1) := by decide +kernel
theorem dX11_binds_19 : decode cX11_binds 19 = .ok (.ireturn, 1) := by decide +kernel
theorem dX11_law_0 : decode cX11_law 0 = .ok (.iload_n 1, 1) := by decide +kernel
theorem dX11_law_1 : decode cX11_law 1 = .ok (.invokestatic 145, 3) := by decide +kernel
theorem dX11_law_4 : decode cX11_law 4 = .ok (.ifCond .ne 5, 3) := by decide +kernel
theorem dX11_law_7 : decode cX11_law 7 = .ok (.iconst (-1), 1) := by decide +kernel
theorem dX11_law_8 : decode cX11_law 8 = .ok (.ireturn, 1) := by decide +kernel
theorem dX11_law_9 : decode cX11_law 9 = .ok (.aload_n 0, 1) := by decide +kernel
theorem dX11_law_10 : decode cX11_law 10 = .ok (.getfield 26, 3) := by decide +kernel
theorem dX11_law_13 : decode cX11_law 13 = .ok (.iload_n 1, 1) := by decide +kernel
theorem dX11_law_14 : decode cX11_law 14 = .ok (.invokevirtual 152, 3) := by decide +kernel
theorem dX11_law_17 : decode cX11_law 17 = .ok (.astore_n 3, 1) := by decide +kernel
theorem dX11_law_18 : decode cX11_law 18 = .ok (.iload_n 2, 1) := by decide +kernel
theorem dX11_law_19 : decode cX11_law 19 = .ok (.ifCond .lt 15, 3) := by decide +kernel
theorem dX11_law_22 : decode cX11_law 22 = .ok (.iload_n 2, 1) := by decide +kernel
theorem dX11_law_23 : decode cX11_law 23 = .ok (.bipush 11, 2) := by decide +kernel
theorem dX11_law_25 : decode cX11_law 25 = .ok (.if_icmp .ge 9, 3) := by decide +kernel
theorem dX11_law_28 : decode cX11_law 28 = .ok (.aload_n 3, 1) := by decide +kernel
theorem dX11_law_29 : decode cX11_law 29 = .ok (.iload_n 2, 1) := by decide +kernel
theorem dX11_law_30 : decode cX11_law 30 = .ok (.invokevirtual 156, 3) := by decide +kernel
theorem dX11_law_33 : decode cX11_law 33 = .ok (.ireturn, 1) := by decide +kernel
theorem dX11_law_34 : decode cX11_law 34 = .ok (.iload_n 2, 1) := by decide +kernel
theorem dX11_law_35 : decode cX11_law 35 = .ok (.bipush 11, 2) := by decide +kernel
theorem dX11_law_37 : decode cX11_law 37 = .ok (.if_icmp .ne 8, 3) := by decide +kernel
theorem dX11_law_40 : decode cX11_law 40 = .ok (.aload_n 3, 1) := by decide +kernel
theorem dX11_law_41 : decode cX11_law 41 = .ok (.getfield 161, 3) := by decide +kernel
theorem dX11_law_44 : decode cX11_law 44 = .ok (.ireturn, 1) := by decide +kernel
theorem dX11_law_45 : decode cX11_law 45 = .ok (.iload_n 2, 1) := by decide +kernel
theorem dX11_law_46 : decode cX11_law 46 = .ok (.bipush 12, 2) := by decide +kernel
theorem dX11_law_48 : decode cX11_law 48 = .ok (.if_icmp .ne 8, 3) := by decide +kernel
theorem dX11_law_51 : decode cX11_law 51 = .ok (.aload_n 3, 1) := by decide +kernel
theorem dX11_law_52 : decode cX11_law 52 = .ok (.invokevirtual 164, 3) := by decide +kernel
theorem dX11_law_55 : decode cX11_law 55 = .ok (.ireturn, 1) := by decide +kernel
theorem dX11_law_56 : decode cX11_law 56 = .ok (.iload_n 2, 1) := by decide +kernel
theorem dX11_law_57 : decode cX11_law 57 = .ok (.bipush 20, 2) := by decide +kernel
theorem dX11_law_59 : decode cX11_law 59 = .ok (.if_icmp .le 20, 3) := by decide +kernel
theorem dX11_law_62 : decode cX11_law 62 = .ok (.iload_n 2, 1) := by decide +kernel
theorem dX11_law_63 : decode cX11_law 63 = .ok (.bipush 32, 2) := by decide +kernel
theorem dX11_law_65 : decode cX11_law 65 = .ok (.if_icmp .gt 14, 3) := by decide +kernel
theorem dX11_law_68 : decode cX11_law 68 = .ok (.aload_n 3, 1) := by decide +kernel
theorem dX11_law_69 : decode cX11_law 69 = .ok (.iload_n 2, 1) := by decide +kernel
theorem dX11_law_70 : decode cX11_law 70 = .ok (.bipush 20, 2) := by decide +kernel
theorem dX11_law_72 : decode cX11_law 72 = .ok (.isub, 1) := by decide +kernel
theorem dX11_law_73 : decode cX11_law 73 = .ok (.invokevirtual 167, 3) := by decide +kernel
theorem dX11_law_76 : decode cX11_law 76 = .ok (.goto 4, 3) := by decide +kernel
theorem dX11_law_79 : decode cX11_law 79 = .ok (.iconst (-1), 1) := by decide +kernel
theorem dX11_law_80 : decode cX11_law 80 = .ok (.ireturn, 1) := by decide +kernel
theorem dX11_name_0 : decode cX11_name 0 = .ok (.aload_n 0, 1) := by decide +kernel
theorem dX11_name_1 : decode cX11_name 1 = .ok (.getfield 19, 3) := by decide +kernel
theorem dX11_name_4 : decode cX11_name 4 = .ok (.iload_n 1, 1) := by decide +kernel
theorem dX11_name_5 : decode cX11_name 5 = .ok (.invokevirtual 170, 3) := by decide +kernel
theorem dX11_name_8 : decode cX11_name 8 = .ok (.lstore_n 3, 1) := by decide +kernel
theorem dX11_name_9 : decode cX11_name 9 = .ok (.lload_n 3, 1) := by decide +kernel
theorem dX11_name_10 : decode cX11_name 10 = .ok (.lconst 0, 1) := by decide +kernel
theorem dX11_name_11 : decode cX11_name 11 = .ok (.lcmp, 1) := by decide +kernel
theorem dX11_name_12 : decode cX11_name 12 = .ok (.ifCond .ne 5, 3) := by decide +kernel
theorem dX11_name_15 : decode cX11_name 15 = .ok (.iconst (-1), 1) := by decide +kernel
theorem dX11_name_16 : decode cX11_name 16 = .ok (.ireturn, 1) := by decide +kernel
theorem dX11_name_17 : decode cX11_name 17 = .ok (.iload_n 2, 1) := by decide +kernel
theorem dX11_name_18 : decode cX11_name 18 = .ok (.iconst (-1), 1) := by decide +kernel
theorem dX11_name_19 : decode cX11_name 19 = .ok (.if_icmp .ne 10, 3) := by decide +kernel
theorem dX11_name_22 : decode cX11_name 22 = .ok (.lload_n 3, 1) := by decide +kernel
theorem dX11_name_23 : decode cX11_name 23 = .ok (.invokestatic 174, 3) := by decide +kernel
theorem dX11_name_26 : decode cX11_name 26 = .ok (.goto 8, 3) := by decide +kernel
theorem dX11_name_29 : decode cX11_name 29 = .ok (.lload_n 3, 1) := by decide +kernel
theorem dX11_name_30 : decode cX11_name 30 = .ok (.iload_n 2, 1) := by decide +kernel
theorem dX11_name_31 : decode cX11_name 31 = .ok (.invokestatic 180, 3) := by decide +kernel
theorem dX11_name_34 : decode cX11_name 34 = .ok (.ireturn, 1) := by decide +kernel
theorem dX11_sun_0 : decode cX11_sun 0 = .ok (.iload_n 1, 1) := by decide +kernel
theorem dX11_sun_1 : decode cX11_sun 1 = .ok (.ifCond .lt 18, 3) := by decide +kernel
theorem dX11_sun_4 : decode cX11_sun 4 = .ok (.iload_n 1, 1) := by decide +kernel
theorem dX11_sun_5 : decode cX11_sun 5 = .ok (.iconst 4, 1) := by decide +kernel
theorem dX11_sun_6 : decode cX11_sun 6 = .ok (.if_icmp .ge 13, 3) := by decide +kernel
theorem dX11_sun_9 : decode cX11_sun 9 = .ok (.iload_n 2, 1) := by decide +kernel
theorem dX11_sun_10 : decode cX11_sun 10 = .ok (.ifCond .lt 9, 3) := by decide +kernel
theorem dX11_sun_13 : decode cX11_sun 13 = .ok (.iload_n 2, 1) := by decide +kernel
theorem dX11_sun_14 : decode cX11_sun 14 = .ok (.bipush 12, 2) := by decide +kernel
theorem dX11_sun_16 : decode cX11_sun 16 = .ok (.if_icmp .le 5, 3) := by decide +kernel
theorem dX11_sun_19 : decode cX11_sun 19 = .ok (.iconst 0, 1) := by decide +kernel
theorem dX11_sun_20 : decode cX11_sun 20 = .ok (.ireturn, 1) := by decide +kernel
theorem dX11_sun_21 : decode cX11_sun 21 = .ok (.aload_n 0, 1) := by decide +kernel
theorem dX11_sun_22 : decode cX11_sun 22 = .ok (.getfield 42, 3) := by decide +kernel
theorem dX11_sun_25 : decode cX11_sun 25 = .ok (.iload_n 1, 1) := by decide +kernel
theorem dX11_sun_26 : decode cX11_sun 26 = .ok (.iload_n 2, 1) := by decide +kernel
theorem dX11_sun_27 : decode cX11_sun 27 = .ok (.invokevirtual 184, 3) := by decide +kernel
theorem dX11_sun_30 : decode cX11_sun 30 = .ok (.aload_n 0, 1) := by decide +kernel
theorem dX11_sun_31 : decode cX11_sun 31 = .ok (.getfield 42, 3) := by decide +kernel
theorem dX11_sun_34 : decode cX11_sun 34 = .ok (.invokevirtual 105, 3) := by decide +kernel
theorem dX11_sun_37 : decode cX11_sun 37 = .ok (.iconst 1, 1) := by decide +kernel
theorem dX11_sun_38 : decode cX11_sun 38 = .ok (.ireturn, 1) := by decide +kernel
theorem dX11_isAuthor_0 : decode cX11_isAuthor 0 = .ok (.iload_n 0, 1) := by decide +kernel
theorem dX11_isAuthor_1 : decode cX11_isAuthor 1 = .ok (.ifCond .lt 13, 3) := by decide +kernel
theorem dX11_isAuthor_4 : decode cX11_isAuthor 4 = .ok (.iload_n 0, 1) := by decide +kernel
theorem dX11_isAuthor_5 : decode cX11_isAuthor 5 = .ok (.bipush 40, 2) := by decide +kernel
theorem dX11_isAuthor_7 : decode cX11_isAuthor 7 = .ok (.if_icmp .ge 7, 3) := by decide +kernel
theorem dX11_isAuthor_10 : decode cX11_isAuthor 10 = .ok (.iconst 1, 1) := by decide +kernel
theorem dX11_isAuthor_11 : decode cX11_isAuthor 11 = .ok (.goto 4, 3) := by decide +kernel
theorem dX11_isAuthor_14 : decode cX11_isAuthor 14 = .ok (.iconst 0, 1) := by decide +kernel
theorem dX11_isAuthor_15 : decode cX11_isAuthor 15 = .ok (.ireturn, 1) := by decide +kernel
theorem dX11_schemeAt_0 : decode cX11_schemeAt 0 = .ok (.iload_n 1, 1) := by decide +kernel
theorem dX11_schemeAt_1 : decode cX11_schemeAt 1 = .ok (.ifCond .lt 29, 3) := by decide +kernel
theorem dX11_schemeAt_4 : decode cX11_schemeAt 4 = .ok (.iload_n 1, 1) := by decide +kernel
theorem dX11_schemeAt_5 : decode cX11_schemeAt 5 = .ok (.aload_n 0, 1) := by decide +kernel
theorem dX11_schemeAt_6 : decode cX11_schemeAt 6 = .ok (.getfield 83, 3) := by decide +kernel
theorem dX11_schemeAt_9 : decode cX11_schemeAt 9 = .ok (.if_icmp .ge 21, 3) := by decide +kernel
theorem dX11_schemeAt_12 : decode cX11_schemeAt 12 = .ok (.iload_n 1, 1) := by decide +kernel
theorem dX11_schemeAt_13 : decode cX11_schemeAt 13 = .ok (.aload_n 0, 1) := by decide +kernel
theorem dX11_schemeAt_14 : decode cX11_schemeAt 14 = .ok (.getfield 62, 3) := by decide +kernel
theorem dX11_schemeAt_17 : decode cX11_schemeAt 17 = .ok (.arraylength, 1) := by decide +kernel
theorem dX11_schemeAt_18 : decode cX11_schemeAt 18 = .ok (.if_icmp .ge 12, 3) := by decide +kernel
theorem dX11_schemeAt_21 : decode cX11_schemeAt 21 = .ok (.aload_n 0, 1) := by decide +kernel
theorem dX11_schemeAt_22 : decode cX11_schemeAt 22 = .ok (.getfield 62, 3) := by decide +kernel
theorem dX11_schemeAt_25 : decode cX11_schemeAt 25 = .ok (.iload_n 1, 1) := by decide +kernel
theorem dX11_schemeAt_26 : decode cX11_schemeAt 26 = .ok (.aaload, 1) := by decide +kernel
theorem dX11_schemeAt_27 : decode cX11_schemeAt 27 = .ok (.goto 4, 3) := by decide +kernel
theorem dX11_schemeAt_30 : decode cX11_schemeAt 30 = .ok (.aconst_null, 1) := by decide +kernel
theorem dX11_schemeAt_31 : decode cX11_schemeAt 31 = .ok (.areturn, 1) := by decide +kernel
theorem dX11_draw_0 : decode cX11_draw 0 = .ok (.aload_n 0, 1) := by decide +kernel
theorem dX11_draw_1 : decode cX11_draw 1 = .ok (.iload_n 1, 1) := by decide +kernel
theorem dX11_draw_2 : decode cX11_draw 2 = .ok (.invokevirtual 193, 3) := by decide +kernel
theorem dX11_draw_5 : decode cX11_draw 5 = .ok (.astore 8, 2) := by decide +kernel
theorem dX11_draw_7 : decode cX11_draw 7 = .ok (.aload 8, 2) := by decide +kernel
theorem dX11_draw_9 : decode cX11_draw 9 = .ok (.ifnull 19, 3) := by decide +kernel
theorem dX11_draw_12 : decode cX11_draw 12 = .ok (.aload 8, 2) := by decide +kernel
theorem dX11_draw_14 : decode cX11_draw 14 = .ok (.invokevirtual 197, 3) := by decide +kernel
theorem dX11_draw_17 : decode cX11_draw 17 = .ok (.ifCond .ne 11, 3) := by decide +kernel
theorem dX11_draw_20 : decode cX11_draw 20 = .ok (.iload 7, 2) := by decide +kernel
theorem dX11_draw_22 : decode cX11_draw 22 = .ok (.invokestatic 200, 3) := by decide +kernel
theorem dX11_draw_25 : decode cX11_draw 25 = .ok (.ifCond .ne 5, 3) := by decide +kernel
theorem dX11_draw_28 : decode cX11_draw 28 = .ok (.iconst 0, 1) := by decide +kernel
theorem dX11_draw_29 : decode cX11_draw 29 = .ok (.ireturn, 1) := by decide +kernel
theorem dX11_draw_30 : decode cX11_draw 30 = .ok (.iload_n 2, 1) := by decide +kernel
theorem dX11_draw_31 : decode cX11_draw 31 = .ok (.iload_n 3, 1) := by decide +kernel
theorem dX11_draw_32 : decode cX11_draw 32 = .ok (.iload 4, 2) := by decide +kernel
theorem dX11_draw_34 : decode cX11_draw 34 = .ok (.invokestatic 203, 3) := by decide +kernel
theorem dX11_draw_37 : decode cX11_draw 37 = .ok (.ifCond .eq 27, 3) := by decide +kernel
theorem dX11_draw_40 : decode cX11_draw 40 = .ok (.iload_n 2, 1) := by decide +kernel
theorem dX11_draw_41 : decode cX11_draw 41 = .ok (.iload 5, 2) := by decide +kernel
theorem dX11_draw_43 : decode cX11_draw 43 = .ok (.iload 6, 2) := by decide +kernel
theorem dX11_draw_45 : decode cX11_draw 45 = .ok (.invokestatic 203, 3) := by decide +kernel
theorem dX11_draw_48 : decode cX11_draw 48 = .ok (.ifCond .eq 16, 3) := by decide +kernel
theorem dX11_draw_51 : decode cX11_draw 51 = .ok (.iload 5, 2) := by decide +kernel
theorem dX11_draw_53 : decode cX11_draw 53 = .ok (.iload_n 3, 1) := by decide +kernel
theorem dX11_draw_54 : decode cX11_draw 54 = .ok (.if_icmp .lt 10, 3) := by decide +kernel
theorem dX11_draw_57 : decode cX11_draw 57 = .ok (.iload 6, 2) := by decide +kernel
theorem dX11_draw_59 : decode cX11_draw 59 = .ok (.iload 4, 2) := by decide +kernel
theorem dX11_draw_61 : decode cX11_draw 61 = .ok (.if_icmp .ge 5, 3) := by decide +kernel
theorem dX11_draw_64 : decode cX11_draw 64 = .ok (.iconst 0, 1) := by decide +kernel
theorem dX11_draw_65 : decode cX11_draw 65 = .ok (.ireturn, 1) := by decide +kernel
theorem dX11_draw_66 : decode cX11_draw 66 = .ok (.iload 4, 2) := by decide +kernel
theorem dX11_draw_68 : decode cX11_draw 68 = .ok (.istore 9, 2) := by decide +kernel
theorem dX11_draw_70 : decode cX11_draw 70 = .ok (.iload 9, 2) := by decide +kernel
theorem dX11_draw_72 : decode cX11_draw 72 = .ok (.iload 6, 2) := by decide +kernel
theorem dX11_draw_74 : decode cX11_draw 74 = .ok (.if_icmp .gt 40, 3) := by decide +kernel
theorem dX11_draw_77 : decode cX11_draw 77 = .ok (.iload_n 3, 1) := by decide +kernel
theorem dX11_draw_78 : decode cX11_draw 78 = .ok (.istore 10, 2) := by decide +kernel
theorem dX11_draw_80 : decode cX11_draw 80 = .ok (.iload 10, 2) := by decide +kernel
theorem dX11_draw_82 : decode cX11_draw 82 = .ok (.iload 5, 2) := by decide +kernel
theorem dX11_draw_84 : decode cX11_draw 84 = .ok (.if_icmp .gt 24, 3) := by decide +kernel
theorem dX11_draw_87 : decode cX11_draw 87 = .ok (.aload 8, 2) := by decide +kernel
theorem dX11_draw_89 : decode cX11_draw 89 = .ok (.iload_n 2, 1) := by decide +kernel
theorem dX11_draw_90 : decode cX11_draw 90 = .ok (.iload 10, 2) := by decide +kernel
theorem dX11_draw_92 : decode cX11_draw 92 = .ok (.iload 9, 2) := by decide +kernel
theorem dX11_draw_94 : decode cX11_draw 94 = .ok (.invokestatic 207, 3) := by decide +kernel
theorem dX11_draw_97 : decode cX11_draw 97 = .ok (.iload 7, 2) := by decide +kernel
theorem dX11_draw_99 : decode cX11_draw 99 = .ok (.invokevirtual 211, 3) := by decide +kernel
theorem dX11_draw_102 : decode cX11_draw 102 = .ok (.iinc 10 1, 3) := by decide +kernel
theorem dX11_draw_105 : decode cX11_draw 105 = .ok (.goto (-25), 3) := by decide +kernel
theorem dX11_draw_108 : decode cX11_draw 108 = .ok (.iinc 9 1, 3) := by decide +kernel
theorem dX11_draw_111 : decode cX11_draw 111 = .ok (.goto (-41), 3) := by decide +kernel
theorem dX11_draw_114 : decode cX11_draw 114 = .ok (.aload_n 0, 1) := by decide +kernel
theorem dX11_draw_115 : decode cX11_draw 115 = .ok (.getfield 42, 3) := by decide +kernel
theorem dX11_draw_118 : decode cX11_draw 118 = .ok (.invokevirtual 105, 3) := by decide +kernel
theorem dX11_draw_121 : decode cX11_draw 121 = .ok (.iconst 1, 1) := by decide +kernel
theorem dX11_draw_122 : decode cX11_draw 122 = .ok (.ireturn, 1) := by decide +kernel
theorem dX11_cell_0 : decode cX11_cell 0 = .ok (.aload_n 0, 1) := by decide +kernel
theorem dX11_cell_1 : decode cX11_cell 1 = .ok (.iload_n 1, 1) := by decide +kernel
theorem dX11_cell_2 : decode cX11_cell 2 = .ok (.invokevirtual 193, 3) := by decide +kernel
theorem dX11_cell_5 : decode cX11_cell 5 = .ok (.astore 5, 2) := by decide +kernel
theorem dX11_cell_7 : decode cX11_cell 7 = .ok (.aload 5, 2) := by decide +kernel
theorem dX11_cell_9 : decode cX11_cell 9 = .ok (.ifnull 13, 3) := by decide +kernel
theorem dX11_cell_12 : decode cX11_cell 12 = .ok (.iload_n 2, 1) := by decide +kernel
theorem dX11_cell_13 : decode cX11_cell 13 = .ok (.iload_n 3, 1) := by decide +kernel
theorem dX11_cell_14 : decode cX11_cell 14 = .ok (.iload 4, 2) := by decide +kernel
theorem dX11_cell_16 : decode cX11_cell 16 = .ok (.invokestatic 203, 3) := by decide +kernel
theorem dX11_cell_19 : decode cX11_cell 19 = .ok (.ifCond .ne 5, 3) := by decide +kernel
theorem dX11_cell_22 : decode cX11_cell 22 = .ok (.iconst (-1), 1) := by decide +kernel
theorem dX11_cell_23 : decode cX11_cell 23 = .ok (.ireturn, 1) := by decide +kernel
theorem dX11_cell_24 : decode cX11_cell 24 = .ok (.aload 5, 2) := by decide +kernel
theorem dX11_cell_26 : decode cX11_cell 26 = .ok (.iload_n 2, 1) := by decide +kernel
theorem dX11_cell_27 : decode cX11_cell 27 = .ok (.iload_n 3, 1) := by decide +kernel
theorem dX11_cell_28 : decode cX11_cell 28 = .ok (.iload 4, 2) := by decide +kernel
theorem dX11_cell_30 : decode cX11_cell 30 = .ok (.invokestatic 207, 3) := by decide +kernel
theorem dX11_cell_33 : decode cX11_cell 33 = .ok (.invokevirtual 214, 3) := by decide +kernel
theorem dX11_cell_36 : decode cX11_cell 36 = .ok (.ireturn, 1) := by decide +kernel
theorem dX11_hand_0 : decode cX11_hand 0 = .ok (.aload_n 0, 1) := by decide +kernel
theorem dX11_hand_1 : decode cX11_hand 1 = .ok (.iload_n 1, 1) := by decide +kernel
theorem dX11_hand_2 : decode cX11_hand 2 = .ok (.invokevirtual 193, 3) := by decide +kernel
theorem dX11_hand_5 : decode cX11_hand 5 = .ok (.astore_n 2, 1) := by decide +kernel
theorem dX11_hand_6 : decode cX11_hand 6 = .ok (.aload_n 2, 1) := by decide +kernel
theorem dX11_hand_7 : decode cX11_hand 7 = .ok (.ifnull 10, 3) := by decide +kernel
theorem dX11_hand_10 : decode cX11_hand 10 = .ok (.aload_n 2, 1) := by decide +kernel
theorem dX11_hand_11 : decode cX11_hand 11 = .ok (.invokevirtual 197, 3) := by decide +kernel
theorem dX11_hand_14 : decode cX11_hand 14 = .ok (.ifCond .eq 5, 3) := by decide +kernel
theorem dX11_hand_17 : decode cX11_hand 17 = .ok (.iconst 0, 1) := by decide +kernel
theorem dX11_hand_18 : decode cX11_hand 18 = .ok (.ireturn, 1) := by decide +kernel
theorem dX11_hand_19 : decode cX11_hand 19 = .ok (.aload_n 2, 1) := by decide +kernel
theorem dX11_hand_20 : decode cX11_hand 20 = .ok (.aload_n 0, 1) := by decide +kernel
theorem dX11_hand_21 : decode cX11_hand 21 = .ok (.getfield 76, 3) := by decide +kernel
theorem dX11_hand_24 : decode cX11_hand 24 = .ok (.putfield 217, 3) := by decide +kernel
theorem dX11_hand_27 : decode cX11_hand 27 = .ok (.aload_n 0, 1) := by decide +kernel
theorem dX11_hand_28 : decode cX11_hand 28 = .ok (.getfield 42, 3) := by decide +kernel
theorem dX11_hand_31 : decode cX11_hand 31 = .ok (.invokevirtual 105, 3) := by decide +kernel
theorem dX11_hand_34 : decode cX11_hand 34 = .ok (.iconst 1, 1) := by decide +kernel
theorem dX11_hand_35 : decode cX11_hand 35 = .ok (.ireturn, 1) := by decide +kernel
theorem dX11_isRoom_0 : decode cX11_isRoom 0 = .ok (.iload_n 0, 1) := by decide +kernel
theorem dX11_isRoom_1 : decode cX11_isRoom 1 = .ok (.iconst 1, 1) := by decide +kernel
theorem dX11_isRoom_2 : decode cX11_isRoom 2 = .ok (.if_icmp .lt 13, 3) := by decide +kernel
theorem dX11_isRoom_5 : decode cX11_isRoom 5 = .ok (.iload_n 0, 1) := by decide +kernel
theorem dX11_isRoom_6 : decode cX11_isRoom 6 = .ok (.bipush 12, 2) := by decide +kernel
theorem dX11_isRoom_8 : decode cX11_isRoom 8 = .ok (.if_icmp .gt 7, 3) := by decide +kernel
theorem dX11_isRoom_11 : decode cX11_isRoom 11 = .ok (.iconst 1, 1) := by decide +kernel
theorem dX11_isRoom_12 : decode cX11_isRoom 12 = .ok (.goto 4, 3) := by decide +kernel
theorem dX11_isRoom_15 : decode cX11_isRoom 15 = .ok (.iconst 0, 1) := by decide +kernel
theorem dX11_isRoom_16 : decode cX11_isRoom 16 = .ok (.ireturn, 1) := by decide +kernel
theorem dX11_room_0 : decode cX11_room 0 = .ok (.aload_n 0, 1) := by decide +kernel
theorem dX11_room_1 : decode cX11_room 1 = .ok (.iload_n 1, 1) := by decide +kernel
theorem dX11_room_2 : decode cX11_room 2 = .ok (.invokevirtual 193, 3) := by decide +kernel
theorem dX11_room_5 : decode cX11_room 5 = .ok (.astore 4, 2) := by decide +kernel
theorem dX11_room_7 : decode cX11_room 7 = .ok (.aload 4, 2) := by decide +kernel
theorem dX11_room_9 : decode cX11_room 9 = .ok (.ifnull 10, 3) := by decide +kernel
theorem dX11_room_12 : decode cX11_room 12 = .ok (.iload_n 2, 1) := by decide +kernel
theorem dX11_room_13 : decode cX11_room 13 = .ok (.invokestatic 220, 3) := by decide +kernel
theorem dX11_room_16 : decode cX11_room 16 = .ok (.ifCond .ne 5, 3) := by decide +kernel
theorem dX11_room_19 : decode cX11_room 19 = .ok (.iconst (-1), 1) := by decide +kernel
theorem dX11_room_20 : decode cX11_room 20 = .ok (.ireturn, 1) := by decide +kernel
theorem dX11_room_21 : decode cX11_room 21 = .ok (.iload_n 3, 1) := by decide +kernel
theorem dX11_room_22 : decode cX11_room 22 = .ok (.lookupswitch 44 #[(0, 26), (1, 33)], 26) := by decide +kernel
theorem dX11_room_48 : decode cX11_room 48 = .ok (.aload 4, 2) := by decide +kernel
theorem dX11_room_50 : decode cX11_room 50 = .ok (.iload_n 2, 1) := by decide +kernel
theorem dX11_room_51 : decode cX11_room 51 = .ok (.invokevirtual 223, 3) := by decide +kernel
theorem dX11_room_54 : decode cX11_room 54 = .ok (.ireturn, 1) := by decide +kernel
theorem dX11_room_55 : decode cX11_room 55 = .ok (.aload_n 0, 1) := by decide +kernel
theorem dX11_room_56 : decode cX11_room 56 = .ok (.getfield 42, 3) := by decide +kernel
theorem dX11_room_59 : decode cX11_room 59 = .ok (.aload 4, 2) := by decide +kernel
theorem dX11_room_61 : decode cX11_room 61 = .ok (.iload_n 2, 1) := by decide +kernel
theorem dX11_room_62 : decode cX11_room 62 = .ok (.invokevirtual 226, 3) := by decide +kernel
theorem dX11_room_65 : decode cX11_room 65 = .ok (.ireturn, 1) := by decide +kernel
theorem dX11_room_66 : decode cX11_room 66 = .ok (.iconst (-1), 1) := by decide +kernel
theorem dX11_room_67 : decode cX11_room 67 = .ok (.ireturn, 1) := by decide +kernel
theorem dX11_steps_0 : decode cX11_steps 0 = .ok (.aload_n 0, 1) := by decide +kernel
theorem dX11_steps_1 : decode cX11_steps 1 = .ok (.iload_n 1, 1) := by decide +kernel
theorem dX11_steps_2 : decode cX11_steps 2 = .ok (.invokevirtual 193, 3) := by decide +kernel
theorem dX11_steps_5 : decode cX11_steps 5 = .ok (.astore 4, 2) := by decide +kernel
theorem dX11_steps_7 : decode cX11_steps 7 = .ok (.aload 4, 2) := by decide +kernel
theorem dX11_steps_9 : decode cX11_steps 9 = .ok (.ifnull 22, 3) := by decide +kernel
theorem dX11_steps_12 : decode cX11_steps 12 = .ok (.iload_n 2, 1) := by decide +kernel
theorem dX11_steps_13 : decode cX11_steps 13 = .ok (.invokestatic 220, 3) := by decide +kernel
theorem dX11_steps_16 : decode cX11_steps 16 = .ok (.ifCond .eq 15, 3) := by decide +kernel
theorem dX11_steps_19 : decode cX11_steps 19 = .ok (.iload_n 3, 1) := by decide +kernel
theorem dX11_steps_20 : decode cX11_steps 20 = .ok (.invokestatic 220, 3) := by decide +kernel
theorem dX11_steps_23 : decode cX11_steps 23 = .ok (.ifCond .eq 8, 3) := by decide +kernel
theorem dX11_steps_26 : decode cX11_steps 26 = .ok (.iload_n 2, 1) := by decide +kernel
theorem dX11_steps_27 : decode cX11_steps 27 = .ok (.iload_n 3, 1) := by decide +kernel
theorem dX11_steps_28 : decode cX11_steps 28 = .ok (.if_icmp .ne 5, 3) := by decide +kernel
theorem dX11_steps_31 : decode cX11_steps 31 = .ok (.iconst (-1), 1) := by decide +kernel
theorem dX11_steps_32 : decode cX11_steps 32 = .ok (.ireturn, 1) := by decide +kernel
theorem dX11_steps_33 : decode cX11_steps 33 = .ok (.aload_n 0, 1) := by decide +kernel
theorem dX11_steps_34 : decode cX11_steps 34 = .ok (.getfield 42, 3) := by decide +kernel
theorem dX11_steps_37 : decode cX11_steps 37 = .ok (.aload 4, 2) := by decide +kernel
theorem dX11_steps_39 : decode cX11_steps 39 = .ok (.iload_n 2, 1) := by decide +kernel
theorem dX11_steps_40 : decode cX11_steps 40 = .ok (.iload_n 3, 1) := by decide +kernel
theorem dX11_steps_41 : decode cX11_steps 41 = .ok (.sipush 160, 3) := by decide +kernel
theorem dX11_steps_44 : decode cX11_steps 44 = .ok (.invokevirtual 230, 3) := by decide +kernel
theorem dX11_steps_47 : decode cX11_steps 47 = .ok (.ireturn, 1) := by decide +kernel
theorem dX11_cost_0 : decode cX11_cost 0 = .ok (.aload_n 0, 1) := by decide +kernel
theorem dX11_cost_1 : decode cX11_cost 1 = .ok (.iload_n 1, 1) := by decide +kernel
theorem dX11_cost_2 : decode cX11_cost 2 = .ok (.invokevirtual 193, 3) := by decide +kernel
theorem dX11_cost_5 : decode cX11_cost 5 = .ok (.astore 4, 2) := by decide +kernel
theorem dX11_cost_7 : decode cX11_cost 7 = .ok (.aload 4, 2) := by decide +kernel
theorem dX11_cost_9 : decode cX11_cost 9 = .ok (.ifnull 10, 3) := by decide +kernel
theorem dX11_cost_12 : decode cX11_cost 12 = .ok (.iload_n 2, 1) := by decide +kernel
theorem dX11_cost_13 : decode cX11_cost 13 = .ok (.invokestatic 145, 3) := by decide +kernel
theorem dX11_cost_16 : decode cX11_cost 16 = .ok (.ifCond .ne 5, 3) := by decide +kernel
theorem dX11_cost_19 : decode cX11_cost 19 = .ok (.iconst (-1), 1) := by decide +kernel
theorem dX11_cost_20 : decode cX11_cost 20 = .ok (.ireturn, 1) := by decide +kernel
theorem dX11_cost_21 : decode cX11_cost 21 = .ok (.aload_n 0, 1) := by decide +kernel
theorem dX11_cost_22 : decode cX11_cost 22 = .ok (.getfield 26, 3) := by decide +kernel
theorem dX11_cost_25 : decode cX11_cost 25 = .ok (.iload_n 2, 1) := by decide +kernel
theorem dX11_cost_26 : decode cX11_cost 26 = .ok (.invokevirtual 152, 3) := by decide +kernel
theorem dX11_cost_29 : decode cX11_cost 29 = .ok (.astore 5, 2) := by decide +kernel
theorem dX11_cost_31 : decode cX11_cost 31 = .ok (.aload 4, 2) := by decide +kernel
theorem dX11_cost_33 : decode cX11_cost 33 = .ok (.aload 5, 2) := by decide +kernel
theorem dX11_cost_35 : decode cX11_cost 35 = .ok (.invokevirtual 234, 3) := by decide +kernel
theorem dX11_cost_38 : decode cX11_cost 38 = .ok (.istore 6, 2) := by decide +kernel
theorem dX11_cost_40 : decode cX11_cost 40 = .ok (.iload 6, 2) := by decide +kernel
theorem dX11_cost_42 : decode cX11_cost 42 = .ok (.aload 5, 2) := by decide +kernel
theorem dX11_cost_44 : decode cX11_cost 44 = .ok (.iconst 3, 1) := by decide +kernel
theorem dX11_cost_45 : decode cX11_cost 45 = .ok (.invokevirtual 156, 3) := by decide +kernel
theorem dX11_cost_48 : decode cX11_cost 48 = .ok (.imul, 1) := by decide +kernel
theorem dX11_cost_49 : decode cX11_cost 49 = .ok (.bipush 100, 2) := by decide +kernel
theorem dX11_cost_51 : decode cX11_cost 51 = .ok (.idiv, 1) := by decide +kernel
theorem dX11_cost_52 : decode cX11_cost 52 = .ok (.istore 7, 2) := by decide +kernel
theorem dX11_cost_54 : decode cX11_cost 54 = .ok (.iload_n 3, 1) := by decide +kernel
theorem dX11_cost_55 : decode cX11_cost 55 = .ok (.tableswitch 40 0 2 #[25, 28, 34], 25) := by decide +kernel
theorem dX11_cost_80 : decode cX11_cost 80 = .ok (.iload 6, 2) := by decide +kernel
theorem dX11_cost_82 : decode cX11_cost 82 = .ok (.ireturn, 1) := by decide +kernel
theorem dX11_cost_83 : decode cX11_cost 83 = .ok (.iload 6, 2) := by decide +kernel
theorem dX11_cost_85 : decode cX11_cost 85 = .ok (.iload 7, 2) := by decide +kernel
theorem dX11_cost_87 : decode cX11_cost 87 = .ok (.isub, 1) := by decide +kernel
theorem dX11_cost_88 : decode cX11_cost 88 = .ok (.ireturn, 1) := by decide +kernel
theorem dX11_cost_89 : decode cX11_cost 89 = .ok (.iload 6, 2) := by decide +kernel
theorem dX11_cost_91 : decode cX11_cost 91 = .ok (.iload 7, 2) := by decide +kernel
theorem dX11_cost_93 : decode cX11_cost 93 = .ok (.iadd, 1) := by decide +kernel
theorem dX11_cost_94 : decode cX11_cost 94 = .ok (.ireturn, 1) := by decide +kernel
theorem dX11_cost_95 : decode cX11_cost 95 = .ok (.iconst (-1), 1) := by decide +kernel
theorem dX11_cost_96 : decode cX11_cost 96 = .ok (.ireturn, 1) := by decide +kernel
theorem dX11_briefOf_0 : decode cX11_briefOf 0 = .ok (.aload_n 0, 1) := by decide +kernel
theorem dX11_briefOf_1 : decode cX11_briefOf 1 = .ok (.getfield 26, 3) := by decide +kernel
theorem dX11_briefOf_4 : decode cX11_briefOf 4 = .ok (.aload_n 1, 1) := by decide +kernel
theorem dX11_briefOf_5 : decode cX11_briefOf 5 = .ok (.invokevirtual 197, 3) := by decide +kernel
theorem dX11_briefOf_8 : decode cX11_briefOf 8 = .ok (.ifCond .eq 10, 3) := by decide +kernel
theorem dX11_briefOf_11 : decode cX11_briefOf 11 = .ok (.aload_n 1, 1) := by decide +kernel
theorem dX11_briefOf_12 : decode cX11_briefOf 12 = .ok (.getfield 217, 3) := by decide +kernel
theorem dX11_briefOf_15 : decode cX11_briefOf 15 = .ok (.goto 7, 3) := by decide +kernel
theorem dX11_briefOf_18 : decode cX11_briefOf 18 = .ok (.aload_n 0, 1) := by decide +kernel
theorem dX11_briefOf_19 : decode cX11_briefOf 19 = .ok (.getfield 76, 3) := by decide +kernel
theorem dX11_briefOf_22 : decode cX11_briefOf 22 = .ok (.invokevirtual 152, 3) := by decide +kernel
theorem dX11_briefOf_25 : decode cX11_briefOf 25 = .ok (.areturn, 1) := by decide +kernel
theorem dX11_why_0 : decode cX11_why 0 = .ok (.aload_n 0, 1) := by decide +kernel
theorem dX11_why_1 : decode cX11_why 1 = .ok (.iload_n 1, 1) := by decide +kernel
theorem dX11_why_2 : decode cX11_why 2 = .ok (.invokevirtual 193, 3) := by decide +kernel
theorem dX11_why_5 : decode cX11_why 5 = .ok (.astore_n 2, 1) := by decide +kernel
theorem dX11_why_6 : decode cX11_why 6 = .ok (.aload_n 2, 1) := by decide +kernel
theorem dX11_why_7 : decode cX11_why 7 = .ok (.ifnonnull 8, 3) := by decide +kernel
theorem dX11_why_10 : decode cX11_why 10 = .ok (.bipush (-2), 2) := by decide +kernel
theorem dX11_why_12 : decode cX11_why 12 = .ok (.goto 20, 3) := by decide +kernel
theorem dX11_why_15 : decode cX11_why 15 = .ok (.aload_n 0, 1) := by decide +kernel
theorem dX11_why_16 : decode cX11_why 16 = .ok (.getfield 42, 3) := by decide +kernel
theorem dX11_why_19 : decode cX11_why 19 = .ok (.aload_n 2, 1) := by decide +kernel
theorem dX11_why_20 : decode cX11_why 20 = .ok (.aload_n 0, 1) := by decide +kernel
theorem dX11_why_21 : decode cX11_why 21 = .ok (.aload_n 2, 1) := by decide +kernel
theorem dX11_why_22 : decode cX11_why 22 = .ok (.invokevirtual 238, 3) := by decide +kernel
theorem dX11_why_25 : decode cX11_why 25 = .ok (.aload_n 0, 1) := by decide +kernel
theorem dX11_why_26 : decode cX11_why 26 = .ok (.getfield 76, 3) := by decide +kernel
theorem dX11_why_29 : decode cX11_why 29 = .ok (.invokevirtual 242, 3) := by decide +kernel
theorem dX11_why_32 : decode cX11_why 32 = .ok (.ireturn, 1) := by decide +kernel
theorem dX11_mend_0 : decode cX11_mend 0 = .ok (.aload_n 0, 1) := by decide +kernel
theorem dX11_mend_1 : decode cX11_mend 1 = .ok (.iload_n 1, 1) := by decide +kernel
theorem dX11_mend_2 : decode cX11_mend 2 = .ok (.invokevirtual 193, 3) := by decide +kernel
theorem dX11_mend_5 : decode cX11_mend 5 = .ok (.astore_n 3, 1) := by decide +kernel
theorem dX11_mend_6 : decode cX11_mend 6 = .ok (.aload_n 3, 1) := by decide +kernel
theorem dX11_mend_7 : decode cX11_mend 7 = .ok (.ifnonnull 5, 3) := by decide +kernel
theorem dX11_mend_10 : decode cX11_mend 10 = .ok (.iconst (-1), 1) := by decide +kernel
theorem dX11_mend_11 : decode cX11_mend 11 = .ok (.ireturn, 1) := by decide +kernel
theorem dX11_mend_12 : decode cX11_mend 12 = .ok (.aload_n 0, 1) := by decide +kernel
theorem dX11_mend_13 : decode cX11_mend 13 = .ok (.getfield 42, 3) := by decide +kernel
theorem dX11_mend_16 : decode cX11_mend 16 = .ok (.iload_n 1, 1) := by decide +kernel
theorem dX11_mend_17 : decode cX11_mend 17 = .ok (.aload_n 3, 1) := by decide +kernel
theorem dX11_mend_18 : decode cX11_mend 18 = .ok (.aload_n 0, 1) := by decide +kernel
theorem dX11_mend_19 : decode cX11_mend 19 = .ok (.aload_n 3, 1) := by decide +kernel
theorem dX11_mend_20 : decode cX11_mend 20 = .ok (.invokevirtual 238, 3) := by decide +kernel
theorem dX11_mend_23 : decode cX11_mend 23 = .ok (.aload_n 0, 1) := by decide +kernel
theorem dX11_mend_24 : decode cX11_mend 24 = .ok (.getfield 76, 3) := by decide +kernel
theorem dX11_mend_27 : decode cX11_mend 27 = .ok (.invokevirtual 246, 3) := by decide +kernel
theorem dX11_mend_30 : decode cX11_mend 30 = .ok (.aload_n 0, 1) := by decide +kernel
theorem dX11_mend_31 : decode cX11_mend 31 = .ok (.getfield 42, 3) := by decide +kernel
theorem dX11_mend_34 : decode cX11_mend 34 = .ok (.iload_n 2, 1) := by decide +kernel
theorem dX11_mend_35 : decode cX11_mend 35 = .ok (.invokevirtual 250, 3) := by decide +kernel
theorem dX11_mend_38 : decode cX11_mend 38 = .ok (.ireturn, 1) := by decide +kernel
theorem dX11_lookAt_0 : decode cX11_lookAt 0 = .ok (.aload_n 0, 1) := by decide +kernel
theorem dX11_lookAt_1 : decode cX11_lookAt 1 = .ok (.iload_n 1, 1) := by decide +kernel
theorem dX11_lookAt_2 : decode cX11_lookAt 2 = .ok (.invokevirtual 193, 3) := by decide +kernel
theorem dX11_lookAt_5 : decode cX11_lookAt 5 = .ok (.astore_n 3, 1) := by decide +kernel
theorem dX11_lookAt_6 : decode cX11_lookAt 6 = .ok (.aload_n 0, 1) := by decide +kernel
theorem dX11_lookAt_7 : decode cX11_lookAt 7 = .ok (.iload_n 2, 1) := by decide +kernel
theorem dX11_lookAt_8 : decode cX11_lookAt 8 = .ok (.invokevirtual 193, 3) := by decide +kernel
theorem dX11_lookAt_11 : decode cX11_lookAt 11 = .ok (.astore 4, 2) := by decide +kernel
theorem dX11_lookAt_13 : decode cX11_lookAt 13 = .ok (.aload_n 3, 1) := by decide +kernel
theorem dX11_lookAt_14 : decode cX11_lookAt 14 = .ok (.ifnull 8, 3) := by decide +kernel
theorem dX11_lookAt_17 : decode cX11_lookAt 17 = .ok (.aload 4, 2) := by decide +kernel
theorem dX11_lookAt_19 : decode cX11_lookAt 19 = .ok (.ifnonnull 5, 3) := by decide +kernel
theorem dX11_lookAt_22 : decode cX11_lookAt 22 = .ok (.iconst (-1), 1) := by decide +kernel
theorem dX11_lookAt_23 : decode cX11_lookAt 23 = .ok (.ireturn, 1) := by decide +kernel
theorem dX11_lookAt_24 : decode cX11_lookAt 24 = .ok (.aload_n 0, 1) := by decide +kernel
theorem dX11_lookAt_25 : decode cX11_lookAt 25 = .ok (.dup, 1) := by decide +kernel
theorem dX11_lookAt_26 : decode cX11_lookAt 26 = .ok (.getfield 86, 3) := by decide +kernel
theorem dX11_lookAt_29 : decode cX11_lookAt 29 = .ok (.lconst 1, 1) := by decide +kernel
theorem dX11_lookAt_30 : decode cX11_lookAt 30 = .ok (.iload_n 2, 1) := by decide +kernel
theorem dX11_lookAt_31 : decode cX11_lookAt 31 = .ok (.iload_n 2, 1) := by decide +kernel
theorem dX11_lookAt_32 : decode cX11_lookAt 32 = .ok (.iconst 1, 1) := by decide +kernel
theorem dX11_lookAt_33 : decode cX11_lookAt 33 = .ok (.isub, 1) := by decide +kernel
theorem dX11_lookAt_34 : decode cX11_lookAt 34 = .ok (.imul, 1) := by decide +kernel
theorem dX11_lookAt_35 : decode cX11_lookAt 35 = .ok (.iconst 2, 1) := by decide +kernel
theorem dX11_lookAt_36 : decode cX11_lookAt 36 = .ok (.idiv, 1) := by decide +kernel
theorem dX11_lookAt_37 : decode cX11_lookAt 37 = .ok (.iload_n 1, 1) := by decide +kernel
theorem dX11_lookAt_38 : decode cX11_lookAt 38 = .ok (.iadd, 1) := by decide +kernel
theorem dX11_lookAt_39 : decode cX11_lookAt 39 = .ok (.lshl, 1) := by decide +kernel
theorem dX11_lookAt_40 : decode cX11_lookAt 40 = .ok (.lor, 1) := by decide +kernel
theorem dX11_lookAt_41 : decode cX11_lookAt 41 = .ok (.putfield 86, 3) := by decide +kernel
theorem dX11_lookAt_44 : decode cX11_lookAt 44 = .ok (.aload_n 3, 1) := by decide +kernel
theorem dX11_lookAt_45 : decode cX11_lookAt 45 = .ok (.aload 4, 2) := by decide +kernel
theorem dX11_lookAt_47 : decode cX11_lookAt 47 = .ok (.invokevirtual 348, 3) := by decide +kernel
theorem dX11_lookAt_50 : decode cX11_lookAt 50 = .ok (.ireturn, 1) := by decide +kernel
theorem dX11_alike_0 : decode cX11_alike 0 = .ok (.aload_n 0, 1) := by decide +kernel
theorem dX11_alike_1 : decode cX11_alike 1 = .ok (.iload_n 1, 1) := by decide +kernel
theorem dX11_alike_2 : decode cX11_alike 2 = .ok (.invokevirtual 193, 3) := by decide +kernel
theorem dX11_alike_5 : decode cX11_alike 5 = .ok (.astore_n 3, 1) := by decide +kernel
theorem dX11_alike_6 : decode cX11_alike 6 = .ok (.aload_n 0, 1) := by decide +kernel
theorem dX11_alike_7 : decode cX11_alike 7 = .ok (.iload_n 2, 1) := by decide +kernel
theorem dX11_alike_8 : decode cX11_alike 8 = .ok (.invokevirtual 193, 3) := by decide +kernel
theorem dX11_alike_11 : decode cX11_alike 11 = .ok (.astore 4, 2) := by decide +kernel
theorem dX11_alike_13 : decode cX11_alike 13 = .ok (.aload_n 3, 1) := by decide +kernel
theorem dX11_alike_14 : decode cX11_alike 14 = .ok (.ifnull 13, 3) := by decide +kernel
theorem dX11_alike_17 : decode cX11_alike 17 = .ok (.aload 4, 2) := by decide +kernel
theorem dX11_alike_19 : decode cX11_alike 19 = .ok (.ifnull 8, 3) := by decide +kernel
theorem dX11_alike_22 : decode cX11_alike 22 = .ok (.iload_n 1, 1) := by decide +kernel
theorem dX11_alike_23 : decode cX11_alike 23 = .ok (.iload_n 2, 1) := by decide +kernel
theorem dX11_alike_24 : decode cX11_alike 24 = .ok (.if_icmp .ne 5, 3) := by decide +kernel
theorem dX11_alike_27 : decode cX11_alike 27 = .ok (.iconst (-1), 1) := by decide +kernel
theorem dX11_alike_28 : decode cX11_alike 28 = .ok (.ireturn, 1) := by decide +kernel
theorem dX11_alike_29 : decode cX11_alike 29 = .ok (.aload_n 0, 1) := by decide +kernel
theorem dX11_alike_30 : decode cX11_alike 30 = .ok (.iload_n 1, 1) := by decide +kernel
theorem dX11_alike_31 : decode cX11_alike 31 = .ok (.iload_n 2, 1) := by decide +kernel
theorem dX11_alike_32 : decode cX11_alike 32 = .ok (.invokestatic 253, 3) := by decide +kernel
theorem dX11_alike_35 : decode cX11_alike 35 = .ok (.iload_n 1, 1) := by decide +kernel
theorem dX11_alike_36 : decode cX11_alike 36 = .ok (.iload_n 2, 1) := by decide +kernel
theorem dX11_alike_37 : decode cX11_alike 37 = .ok (.invokestatic 259, 3) := by decide +kernel
theorem dX11_alike_40 : decode cX11_alike 40 = .ok (.invokevirtual 262, 3) := by decide +kernel
theorem dX11_alike_43 : decode cX11_alike 43 = .ok (.ireturn, 1) := by decide +kernel
theorem dX11_most_0 : decode cX11_most 0 = .ok (.aload_n 0, 1) := by decide +kernel
theorem dX11_most_1 : decode cX11_most 1 = .ok (.getfield 83, 3) := by decide +kernel
theorem dX11_most_4 : decode cX11_most 4 = .ok (.iconst 2, 1) := by decide +kernel
theorem dX11_most_5 : decode cX11_most 5 = .ok (.if_icmp .lt 12, 3) := by decide +kernel
theorem dX11_most_8 : decode cX11_most 8 = .ok (.iload_n 1, 1) := by decide +kernel
theorem dX11_most_9 : decode cX11_most 9 = .ok (.ifCond .lt 8, 3) := by decide +kernel
theorem dX11_most_12 : decode cX11_most 12 = .ok (.iload_n 1, 1) := by decide +kernel
theorem dX11_most_13 : decode cX11_most 13 = .ok (.iconst 2, 1) := by decide +kernel
theorem dX11_most_14 : decode cX11_most 14 = .ok (.if_icmp .le 5, 3) := by decide +kernel
theorem dX11_most_17 : decode cX11_most 17 = .ok (.iconst (-1), 1) := by decide +kernel
theorem dX11_most_18 : decode cX11_most 18 = .ok (.ireturn, 1) := by decide +kernel
theorem dX11_most_19 : decode cX11_most 19 = .ok (.iconst (-1), 1) := by decide +kernel
theorem dX11_most_20 : decode cX11_most 20 = .ok (.istore_n 2, 1) := by decide +kernel
theorem dX11_most_21 : decode cX11_most 21 = .ok (.iconst (-1), 1) := by decide +kernel
theorem dX11_most_22 : decode cX11_most 22 = .ok (.istore_n 3, 1) := by decide +kernel
theorem dX11_most_23 : decode cX11_most 23 = .ok (.iconst (-1), 1) := by decide +kernel
theorem dX11_most_24 : decode cX11_most 24 = .ok (.istore 4, 2) := by decide +kernel
theorem dX11_most_26 : decode cX11_most 26 = .ok (.iconst 0, 1) := by decide +kernel
theorem dX11_most_27 : decode cX11_most 27 = .ok (.istore 5, 2) := by decide +kernel
theorem dX11_most_29 : decode cX11_most 29 = .ok (.iload 5, 2) := by decide +kernel
theorem dX11_most_31 : decode cX11_most 31 = .ok (.aload_n 0, 1) := by decide +kernel
theorem dX11_most_32 : decode cX11_most 32 = .ok (.getfield 83, 3) := by decide +kernel
theorem dX11_most_35 : decode cX11_most 35 = .ok (.if_icmp .ge 56, 3) := by decide +kernel
theorem dX11_most_38 : decode cX11_most 38 = .ok (.iload 5, 2) := by decide +kernel
theorem dX11_most_40 : decode cX11_most 40 = .ok (.iconst 1, 1) := by decide +kernel
theorem dX11_most_41 : decode cX11_most 41 = .ok (.iadd, 1) := by decide +kernel
theorem dX11_most_42 : decode cX11_most 42 = .ok (.istore 6, 2) := by decide +kernel
theorem dX11_most_44 : decode cX11_most 44 = .ok (.iload 6, 2) := by decide +kernel
theorem dX11_most_46 : decode cX11_most 46 = .ok (.aload_n 0, 1) := by decide +kernel
theorem dX11_most_47 : decode cX11_most 47 = .ok (.getfield 83, 3) := by decide +kernel
theorem dX11_most_50 : decode cX11_most 50 = .ok (.if_icmp .ge 35, 3) := by decide +kernel
theorem dX11_most_53 : decode cX11_most 53 = .ok (.aload_n 0, 1) := by decide +kernel
theorem dX11_most_54 : decode cX11_most 54 = .ok (.iload 5, 2) := by decide +kernel
theorem dX11_most_56 : decode cX11_most 56 = .ok (.iload 6, 2) := by decide +kernel
theorem dX11_most_58 : decode cX11_most 58 = .ok (.invokevirtual 262, 3) := by decide +kernel
theorem dX11_most_61 : decode cX11_most 61 = .ok (.istore 7, 2) := by decide +kernel
theorem dX11_most_63 : decode cX11_most 63 = .ok (.iload 7, 2) := by decide +kernel
theorem dX11_most_65 : decode cX11_most 65 = .ok (.iload_n 2, 1) := by decide +kernel
theorem dX11_most_66 : decode cX11_most 66 = .ok (.if_icmp .le 13, 3) := by decide +kernel
theorem dX11_most_69 : decode cX11_most 69 = .ok (.iload 7, 2) := by decide +kernel
theorem dX11_most_71 : decode cX11_most 71 = .ok (.istore_n 2, 1) := by decide +kernel
theorem dX11_most_72 : decode cX11_most 72 = .ok (.iload 5, 2) := by decide +kernel
theorem dX11_most_74 : decode cX11_most 74 = .ok (.istore_n 3, 1) := by decide +kernel
theorem dX11_most_75 : decode cX11_most 75 = .ok (.iload 6, 2) := by decide +kernel
theorem dX11_most_77 : decode cX11_most 77 = .ok (.istore 4, 2) := by decide +kernel
theorem dX11_most_79 : decode cX11_most 79 = .ok (.iinc 6 1, 3) := by decide +kernel
theorem dX11_most_82 : decode cX11_most 82 = .ok (.goto (-38), 3) := by decide +kernel
theorem dX11_most_85 : decode cX11_most 85 = .ok (.iinc 5 1, 3) := by decide +kernel
theorem dX11_most_88 : decode cX11_most 88 = .ok (.goto (-59), 3) := by decide +kernel
theorem dX11_most_91 : decode cX11_most 91 = .ok (.iload_n 1, 1) := by decide +kernel
theorem dX11_most_92 : decode cX11_most 92 = .ok (.ifCond .ne 5, 3) := by decide +kernel
theorem dX11_most_95 : decode cX11_most 95 = .ok (.iload_n 2, 1) := by decide +kernel
theorem dX11_most_96 : decode cX11_most 96 = .ok (.ireturn, 1) := by decide +kernel
theorem dX11_most_97 : decode cX11_most 97 = .ok (.iload_n 1, 1) := by decide +kernel
theorem dX11_most_98 : decode cX11_most 98 = .ok (.iconst 1, 1) := by decide +kernel
theorem dX11_most_99 : decode cX11_most 99 = .ok (.if_icmp .ne 7, 3) := by decide +kernel
theorem dX11_most_102 : decode cX11_most 102 = .ok (.iload_n 3, 1) := by decide +kernel
theorem dX11_most_103 : decode cX11_most 103 = .ok (.goto 5, 3) := by decide +kernel
theorem dX11_most_106 : decode cX11_most 106 = .ok (.iload 4, 2) := by decide +kernel
theorem dX11_most_108 : decode cX11_most 108 = .ok (.ireturn, 1) := by decide +kernel
theorem dX11_calls_0 : decode cX11_calls 0 = .ok (.iload_n 1, 1) := by decide +kernel
theorem dX11_calls_1 : decode cX11_calls 1 = .ok (.invokestatic 188, 3) := by decide +kernel
theorem dX11_calls_4 : decode cX11_calls 4 = .ok (.ifCond .eq 14, 3) := by decide +kernel
theorem dX11_calls_7 : decode cX11_calls 7 = .ok (.aload_n 0, 1) := by decide +kernel
theorem dX11_calls_8 : decode cX11_calls 8 = .ok (.getfield 10, 3) := by decide +kernel
theorem dX11_calls_11 : decode cX11_calls 11 = .ok (.iload_n 2, 1) := by decide +kernel
theorem dX11_calls_12 : decode cX11_calls 12 = .ok (.invokevirtual 119, 3) := by decide +kernel
theorem dX11_calls_15 : decode cX11_calls 15 = .ok (.ifCond .ne 5, 3) := by decide +kernel
theorem dX11_calls_18 : decode cX11_calls 18 = .ok (.iconst 0, 1) := by decide +kernel
theorem dX11_calls_19 : decode cX11_calls 19 = .ok (.ireturn, 1) := by decide +kernel
theorem dX11_calls_20 : decode cX11_calls 20 = .ok (.aload_n 0, 1) := by decide +kernel
theorem dX11_calls_21 : decode cX11_calls 21 = .ok (.getfield 10, 3) := by decide +kernel
theorem dX11_calls_24 : decode cX11_calls 24 = .ok (.iload_n 2, 1) := by decide +kernel
theorem dX11_calls_25 : decode cX11_calls 25 = .ok (.invokevirtual 265, 3) := by decide +kernel
theorem dX11_calls_28 : decode cX11_calls 28 = .ok (.lstore_n 3, 1) := by decide +kernel
theorem dX11_calls_29 : decode cX11_calls 29 = .ok (.aload_n 0, 1) := by decide +kernel
theorem dX11_calls_30 : decode cX11_calls 30 = .ok (.getfield 10, 3) := by decide +kernel
theorem dX11_calls_33 : decode cX11_calls 33 = .ok (.invokevirtual 134, 3) := by decide +kernel
theorem dX11_calls_36 : decode cX11_calls 36 = .ok (.lload_n 3, 1) := by decide +kernel
theorem dX11_calls_37 : decode cX11_calls 37 = .ok (.lconst 0, 1) := by decide +kernel
theorem dX11_calls_38 : decode cX11_calls 38 = .ok (.lcmp, 1) := by decide +kernel
theorem dX11_calls_39 : decode cX11_calls 39 = .ok (.ifCond .ne 5, 3) := by decide +kernel
theorem dX11_calls_42 : decode cX11_calls 42 = .ok (.iconst 0, 1) := by decide +kernel
theorem dX11_calls_43 : decode cX11_calls 43 = .ok (.ireturn, 1) := by decide +kernel
theorem dX11_calls_44 : decode cX11_calls 44 = .ok (.aload_n 0, 1) := by decide +kernel
theorem dX11_calls_45 : decode cX11_calls 45 = .ok (.getfield 49, 3) := by decide +kernel
theorem dX11_calls_48 : decode cX11_calls 48 = .ok (.iload_n 1, 1) := by decide +kernel
theorem dX11_calls_49 : decode cX11_calls 49 = .ok (.lload_n 3, 1) := by decide +kernel
theorem dX11_calls_50 : decode cX11_calls 50 = .ok (.invokevirtual 266, 3) := by decide +kernel
theorem dX11_calls_53 : decode cX11_calls 53 = .ok (.iconst 1, 1) := by decide +kernel
theorem dX11_calls_54 : decode cX11_calls 54 = .ok (.ireturn, 1) := by decide +kernel
theorem dX11_ask_0 : decode cX11_ask 0 = .ok (.aload_n 0, 1) := by decide +kernel
theorem dX11_ask_1 : decode cX11_ask 1 = .ok (.getfield 10, 3) := by decide +kernel
theorem dX11_ask_4 : decode cX11_ask 4 = .ok (.iload_n 1, 1) := by decide +kernel
theorem dX11_ask_5 : decode cX11_ask 5 = .ok (.invokevirtual 119, 3) := by decide +kernel
theorem dX11_ask_8 : decode cX11_ask 8 = .ok (.ifCond .eq 13, 3) := by decide +kernel
theorem dX11_ask_11 : decode cX11_ask 11 = .ok (.aload_n 0, 1) := by decide +kernel
theorem dX11_ask_12 : decode cX11_ask 12 = .ok (.getfield 49, 3) := by decide +kernel
theorem dX11_ask_15 : decode cX11_ask 15 = .ok (.invokevirtual 270, 3) := by decide +kernel
theorem dX11_ask_18 : decode cX11_ask 18 = .ok (.ifCond .eq 6, 3) := by decide +kernel
theorem dX11_ask_21 : decode cX11_ask 21 = .ok (.bipush (-2), 2) := by decide +kernel
theorem dX11_ask_23 : decode cX11_ask 23 = .ok (.ireturn, 1) := by decide +kernel
theorem dX11_ask_24 : decode cX11_ask 24 = .ok (.aload_n 0, 1) := by decide +kernel
theorem dX11_ask_25 : decode cX11_ask 25 = .ok (.getfield 49, 3) := by decide +kernel
theorem dX11_ask_28 : decode cX11_ask 28 = .ok (.aload_n 0, 1) := by decide +kernel
theorem dX11_ask_29 : decode cX11_ask 29 = .ok (.getfield 10, 3) := by decide +kernel
theorem dX11_ask_32 : decode cX11_ask 32 = .ok (.iload_n 1, 1) := by decide +kernel
theorem dX11_ask_33 : decode cX11_ask 33 = .ok (.iload_n 2, 1) := by decide +kernel
theorem dX11_ask_34 : decode cX11_ask 34 = .ok (.aload_n 0, 1) := by decide +kernel
theorem dX11_ask_35 : decode cX11_ask 35 = .ok (.getfield 76, 3) := by decide +kernel
theorem dX11_ask_38 : decode cX11_ask 38 = .ok (.invokevirtual 271, 3) := by decide +kernel
theorem dX11_ask_41 : decode cX11_ask 41 = .ok (.istore_n 3, 1) := by decide +kernel
theorem dX11_ask_42 : decode cX11_ask 42 = .ok (.aload_n 0, 1) := by decide +kernel
theorem dX11_ask_43 : decode cX11_ask 43 = .ok (.getfield 10, 3) := by decide +kernel
theorem dX11_ask_46 : decode cX11_ask 46 = .ok (.invokevirtual 134, 3) := by decide +kernel
theorem dX11_ask_49 : decode cX11_ask 49 = .ok (.iload_n 3, 1) := by decide +kernel
theorem dX11_ask_50 : decode cX11_ask 50 = .ok (.ireturn, 1) := by decide +kernel
theorem dX11_answered_0 : decode cX11_answered 0 = .ok (.aload_n 0, 1) := by decide +kernel
theorem dX11_answered_1 : decode cX11_answered 1 = .ok (.getfield 49, 3) := by decide +kernel
theorem dX11_answered_4 : decode cX11_answered 4 = .ok (.iload_n 1, 1) := by decide +kernel
theorem dX11_answered_5 : decode cX11_answered 5 = .ok (.iload_n 2, 1) := by decide +kernel
theorem dX11_answered_6 : decode cX11_answered 6 = .ok (.invokevirtual 274, 3) := by decide +kernel
theorem dX11_answered_9 : decode cX11_answered 9 = .ok (.ireturn, 1) := by decide +kernel
theorem dX11_juror_0 : decode cX11_juror 0 = .ok (.aload_n 0, 1) := by decide +kernel
theorem dX11_juror_1 : decode cX11_juror 1 = .ok (.getfield 56, 3) := by decide +kernel
theorem dX11_juror_4 : decode cX11_juror 4 = .ok (.invokevirtual 277, 3) := by decide +kernel
theorem dX11_juror_7 : decode cX11_juror 7 = .ok (.ireturn, 1) := by decide +kernel
theorem dX11_knows_0 : decode cX11_knows 0 = .ok (.aload_n 0, 1) := by decide +kernel
theorem dX11_knows_1 : decode cX11_knows 1 = .ok (.getfield 56, 3) := by decide +kernel
theorem dX11_knows_4 : decode cX11_knows 4 = .ok (.iload_n 1, 1) := by decide +kernel
theorem dX11_knows_5 : decode cX11_knows 5 = .ok (.invokevirtual 279, 3) := by decide +kernel
theorem dX11_knows_8 : decode cX11_knows 8 = .ok (.ifCond .eq 17, 3) := by decide +kernel
theorem dX11_knows_11 : decode cX11_knows 11 = .ok (.iload_n 2, 1) := by decide +kernel
theorem dX11_knows_12 : decode cX11_knows 12 = .ok (.invokestatic 188, 3) := by decide +kernel
theorem dX11_knows_15 : decode cX11_knows 15 = .ok (.ifCond .eq 10, 3) := by decide +kernel
theorem dX11_knows_18 : decode cX11_knows 18 = .ok (.iload_n 3, 1) := by decide +kernel
theorem dX11_knows_19 : decode cX11_knows 19 = .ok (.invokestatic 145, 3) := by decide +kernel
theorem dX11_knows_22 : decode cX11_knows 22 = .ok (.ifCond .ne 5, 3) := by decide +kernel
theorem dX11_knows_25 : decode cX11_knows 25 = .ok (.iconst 0, 1) := by decide +kernel
theorem dX11_knows_26 : decode cX11_knows 26 = .ok (.ireturn, 1) := by decide +kernel
theorem dX11_knows_27 : decode cX11_knows 27 = .ok (.aload_n 0, 1) := by decide +kernel
theorem dX11_knows_28 : decode cX11_knows 28 = .ok (.getfield 56, 3) := by decide +kernel
theorem dX11_knows_31 : decode cX11_knows 31 = .ok (.iload_n 1, 1) := by decide +kernel
theorem dX11_knows_32 : decode cX11_knows 32 = .ok (.iload_n 2, 1) := by decide +kernel
theorem dX11_knows_33 : decode cX11_knows 33 = .ok (.iload_n 3, 1) := by decide +kernel
theorem dX11_knows_34 : decode cX11_knows 34 = .ok (.invokevirtual 282, 3) := by decide +kernel
theorem dX11_knows_37 : decode cX11_knows 37 = .ok (.iconst 1, 1) := by decide +kernel
theorem dX11_knows_38 : decode cX11_knows 38 = .ok (.ireturn, 1) := by decide +kernel
theorem dX11_roundAt_0 : decode cX11_roundAt 0 = .ok (.iload_n 1, 1) := by decide +kernel
theorem dX11_roundAt_1 : decode cX11_roundAt 1 = .ok (.iconst 1, 1) := by decide +kernel
theorem dX11_roundAt_2 : decode cX11_roundAt 2 = .ok (.if_icmp .lt 24, 3) := by decide +kernel
theorem dX11_roundAt_5 : decode cX11_roundAt 5 = .ok (.iload_n 1, 1) := by decide +kernel
theorem dX11_roundAt_6 : decode cX11_roundAt 6 = .ok (.iconst 2, 1) := by decide +kernel
theorem dX11_roundAt_7 : decode cX11_roundAt 7 = .ok (.if_icmp .gt 19, 3) := by decide +kernel
theorem dX11_roundAt_10 : decode cX11_roundAt 10 = .ok (.iload_n 1, 1) := by decide +kernel
theorem dX11_roundAt_11 : decode cX11_roundAt 11 = .ok (.aload_n 0, 1) := by decide +kernel
theorem dX11_roundAt_12 : decode cX11_roundAt 12 = .ok (.getfield 93, 3) := by decide +kernel
theorem dX11_roundAt_15 : decode cX11_roundAt 15 = .ok (.if_icmp .le 13, 3) := by decide +kernel
theorem dX11_roundAt_18 : decode cX11_roundAt 18 = .ok (.iload_n 1, 1) := by decide +kernel
theorem dX11_roundAt_19 : decode cX11_roundAt 19 = .ok (.aload_n 0, 1) := by decide +kernel
theorem dX11_roundAt_20 : decode cX11_roundAt 20 = .ok (.getfield 90, 3) := by decide +kernel
theorem dX11_roundAt_23 : decode cX11_roundAt 23 = .ok (.if_icmp .eq 5, 3) := by decide +kernel
theorem dX11_roundAt_26 : decode cX11_roundAt 26 = .ok (.aconst_null, 1) := by decide +kernel
theorem dX11_roundAt_27 : decode cX11_roundAt 27 = .ok (.areturn, 1) := by decide +kernel
theorem dX11_roundAt_28 : decode cX11_roundAt 28 = .ok (.iload_n 1, 1) := by decide +kernel
theorem dX11_roundAt_29 : decode cX11_roundAt 29 = .ok (.iconst 1, 1) := by decide +kernel
theorem dX11_roundAt_30 : decode cX11_roundAt 30 = .ok (.if_icmp .ne 10, 3) := by decide +kernel
theorem dX11_roundAt_33 : decode cX11_roundAt 33 = .ok (.aload_n 0, 1) := by decide +kernel
theorem dX11_roundAt_34 : decode cX11_roundAt 34 = .ok (.getfield 69, 3) := by decide +kernel
theorem dX11_roundAt_37 : decode cX11_roundAt 37 = .ok (.goto 7, 3) := by decide +kernel
theorem dX11_roundAt_40 : decode cX11_roundAt 40 = .ok (.aload_n 0, 1) := by decide +kernel
theorem dX11_roundAt_41 : decode cX11_roundAt 41 = .ok (.getfield 73, 3) := by decide +kernel
theorem dX11_roundAt_44 : decode cX11_roundAt 44 = .ok (.astore_n 2, 1) := by decide +kernel
theorem dX11_roundAt_45 : decode cX11_roundAt 45 = .ok (.iload_n 1, 1) := by decide +kernel
theorem dX11_roundAt_46 : decode cX11_roundAt 46 = .ok (.aload_n 0, 1) := by decide +kernel
theorem dX11_roundAt_47 : decode cX11_roundAt 47 = .ok (.getfield 90, 3) := by decide +kernel
theorem dX11_roundAt_50 : decode cX11_roundAt 50 = .ok (.if_icmp .ne 19, 3) := by decide +kernel
theorem dX11_roundAt_53 : decode cX11_roundAt 53 = .ok (.aload_n 2, 1) := by decide +kernel
theorem dX11_roundAt_54 : decode cX11_roundAt 54 = .ok (.aload_n 0, 1) := by decide +kernel
theorem dX11_roundAt_55 : decode cX11_roundAt 55 = .ok (.getfield 56, 3) := by decide +kernel
theorem dX11_roundAt_58 : decode cX11_roundAt 58 = .ok (.aload_n 0, 1) := by decide +kernel
theorem dX11_roundAt_59 : decode cX11_roundAt 59 = .ok (.getfield 62, 3) := by decide +kernel
theorem dX11_roundAt_62 : decode cX11_roundAt 62 = .ok (.aload_n 0, 1) := by decide +kernel
theorem dX11_roundAt_63 : decode cX11_roundAt 63 = .ok (.getfield 76, 3) := by decide +kernel
theorem dX11_roundAt_66 : decode cX11_roundAt 66 = .ok (.invokevirtual 300, 3) := by decide +kernel
theorem dX11_roundAt_69 : decode cX11_roundAt 69 = .ok (.aload_n 2, 1) := by decide +kernel
theorem dX11_roundAt_70 : decode cX11_roundAt 70 = .ok (.areturn, 1) := by decide +kernel
theorem dX11_marks_0 : decode cX11_marks 0 = .ok (.aload_n 0, 1) := by decide +kernel
theorem dX11_marks_1 : decode cX11_marks 1 = .ok (.getfield 90, 3) := by decide +kernel
theorem dX11_marks_4 : decode cX11_marks 4 = .ok (.ifCond .ne 7, 3) := by decide +kernel
theorem dX11_marks_7 : decode cX11_marks 7 = .ok (.aconst_null, 1) := by decide +kernel
theorem dX11_marks_8 : decode cX11_marks 8 = .ok (.goto 11, 3) := by decide +kernel
theorem dX11_marks_11 : decode cX11_marks 11 = .ok (.aload_n 0, 1) := by decide +kernel
theorem dX11_marks_12 : decode cX11_marks 12 = .ok (.aload_n 0, 1) := by decide +kernel
theorem dX11_marks_13 : decode cX11_marks 13 = .ok (.getfield 90, 3) := by decide +kernel
theorem dX11_marks_16 : decode cX11_marks 16 = .ok (.invokevirtual 286, 3) := by decide +kernel
theorem dX11_marks_19 : decode cX11_marks 19 = .ok (.astore 4, 2) := by decide +kernel
theorem dX11_marks_21 : decode cX11_marks 21 = .ok (.aload 4, 2) := by decide +kernel
theorem dX11_marks_23 : decode cX11_marks 23 = .ok (.ifnull 14, 3) := by decide +kernel
theorem dX11_marks_26 : decode cX11_marks 26 = .ok (.aload_n 0, 1) := by decide +kernel
theorem dX11_marks_27 : decode cX11_marks 27 = .ok (.getfield 56, 3) := by decide +kernel
theorem dX11_marks_30 : decode cX11_marks 30 = .ok (.iload_n 1, 1) := by decide +kernel
theorem dX11_marks_31 : decode cX11_marks 31 = .ok (.invokevirtual 279, 3) := by decide +kernel
theorem dX11_marks_34 : decode cX11_marks 34 = .ok (.ifCond .ne 5, 3) := by decide +kernel
theorem dX11_marks_37 : decode cX11_marks 37 = .ok (.iconst (-1), 1) := by decide +kernel
theorem dX11_marks_38 : decode cX11_marks 38 = .ok (.ireturn, 1) := by decide +kernel
theorem dX11_marks_39 : decode cX11_marks 39 = .ok (.aload 4, 2) := by decide +kernel
theorem dX11_marks_41 : decode cX11_marks 41 = .ok (.iload_n 1, 1) := by decide +kernel
theorem dX11_marks_42 : decode cX11_marks 42 = .ok (.lload_n 2, 1) := by decide +kernel
theorem dX11_marks_43 : decode cX11_marks 43 = .ok (.aload_n 0, 1) := by decide +kernel
theorem dX11_marks_44 : decode cX11_marks 44 = .ok (.getfield 83, 3) := by decide +kernel
theorem dX11_marks_47 : decode cX11_marks 47 = .ok (.invokevirtual 290, 3) := by decide +kernel
theorem dX11_marks_50 : decode cX11_marks 50 = .ok (.ireturn, 1) := by decide +kernel
theorem dX11_admitAllThatStand_0 : decode cX11_admitAllThatStand 0 = .ok (.iconst 0, 1) := by decide +kernel
theorem dX11_admitAllThatStand_1 : decode cX11_admitAllThatStand 1 = .ok (.istore_n 1, 1) := by decide +kernel
theorem dX11_admitAllThatStand_2 : decode cX11_admitAllThatStand 2 = .ok (.iload_n 1, 1) := by decide +kernel
theorem dX11_admitAllThatStand_3 : decode cX11_admitAllThatStand 3 = .ok (.aload_n 0, 1) := by decide +kernel
theorem dX11_admitAllThatStand_4 : decode cX11_admitAllThatStand 4 = .ok (.getfield 83, 3) := by decide +kernel
theorem dX11_admitAllThatStand_7 : decode cX11_admitAllThatStand 7 = .ok (.if_icmp .ge 55, 3) := by decide +kernel
theorem dX11_admitAllThatStand_10 : decode cX11_admitAllThatStand 10 = .ok (.aload_n 0, 1) := by decide +kernel
theorem dX11_admitAllThatStand_11 : decode cX11_admitAllThatStand 11 = .ok (.iload_n 1, 1) := by decide +kernel
theorem dX11_admitAllThatStand_12 : decode cX11_admitAllThatStand 12 = .ok (.invokevirtual 193, 3) := by decide +kernel
theorem dX11_admitAllThatStand_15 : decode cX11_admitAllThatStand 15 = .ok (.astore_n 2, 1) := by decide +kernel
theorem dX11_admitAllThatStand_16 : decode cX11_admitAllThatStand 16 = .ok (.aload_n 2, 1) := by decide +kernel
theorem dX11_admitAllThatStand_17 : decode cX11_admitAllThatStand 17 = .ok (.ifnull 39, 3) := by decide +kernel
theorem dX11_admitAllThatStand_20 : decode cX11_admitAllThatStand 20 = .ok (.aload_n 2, 1) := by decide +kernel
theorem dX11_admitAllThatStand_21 : decode cX11_admitAllThatStand 21 = .ok (.invokevirtual 197, 3) := by decide +kernel
theorem dX11_admitAllThatStand_24 : decode cX11_admitAllThatStand 24 = .ok (.ifCond .eq 32, 3) := by decide +kernel
theorem dX11_admitAllThatStand_27 : decode cX11_admitAllThatStand 27 = .ok (.aload_n 0, 1) := by decide +kernel
theorem dX11_admitAllThatStand_28 : decode cX11_admitAllThatStand 28 = .ok (.getfield 42, 3) := by decide +kernel
theorem dX11_admitAllThatStand_31 : decode cX11_admitAllThatStand 31 = .ok (.aload_n 2, 1) := by decide +kernel
theorem dX11_admitAllThatStand_32 : decode cX11_admitAllThatStand 32 = .ok (.aload_n 0, 1) := by decide +kernel
theorem dX11_admitAllThatStand_33 : decode cX11_admitAllThatStand 33 = .ok (.aload_n 2, 1) := by decide +kernel
theorem dX11_admitAllThatStand_34 : decode cX11_admitAllThatStand 34 = .ok (.invokevirtual 238, 3) := by decide +kernel
theorem dX11_admitAllThatStand_37 : decode cX11_admitAllThatStand 37 = .ok (.aload_n 0, 1) := by decide +kernel
theorem dX11_admitAllThatStand_38 : decode cX11_admitAllThatStand 38 = .ok (.getfield 76, 3) := by decide +kernel
theorem dX11_admitAllThatStand_41 : decode cX11_admitAllThatStand 41 = .ok (.invokevirtual 242, 3) := by decide +kernel
theorem dX11_admitAllThatStand_44 : decode cX11_admitAllThatStand 44 = .ok (.iconst (-1), 1) := by decide +kernel
theorem dX11_admitAllThatStand_45 : decode cX11_admitAllThatStand 45 = .ok (.if_icmp .ne 11, 3) := by decide +kernel
theorem dX11_admitAllThatStand_48 : decode cX11_admitAllThatStand 48 = .ok (.aload_n 0, 1) := by decide +kernel
theorem dX11_admitAllThatStand_49 : decode cX11_admitAllThatStand 49 = .ok (.getfield 69, 3) := by decide +kernel
theorem dX11_admitAllThatStand_52 : decode cX11_admitAllThatStand 52 = .ok (.iload_n 1, 1) := by decide +kernel
theorem dX11_admitAllThatStand_53 : decode cX11_admitAllThatStand 53 = .ok (.invokevirtual 352, 3) := by decide +kernel
theorem dX11_admitAllThatStand_56 : decode cX11_admitAllThatStand 56 = .ok (.iinc 1 1, 3) := by decide +kernel
theorem dX11_admitAllThatStand_59 : decode cX11_admitAllThatStand 59 = .ok (.goto (-57), 3) := by decide +kernel
theorem dX11_admitAllThatStand_62 : decode cX11_admitAllThatStand 62 = .ok (.return_, 1) := by decide +kernel
theorem dX11_open_0 : decode cX11_open 0 = .ok (.aload_n 0, 1) := by decide +kernel
theorem dX11_open_1 : decode cX11_open 1 = .ok (.getfield 90, 3) := by decide +kernel
theorem dX11_open_4 : decode cX11_open 4 = .ok (.ifCond .ne 11, 3) := by decide +kernel
theorem dX11_open_7 : decode cX11_open 7 = .ok (.aload_n 0, 1) := by decide +kernel
theorem dX11_open_8 : decode cX11_open 8 = .ok (.getfield 93, 3) := by decide +kernel
theorem dX11_open_11 : decode cX11_open 11 = .ok (.iconst 2, 1) := by decide +kernel
theorem dX11_open_12 : decode cX11_open 12 = .ok (.if_icmp .lt 5, 3) := by decide +kernel
theorem dX11_open_15 : decode cX11_open 15 = .ok (.iconst (-1), 1) := by decide +kernel
theorem dX11_open_16 : decode cX11_open 16 = .ok (.ireturn, 1) := by decide +kernel
theorem dX11_open_17 : decode cX11_open 17 = .ok (.aload_n 0, 1) := by decide +kernel
theorem dX11_open_18 : decode cX11_open 18 = .ok (.getfield 93, 3) := by decide +kernel
theorem dX11_open_21 : decode cX11_open 21 = .ok (.ifCond .ne 7, 3) := by decide +kernel
theorem dX11_open_24 : decode cX11_open 24 = .ok (.aload_n 0, 1) := by decide +kernel
theorem dX11_open_25 : decode cX11_open 25 = .ok (.invokevirtual 294, 3) := by decide +kernel
theorem dX11_open_28 : decode cX11_open 28 = .ok (.aload_n 0, 1) := by decide +kernel
theorem dX11_open_29 : decode cX11_open 29 = .ok (.getfield 93, 3) := by decide +kernel
theorem dX11_open_32 : decode cX11_open 32 = .ok (.ifCond .ne 10, 3) := by decide +kernel
theorem dX11_open_35 : decode cX11_open 35 = .ok (.aload_n 0, 1) := by decide +kernel
theorem dX11_open_36 : decode cX11_open 36 = .ok (.getfield 69, 3) := by decide +kernel
theorem dX11_open_39 : decode cX11_open 39 = .ok (.goto 7, 3) := by decide +kernel
theorem dX11_open_42 : decode cX11_open 42 = .ok (.aload_n 0, 1) := by decide +kernel
theorem dX11_open_43 : decode cX11_open 43 = .ok (.getfield 73, 3) := by decide +kernel
theorem dX11_open_46 : decode cX11_open 46 = .ok (.astore_n 1, 1) := by decide +kernel
theorem dX11_open_47 : decode cX11_open 47 = .ok (.aload_n 1, 1) := by decide +kernel
theorem dX11_open_48 : decode cX11_open 48 = .ok (.getfield 297, 3) := by decide +kernel
theorem dX11_open_51 : decode cX11_open 51 = .ok (.ifCond .ne 5, 3) := by decide +kernel
theorem dX11_open_54 : decode cX11_open 54 = .ok (.iconst (-1), 1) := by decide +kernel
theorem dX11_open_55 : decode cX11_open 55 = .ok (.ireturn, 1) := by decide +kernel
theorem dX11_open_56 : decode cX11_open 56 = .ok (.aload_n 0, 1) := by decide +kernel
theorem dX11_open_57 : decode cX11_open 57 = .ok (.aload_n 0, 1) := by decide +kernel
theorem dX11_open_58 : decode cX11_open 58 = .ok (.getfield 93, 3) := by decide +kernel
theorem dX11_open_61 : decode cX11_open 61 = .ok (.iconst 1, 1) := by decide +kernel
theorem dX11_open_62 : decode cX11_open 62 = .ok (.iadd, 1) := by decide +kernel
theorem dX11_open_63 : decode cX11_open 63 = .ok (.putfield 90, 3) := by decide +kernel
theorem dX11_open_66 : decode cX11_open 66 = .ok (.aload_n 1, 1) := by decide +kernel
theorem dX11_open_67 : decode cX11_open 67 = .ok (.getfield 297, 3) := by decide +kernel
theorem dX11_open_70 : decode cX11_open 70 = .ok (.ireturn, 1) := by decide +kernel
theorem dX11_close_0 : decode cX11_close 0 = .ok (.aload_n 0, 1) := by decide +kernel
theorem dX11_close_1 : decode cX11_close 1 = .ok (.getfield 90, 3) := by decide +kernel
theorem dX11_close_4 : decode cX11_close 4 = .ok (.ifCond .ne 5, 3) := by decide +kernel
theorem dX11_close_7 : decode cX11_close 7 = .ok (.iconst (-1), 1) := by decide +kernel
theorem dX11_close_8 : decode cX11_close 8 = .ok (.ireturn, 1) := by decide +kernel
theorem dX11_close_9 : decode cX11_close 9 = .ok (.aload_n 0, 1) := by decide +kernel
theorem dX11_close_10 : decode cX11_close 10 = .ok (.getfield 90, 3) := by decide +kernel
theorem dX11_close_13 : decode cX11_close 13 = .ok (.iconst 1, 1) := by decide +kernel
theorem dX11_close_14 : decode cX11_close 14 = .ok (.if_icmp .ne 10, 3) := by decide +kernel
theorem dX11_close_17 : decode cX11_close 17 = .ok (.aload_n 0, 1) := by decide +kernel
theorem dX11_close_18 : decode cX11_close 18 = .ok (.getfield 69, 3) := by decide +kernel
theorem dX11_close_21 : decode cX11_close 21 = .ok (.goto 7, 3) := by decide +kernel
theorem dX11_close_24 : decode cX11_close 24 = .ok (.aload_n 0, 1) := by decide +kernel
theorem dX11_close_25 : decode cX11_close 25 = .ok (.getfield 73, 3) := by decide +kernel
theorem dX11_close_28 : decode cX11_close 28 = .ok (.astore_n 1, 1) := by decide +kernel
theorem dX11_close_29 : decode cX11_close 29 = .ok (.aload_n 0, 1) := by decide +kernel
theorem dX11_close_30 : decode cX11_close 30 = .ok (.getfield 26, 3) := by decide +kernel
theorem dX11_close_33 : decode cX11_close 33 = .ok (.aload_n 0, 1) := by decide +kernel
theorem dX11_close_34 : decode cX11_close 34 = .ok (.getfield 76, 3) := by decide +kernel
theorem dX11_close_37 : decode cX11_close 37 = .ok (.invokevirtual 152, 3) := by decide +kernel
theorem dX11_close_40 : decode cX11_close 40 = .ok (.astore_n 2, 1) := by decide +kernel
theorem dX11_close_41 : decode cX11_close 41 = .ok (.aload_n 1, 1) := by decide +kernel
theorem dX11_close_42 : decode cX11_close 42 = .ok (.aload_n 0, 1) := by decide +kernel
