theorem dX12_isKept_61 : decode cX12_isKept 61 = .ok (.ifCond .eq 59, 3) := by decide +kernel
theorem dX12_isKept_64 : decode cX12_isKept 64 = .ok (.lload_n 0, 1) := by decide +kernel
theorem dX12_isKept_65 : decode cX12_isKept 65 = .ok (.ldc2_w 308, 3) := by decide +kernel
theorem dX12_isKept_68 : decode cX12_isKept 68 = .ok (.lcmp, 1) := by decide +kernel
theorem dX12_isKept_69 : decode cX12_isKept 69 = .ok (.ifCond .eq 51, 3) := by decide +kernel
theorem dX12_isKept_72 : decode cX12_isKept 72 = .ok (.lload_n 0, 1) := by decide +kernel
theorem dX12_isKept_73 : decode cX12_isKept 73 = .ok (.ldc2_w 310, 3) := by decide +kernel
theorem dX12_isKept_76 : decode cX12_isKept 76 = .ok (.lcmp, 1) := by decide +kernel
theorem dX12_isKept_77 : decode cX12_isKept 77 = .ok (.ifCond .eq 43, 3) := by decide +kernel
theorem dX12_isKept_80 : decode cX12_isKept 80 = .ok (.lload_n 0, 1) := by decide +kernel
theorem dX12_isKept_81 : decode cX12_isKept 81 = .ok (.ldc2_w 312, 3) := by decide +kernel
theorem dX12_isKept_84 : decode cX12_isKept 84 = .ok (.lcmp, 1) := by decide +kernel
theorem dX12_isKept_85 : decode cX12_isKept 85 = .ok (.ifCond .eq 35, 3) := by decide +kernel
theorem dX12_isKept_88 : decode cX12_isKept 88 = .ok (.lload_n 0, 1) := by decide +kernel
theorem dX12_isKept_89 : decode cX12_isKept 89 = .ok (.ldc2_w 278, 3) := by decide +kernel
theorem dX12_isKept_92 : decode cX12_isKept 92 = .ok (.lcmp, 1) := by decide +kernel
theorem dX12_isKept_93 : decode cX12_isKept 93 = .ok (.ifCond .eq 27, 3) := by decide +kernel
theorem dX12_isKept_96 : decode cX12_isKept 96 = .ok (.lload_n 0, 1) := by decide +kernel
theorem dX12_isKept_97 : decode cX12_isKept 97 = .ok (.ldc2_w 314, 3) := by decide +kernel
theorem dX12_isKept_100 : decode cX12_isKept 100 = .ok (.lcmp, 1) := by decide +kernel
theorem dX12_isKept_101 : decode cX12_isKept 101 = .ok (.ifCond .eq 19, 3) := by decide +kernel
theorem dX12_isKept_104 : decode cX12_isKept 104 = .ok (.lload_n 0, 1) := by decide +kernel
theorem dX12_isKept_105 : decode cX12_isKept 105 = .ok (.ldc2_w 316, 3) := by decide +kernel
theorem dX12_isKept_108 : decode cX12_isKept 108 = .ok (.lcmp, 1) := by decide +kernel
theorem dX12_isKept_109 : decode cX12_isKept 109 = .ok (.ifCond .eq 11, 3) := by decide +kernel
theorem dX12_isKept_112 : decode cX12_isKept 112 = .ok (.lload_n 0, 1) := by decide +kernel
theorem dX12_isKept_113 : decode cX12_isKept 113 = .ok (.ldc2_w 318, 3) := by decide +kernel
theorem dX12_isKept_116 : decode cX12_isKept 116 = .ok (.lcmp, 1) := by decide +kernel
theorem dX12_isKept_117 : decode cX12_isKept 117 = .ok (.ifCond .ne 7, 3) := by decide +kernel
theorem dX12_isKept_120 : decode cX12_isKept 120 = .ok (.iconst 1, 1) := by decide +kernel
theorem dX12_isKept_121 : decode cX12_isKept 121 = .ok (.goto 4, 3) := by decide +kernel
theorem dX12_isKept_124 : decode cX12_isKept 124 = .ok (.iconst 0, 1) := by decide +kernel
theorem dX12_isKept_125 : decode cX12_isKept 125 = .ok (.istore_n 2, 1) := by decide +kernel
theorem dX12_isKept_126 : decode cX12_isKept 126 = .ok (.iload_n 2, 1) := by decide +kernel
theorem dX12_isKept_127 : decode cX12_isKept 127 = .ok (.ifCond .ne 115, 3) := by decide +kernel
theorem dX12_isKept_130 : decode cX12_isKept 130 = .ok (.lload_n 0, 1) := by decide +kernel
theorem dX12_isKept_131 : decode cX12_isKept 131 = .ok (.ldc2_w 320, 3) := by decide +kernel
theorem dX12_isKept_134 : decode cX12_isKept 134 = .ok (.lcmp, 1) := by decide +kernel
theorem dX12_isKept_135 : decode cX12_isKept 135 = .ok (.ifCond .eq 107, 3) := by decide +kernel
theorem dX12_isKept_138 : decode cX12_isKept 138 = .ok (.lload_n 0, 1) := by decide +kernel
theorem dX12_isKept_139 : decode cX12_isKept 139 = .ok (.ldc2_w 322, 3) := by decide +kernel
theorem dX12_isKept_142 : decode cX12_isKept 142 = .ok (.lcmp, 1) := by decide +kernel
theorem dX12_isKept_143 : decode cX12_isKept 143 = .ok (.ifCond .eq 99, 3) := by decide +kernel
theorem dX12_isKept_146 : decode cX12_isKept 146 = .ok (.lload_n 0, 1) := by decide +kernel
theorem dX12_isKept_147 : decode cX12_isKept 147 = .ok (.ldc2_w 324, 3) := by decide +kernel
theorem dX12_isKept_150 : decode cX12_isKept 150 = .ok (.lcmp, 1) := by decide +kernel
theorem dX12_isKept_151 : decode cX12_isKept 151 = .ok (.ifCond .eq 91, 3) := by decide +kernel
theorem dX12_isKept_154 : decode cX12_isKept 154 = .ok (.lload_n 0, 1) := by decide +kernel
theorem dX12_isKept_155 : decode cX12_isKept 155 = .ok (.ldc2_w 326, 3) := by decide +kernel
theorem dX12_isKept_158 : decode cX12_isKept 158 = .ok (.lcmp, 1) := by decide +kernel
theorem dX12_isKept_159 : decode cX12_isKept 159 = .ok (.ifCond .eq 83, 3) := by decide +kernel
theorem dX12_isKept_162 : decode cX12_isKept 162 = .ok (.lload_n 0, 1) := by decide +kernel
theorem dX12_isKept_163 : decode cX12_isKept 163 = .ok (.ldc2_w 328, 3) := by decide +kernel
theorem dX12_isKept_166 : decode cX12_isKept 166 = .ok (.lcmp, 1) := by decide +kernel
theorem dX12_isKept_167 : decode cX12_isKept 167 = .ok (.ifCond .eq 75, 3) := by decide +kernel
theorem dX12_isKept_170 : decode cX12_isKept 170 = .ok (.lload_n 0, 1) := by decide +kernel
theorem dX12_isKept_171 : decode cX12_isKept 171 = .ok (.ldc2_w 330, 3) := by decide +kernel
theorem dX12_isKept_174 : decode cX12_isKept 174 = .ok (.lcmp, 1) := by decide +kernel
theorem dX12_isKept_175 : decode cX12_isKept 175 = .ok (.ifCond .eq 67, 3) := by decide +kernel
theorem dX12_isKept_178 : decode cX12_isKept 178 = .ok (.lload_n 0, 1) := by decide +kernel
theorem dX12_isKept_179 : decode cX12_isKept 179 = .ok (.ldc2_w 332, 3) := by decide +kernel
theorem dX12_isKept_182 : decode cX12_isKept 182 = .ok (.lcmp, 1) := by decide +kernel
theorem dX12_isKept_183 : decode cX12_isKept 183 = .ok (.ifCond .eq 59, 3) := by decide +kernel
theorem dX12_isKept_186 : decode cX12_isKept 186 = .ok (.lload_n 0, 1) := by decide +kernel
theorem dX12_isKept_187 : decode cX12_isKept 187 = .ok (.ldc2_w 334, 3) := by decide +kernel
theorem dX12_isKept_190 : decode cX12_isKept 190 = .ok (.lcmp, 1) := by decide +kernel
theorem dX12_isKept_191 : decode cX12_isKept 191 = .ok (.ifCond .eq 51, 3) := by decide +kernel
theorem dX12_isKept_194 : decode cX12_isKept 194 = .ok (.lload_n 0, 1) := by decide +kernel
theorem dX12_isKept_195 : decode cX12_isKept 195 = .ok (.ldc2_w 336, 3) := by decide +kernel
theorem dX12_isKept_198 : decode cX12_isKept 198 = .ok (.lcmp, 1) := by decide +kernel
theorem dX12_isKept_199 : decode cX12_isKept 199 = .ok (.ifCond .eq 43, 3) := by decide +kernel
theorem dX12_isKept_202 : decode cX12_isKept 202 = .ok (.lload_n 0, 1) := by decide +kernel
theorem dX12_isKept_203 : decode cX12_isKept 203 = .ok (.ldc2_w 338, 3) := by decide +kernel
theorem dX12_isKept_206 : decode cX12_isKept 206 = .ok (.lcmp, 1) := by decide +kernel
theorem dX12_isKept_207 : decode cX12_isKept 207 = .ok (.ifCond .eq 35, 3) := by decide +kernel
theorem dX12_isKept_210 : decode cX12_isKept 210 = .ok (.lload_n 0, 1) := by decide +kernel
theorem dX12_isKept_211 : decode cX12_isKept 211 = .ok (.ldc2_w 340, 3) := by decide +kernel
theorem dX12_isKept_214 : decode cX12_isKept 214 = .ok (.lcmp, 1) := by decide +kernel
theorem dX12_isKept_215 : decode cX12_isKept 215 = .ok (.ifCond .eq 27, 3) := by decide +kernel
theorem dX12_isKept_218 : decode cX12_isKept 218 = .ok (.lload_n 0, 1) := by decide +kernel
theorem dX12_isKept_219 : decode cX12_isKept 219 = .ok (.ldc2_w 342, 3) := by decide +kernel
theorem dX12_isKept_222 : decode cX12_isKept 222 = .ok (.lcmp, 1) := by decide +kernel
theorem dX12_isKept_223 : decode cX12_isKept 223 = .ok (.ifCond .eq 19, 3) := by decide +kernel
theorem dX12_isKept_226 : decode cX12_isKept 226 = .ok (.lload_n 0, 1) := by decide +kernel
theorem dX12_isKept_227 : decode cX12_isKept 227 = .ok (.ldc2_w 344, 3) := by decide +kernel
theorem dX12_isKept_230 : decode cX12_isKept 230 = .ok (.lcmp, 1) := by decide +kernel
theorem dX12_isKept_231 : decode cX12_isKept 231 = .ok (.ifCond .eq 11, 3) := by decide +kernel
theorem dX12_isKept_234 : decode cX12_isKept 234 = .ok (.lload_n 0, 1) := by decide +kernel
theorem dX12_isKept_235 : decode cX12_isKept 235 = .ok (.ldc2_w 346, 3) := by decide +kernel
theorem dX12_isKept_238 : decode cX12_isKept 238 = .ok (.lcmp, 1) := by decide +kernel
theorem dX12_isKept_239 : decode cX12_isKept 239 = .ok (.ifCond .ne 7, 3) := by decide +kernel
theorem dX12_isKept_242 : decode cX12_isKept 242 = .ok (.iconst 1, 1) := by decide +kernel
theorem dX12_isKept_243 : decode cX12_isKept 243 = .ok (.goto 4, 3) := by decide +kernel
theorem dX12_isKept_246 : decode cX12_isKept 246 = .ok (.iconst 0, 1) := by decide +kernel
theorem dX12_isKept_247 : decode cX12_isKept 247 = .ok (.istore_n 2, 1) := by decide +kernel
theorem dX12_isKept_248 : decode cX12_isKept 248 = .ok (.iload_n 2, 1) := by decide +kernel
theorem dX12_isKept_249 : decode cX12_isKept 249 = .ok (.ifCond .ne 11, 3) := by decide +kernel
theorem dX12_isKept_252 : decode cX12_isKept 252 = .ok (.lload_n 0, 1) := by decide +kernel
theorem dX12_isKept_253 : decode cX12_isKept 253 = .ok (.invokestatic 348, 3) := by decide +kernel
theorem dX12_isKept_256 : decode cX12_isKept 256 = .ok (.iconst (-1), 1) := by decide +kernel
theorem dX12_isKept_257 : decode cX12_isKept 257 = .ok (.if_icmp .eq 7, 3) := by decide +kernel
theorem dX12_isKept_260 : decode cX12_isKept 260 = .ok (.iconst 1, 1) := by decide +kernel
theorem dX12_isKept_261 : decode cX12_isKept 261 = .ok (.goto 4, 3) := by decide +kernel
theorem dX12_isKept_264 : decode cX12_isKept 264 = .ok (.iconst 0, 1) := by decide +kernel
theorem dX12_isKept_265 : decode cX12_isKept 265 = .ok (.ireturn, 1) := by decide +kernel
theorem dX12_takesNew_0 : decode cX12_takesNew 0 = .ok (.aload_n 0, 1) := by decide +kernel
theorem dX12_takesNew_1 : decode cX12_takesNew 1 = .ok (.invokevirtual 262, 3) := by decide +kernel
theorem dX12_takesNew_4 : decode cX12_takesNew 4 = .ok (.lstore_n 1, 1) := by decide +kernel
theorem dX12_takesNew_5 : decode cX12_takesNew 5 = .ok (.lload_n 1, 1) := by decide +kernel
theorem dX12_takesNew_6 : decode cX12_takesNew 6 = .ok (.lconst 0, 1) := by decide +kernel
theorem dX12_takesNew_7 : decode cX12_takesNew 7 = .ok (.lcmp, 1) := by decide +kernel
theorem dX12_takesNew_8 : decode cX12_takesNew 8 = .ok (.ifCond .eq 10, 3) := by decide +kernel
theorem dX12_takesNew_11 : decode cX12_takesNew 11 = .ok (.lload_n 1, 1) := by decide +kernel
theorem dX12_takesNew_12 : decode cX12_takesNew 12 = .ok (.invokestatic 352, 3) := by decide +kernel
theorem dX12_takesNew_15 : decode cX12_takesNew 15 = .ok (.ifCond .eq 5, 3) := by decide +kernel
theorem dX12_takesNew_18 : decode cX12_takesNew 18 = .ok (.iconst 0, 1) := by decide +kernel
theorem dX12_takesNew_19 : decode cX12_takesNew 19 = .ok (.ireturn, 1) := by decide +kernel
theorem dX12_takesNew_20 : decode cX12_takesNew 20 = .ok (.aload_n 0, 1) := by decide +kernel
theorem dX12_takesNew_21 : decode cX12_takesNew 21 = .ok (.lload_n 1, 1) := by decide +kernel
theorem dX12_takesNew_22 : decode cX12_takesNew 22 = .ok (.invokevirtual 356, 3) := by decide +kernel
theorem dX12_takesNew_25 : decode cX12_takesNew 25 = .ok (.iconst (-1), 1) := by decide +kernel
theorem dX12_takesNew_26 : decode cX12_takesNew 26 = .ok (.if_icmp .ne 34, 3) := by decide +kernel
theorem dX12_takesNew_29 : decode cX12_takesNew 29 = .ok (.aload_n 0, 1) := by decide +kernel
theorem dX12_takesNew_30 : decode cX12_takesNew 30 = .ok (.getfield 273, 3) := by decide +kernel
theorem dX12_takesNew_33 : decode cX12_takesNew 33 = .ok (.bipush 12, 2) := by decide +kernel
theorem dX12_takesNew_35 : decode cX12_takesNew 35 = .ok (.if_icmp .ne 5, 3) := by decide +kernel
theorem dX12_takesNew_38 : decode cX12_takesNew 38 = .ok (.iconst 0, 1) := by decide +kernel
theorem dX12_takesNew_39 : decode cX12_takesNew 39 = .ok (.ireturn, 1) := by decide +kernel
theorem dX12_takesNew_40 : decode cX12_takesNew 40 = .ok (.aload_n 0, 1) := by decide +kernel
theorem dX12_takesNew_41 : decode cX12_takesNew 41 = .ok (.dup, 1) := by decide +kernel
theorem dX12_takesNew_42 : decode cX12_takesNew 42 = .ok (.getfield 273, 3) := by decide +kernel
theorem dX12_takesNew_45 : decode cX12_takesNew 45 = .ok (.iconst 1, 1) := by decide +kernel
theorem dX12_takesNew_46 : decode cX12_takesNew 46 = .ok (.iadd, 1) := by decide +kernel
theorem dX12_takesNew_47 : decode cX12_takesNew 47 = .ok (.putfield 273, 3) := by decide +kernel
theorem dX12_takesNew_50 : decode cX12_takesNew 50 = .ok (.aload_n 0, 1) := by decide +kernel
theorem dX12_takesNew_51 : decode cX12_takesNew 51 = .ok (.getfield 87, 3) := by decide +kernel
theorem dX12_takesNew_54 : decode cX12_takesNew 54 = .ok (.aload_n 0, 1) := by decide +kernel
theorem dX12_takesNew_55 : decode cX12_takesNew 55 = .ok (.getfield 273, 3) := by decide +kernel
theorem dX12_takesNew_58 : decode cX12_takesNew 58 = .ok (.lload_n 1, 1) := by decide +kernel
theorem dX12_takesNew_59 : decode cX12_takesNew 59 = .ok (.lastore, 1) := by decide +kernel
theorem dX12_takesNew_60 : decode cX12_takesNew 60 = .ok (.aload_n 0, 1) := by decide +kernel
theorem dX12_takesNew_61 : decode cX12_takesNew 61 = .ok (.aload_n 0, 1) := by decide +kernel
theorem dX12_takesNew_62 : decode cX12_takesNew 62 = .ok (.lload_n 1, 1) := by decide +kernel
theorem dX12_takesNew_63 : decode cX12_takesNew 63 = .ok (.invokevirtual 356, 3) := by decide +kernel
theorem dX12_takesNew_66 : decode cX12_takesNew 66 = .ok (.putfield 265, 3) := by decide +kernel
theorem dX12_takesNew_69 : decode cX12_takesNew 69 = .ok (.aload_n 0, 1) := by decide +kernel
theorem dX12_takesNew_70 : decode cX12_takesNew 70 = .ok (.dup, 1) := by decide +kernel
theorem dX12_takesNew_71 : decode cX12_takesNew 71 = .ok (.getfield 359, 3) := by decide +kernel
theorem dX12_takesNew_74 : decode cX12_takesNew 74 = .ok (.iconst 1, 1) := by decide +kernel
theorem dX12_takesNew_75 : decode cX12_takesNew 75 = .ok (.aload_n 0, 1) := by decide +kernel
theorem dX12_takesNew_76 : decode cX12_takesNew 76 = .ok (.getfield 265, 3) := by decide +kernel
theorem dX12_takesNew_79 : decode cX12_takesNew 79 = .ok (.ishl, 1) := by decide +kernel
theorem dX12_takesNew_80 : decode cX12_takesNew 80 = .ok (.ior, 1) := by decide +kernel
theorem dX12_takesNew_81 : decode cX12_takesNew 81 = .ok (.putfield 359, 3) := by decide +kernel
theorem dX12_takesNew_84 : decode cX12_takesNew 84 = .ok (.aload_n 0, 1) := by decide +kernel
theorem dX12_takesNew_85 : decode cX12_takesNew 85 = .ok (.aload_n 0, 1) := by decide +kernel
theorem dX12_takesNew_86 : decode cX12_takesNew 86 = .ok (.getfield 259, 3) := by decide +kernel
theorem dX12_takesNew_89 : decode cX12_takesNew 89 = .ok (.putfield 254, 3) := by decide +kernel
theorem dX12_takesNew_92 : decode cX12_takesNew 92 = .ok (.iconst 1, 1) := by decide +kernel
theorem dX12_takesNew_93 : decode cX12_takesNew 93 = .ok (.ireturn, 1) := by decide +kernel
theorem dX12_takesName_0 : decode cX12_takesName 0 = .ok (.aload_n 0, 1) := by decide +kernel
theorem dX12_takesName_1 : decode cX12_takesName 1 = .ok (.invokevirtual 262, 3) := by decide +kernel
theorem dX12_takesName_4 : decode cX12_takesName 4 = .ok (.lstore_n 1, 1) := by decide +kernel
theorem dX12_takesName_5 : decode cX12_takesName 5 = .ok (.lload_n 1, 1) := by decide +kernel
theorem dX12_takesName_6 : decode cX12_takesName 6 = .ok (.lconst 0, 1) := by decide +kernel
theorem dX12_takesName_7 : decode cX12_takesName 7 = .ok (.lcmp, 1) := by decide +kernel
theorem dX12_takesName_8 : decode cX12_takesName 8 = .ok (.ifCond .ne 7, 3) := by decide +kernel
theorem dX12_takesName_11 : decode cX12_takesName 11 = .ok (.iconst (-1), 1) := by decide +kernel
theorem dX12_takesName_12 : decode cX12_takesName 12 = .ok (.goto 8, 3) := by decide +kernel
theorem dX12_takesName_15 : decode cX12_takesName 15 = .ok (.aload_n 0, 1) := by decide +kernel
theorem dX12_takesName_16 : decode cX12_takesName 16 = .ok (.lload_n 1, 1) := by decide +kernel
theorem dX12_takesName_17 : decode cX12_takesName 17 = .ok (.invokevirtual 356, 3) := by decide +kernel
theorem dX12_takesName_20 : decode cX12_takesName 20 = .ok (.istore_n 3, 1) := by decide +kernel
theorem dX12_takesName_21 : decode cX12_takesName 21 = .ok (.iload_n 3, 1) := by decide +kernel
theorem dX12_takesName_22 : decode cX12_takesName 22 = .ok (.iconst (-1), 1) := by decide +kernel
theorem dX12_takesName_23 : decode cX12_takesName 23 = .ok (.if_icmp .eq 14, 3) := by decide +kernel
theorem dX12_takesName_26 : decode cX12_takesName 26 = .ok (.aload_n 0, 1) := by decide +kernel
theorem dX12_takesName_27 : decode cX12_takesName 27 = .ok (.getfield 359, 3) := by decide +kernel
theorem dX12_takesName_30 : decode cX12_takesName 30 = .ok (.iload_n 3, 1) := by decide +kernel
theorem dX12_takesName_31 : decode cX12_takesName 31 = .ok (.ishr, 1) := by decide +kernel
theorem dX12_takesName_32 : decode cX12_takesName 32 = .ok (.iconst 1, 1) := by decide +kernel
theorem dX12_takesName_33 : decode cX12_takesName 33 = .ok (.iand, 1) := by decide +kernel
theorem dX12_takesName_34 : decode cX12_takesName 34 = .ok (.ifCond .ne 5, 3) := by decide +kernel
theorem dX12_takesName_37 : decode cX12_takesName 37 = .ok (.iconst 0, 1) := by decide +kernel
theorem dX12_takesName_38 : decode cX12_takesName 38 = .ok (.ireturn, 1) := by decide +kernel
theorem dX12_takesName_39 : decode cX12_takesName 39 = .ok (.aload_n 0, 1) := by decide +kernel
theorem dX12_takesName_40 : decode cX12_takesName 40 = .ok (.iload_n 3, 1) := by decide +kernel
theorem dX12_takesName_41 : decode cX12_takesName 41 = .ok (.putfield 265, 3) := by decide +kernel
theorem dX12_takesName_44 : decode cX12_takesName 44 = .ok (.aload_n 0, 1) := by decide +kernel
theorem dX12_takesName_45 : decode cX12_takesName 45 = .ok (.aload_n 0, 1) := by decide +kernel
theorem dX12_takesName_46 : decode cX12_takesName 46 = .ok (.getfield 259, 3) := by decide +kernel
theorem dX12_takesName_49 : decode cX12_takesName 49 = .ok (.putfield 254, 3) := by decide +kernel
theorem dX12_takesName_52 : decode cX12_takesName 52 = .ok (.iconst 1, 1) := by decide +kernel
theorem dX12_takesName_53 : decode cX12_takesName 53 = .ok (.ireturn, 1) := by decide +kernel
theorem dX12_node_0 : decode cX12_node 0 = .ok (.aload_n 0, 1) := by decide +kernel
theorem dX12_node_1 : decode cX12_node 1 = .ok (.getfield 69, 3) := by decide +kernel
theorem dX12_node_4 : decode cX12_node 4 = .ok (.aload_n 0, 1) := by decide +kernel
theorem dX12_node_5 : decode cX12_node 5 = .ok (.getfield 362, 3) := by decide +kernel
theorem dX12_node_8 : decode cX12_node 8 = .ok (.iload_n 1, 1) := by decide +kernel
theorem dX12_node_9 : decode cX12_node 9 = .ok (.iastore, 1) := by decide +kernel
theorem dX12_node_10 : decode cX12_node 10 = .ok (.aload_n 0, 1) := by decide +kernel
theorem dX12_node_11 : decode cX12_node 11 = .ok (.getfield 72, 3) := by decide +kernel
theorem dX12_node_14 : decode cX12_node 14 = .ok (.aload_n 0, 1) := by decide +kernel
theorem dX12_node_15 : decode cX12_node 15 = .ok (.getfield 362, 3) := by decide +kernel
theorem dX12_node_18 : decode cX12_node 18 = .ok (.iconst (-1), 1) := by decide +kernel
theorem dX12_node_19 : decode cX12_node 19 = .ok (.iastore, 1) := by decide +kernel
theorem dX12_node_20 : decode cX12_node 20 = .ok (.aload_n 0, 1) := by decide +kernel
theorem dX12_node_21 : decode cX12_node 21 = .ok (.getfield 75, 3) := by decide +kernel
theorem dX12_node_24 : decode cX12_node 24 = .ok (.aload_n 0, 1) := by decide +kernel
theorem dX12_node_25 : decode cX12_node 25 = .ok (.getfield 362, 3) := by decide +kernel
theorem dX12_node_28 : decode cX12_node 28 = .ok (.iconst (-1), 1) := by decide +kernel
theorem dX12_node_29 : decode cX12_node 29 = .ok (.iastore, 1) := by decide +kernel
theorem dX12_node_30 : decode cX12_node 30 = .ok (.aload_n 0, 1) := by decide +kernel
theorem dX12_node_31 : decode cX12_node 31 = .ok (.dup, 1) := by decide +kernel
theorem dX12_node_32 : decode cX12_node 32 = .ok (.getfield 362, 3) := by decide +kernel
theorem dX12_node_35 : decode cX12_node 35 = .ok (.iconst 1, 1) := by decide +kernel
theorem dX12_node_36 : decode cX12_node 36 = .ok (.iadd, 1) := by decide +kernel
theorem dX12_node_37 : decode cX12_node 37 = .ok (.putfield 362, 3) := by decide +kernel
theorem dX12_node_40 : decode cX12_node 40 = .ok (.aload_n 0, 1) := by decide +kernel
theorem dX12_node_41 : decode cX12_node 41 = .ok (.getfield 362, 3) := by decide +kernel
theorem dX12_node_44 : decode cX12_node 44 = .ok (.iconst 1, 1) := by decide +kernel
theorem dX12_node_45 : decode cX12_node 45 = .ok (.isub, 1) := by decide +kernel
theorem dX12_node_46 : decode cX12_node 46 = .ok (.ireturn, 1) := by decide +kernel
theorem dX12_any_0 : decode cX12_any 0 = .ok (.aload_n 0, 1) := by decide +kernel
theorem dX12_any_1 : decode cX12_any 1 = .ok (.iconst 0, 1) := by decide +kernel
theorem dX12_any_2 : decode cX12_any 2 = .ok (.invokevirtual 365, 3) := by decide +kernel
theorem dX12_any_5 : decode cX12_any 5 = .ok (.istore_n 1, 1) := by decide +kernel
theorem dX12_any_6 : decode cX12_any 6 = .ok (.iconst (-1), 1) := by decide +kernel
theorem dX12_any_7 : decode cX12_any 7 = .ok (.istore_n 2, 1) := by decide +kernel
theorem dX12_any_8 : decode cX12_any 8 = .ok (.aload_n 0, 1) := by decide +kernel
theorem dX12_any_9 : decode cX12_any 9 = .ok (.invokevirtual 368, 3) := by decide +kernel
theorem dX12_any_12 : decode cX12_any 12 = .ok (.istore_n 3, 1) := by decide +kernel
theorem dX12_any_13 : decode cX12_any 13 = .ok (.iload_n 3, 1) := by decide +kernel
theorem dX12_any_14 : decode cX12_any 14 = .ok (.iconst (-1), 1) := by decide +kernel
theorem dX12_any_15 : decode cX12_any 15 = .ok (.if_icmp .ne 5, 3) := by decide +kernel
theorem dX12_any_18 : decode cX12_any 18 = .ok (.iconst (-1), 1) := by decide +kernel
theorem dX12_any_19 : decode cX12_any 19 = .ok (.ireturn, 1) := by decide +kernel
theorem dX12_any_20 : decode cX12_any 20 = .ok (.iload_n 2, 1) := by decide +kernel
theorem dX12_any_21 : decode cX12_any 21 = .ok (.iconst (-1), 1) := by decide +kernel
theorem dX12_any_22 : decode cX12_any 22 = .ok (.if_icmp .ne 13, 3) := by decide +kernel
theorem dX12_any_25 : decode cX12_any 25 = .ok (.aload_n 0, 1) := by decide +kernel
theorem dX12_any_26 : decode cX12_any 26 = .ok (.getfield 72, 3) := by decide +kernel
theorem dX12_any_29 : decode cX12_any 29 = .ok (.iload_n 1, 1) := by decide +kernel
theorem dX12_any_30 : decode cX12_any 30 = .ok (.iload_n 3, 1) := by decide +kernel
theorem dX12_any_31 : decode cX12_any 31 = .ok (.iastore, 1) := by decide +kernel
theorem dX12_any_32 : decode cX12_any 32 = .ok (.goto 10, 3) := by decide +kernel
theorem dX12_any_35 : decode cX12_any 35 = .ok (.aload_n 0, 1) := by decide +kernel
theorem dX12_any_36 : decode cX12_any 36 = .ok (.getfield 75, 3) := by decide +kernel
theorem dX12_any_39 : decode cX12_any 39 = .ok (.iload_n 2, 1) := by decide +kernel
theorem dX12_any_40 : decode cX12_any 40 = .ok (.iload_n 3, 1) := by decide +kernel
theorem dX12_any_41 : decode cX12_any 41 = .ok (.iastore, 1) := by decide +kernel
theorem dX12_any_42 : decode cX12_any 42 = .ok (.iload_n 3, 1) := by decide +kernel
theorem dX12_any_43 : decode cX12_any 43 = .ok (.istore_n 2, 1) := by decide +kernel
theorem dX12_any_44 : decode cX12_any 44 = .ok (.aload_n 0, 1) := by decide +kernel
theorem dX12_any_45 : decode cX12_any 45 = .ok (.ldc2_w 342, 3) := by decide +kernel
theorem dX12_any_48 : decode cX12_any 48 = .ok (.invokevirtual 372, 3) := by decide +kernel
theorem dX12_any_51 : decode cX12_any 51 = .ok (.ifCond .ne (-43), 3) := by decide +kernel
theorem dX12_any_54 : decode cX12_any 54 = .ok (.iload_n 1, 1) := by decide +kernel
theorem dX12_any_55 : decode cX12_any 55 = .ok (.ireturn, 1) := by decide +kernel
theorem dX12_all_0 : decode cX12_all 0 = .ok (.aload_n 0, 1) := by decide +kernel
theorem dX12_all_1 : decode cX12_all 1 = .ok (.iconst 1, 1) := by decide +kernel
theorem dX12_all_2 : decode cX12_all 2 = .ok (.invokevirtual 365, 3) := by decide +kernel
theorem dX12_all_5 : decode cX12_all 5 = .ok (.istore_n 1, 1) := by decide +kernel
theorem dX12_all_6 : decode cX12_all 6 = .ok (.iconst (-1), 1) := by decide +kernel
theorem dX12_all_7 : decode cX12_all 7 = .ok (.istore_n 2, 1) := by decide +kernel
theorem dX12_all_8 : decode cX12_all 8 = .ok (.aload_n 0, 1) := by decide +kernel
theorem dX12_all_9 : decode cX12_all 9 = .ok (.invokevirtual 375, 3) := by decide +kernel
theorem dX12_all_12 : decode cX12_all 12 = .ok (.istore_n 3, 1) := by decide +kernel
theorem dX12_all_13 : decode cX12_all 13 = .ok (.iload_n 3, 1) := by decide +kernel
theorem dX12_all_14 : decode cX12_all 14 = .ok (.iconst (-1), 1) := by decide +kernel
theorem dX12_all_15 : decode cX12_all 15 = .ok (.if_icmp .ne 5, 3) := by decide +kernel
theorem dX12_all_18 : decode cX12_all 18 = .ok (.iconst (-1), 1) := by decide +kernel
theorem dX12_all_19 : decode cX12_all 19 = .ok (.ireturn, 1) := by decide +kernel
theorem dX12_all_20 : decode cX12_all 20 = .ok (.iload_n 2, 1) := by decide +kernel
theorem dX12_all_21 : decode cX12_all 21 = .ok (.iconst (-1), 1) := by decide +kernel
theorem dX12_all_22 : decode cX12_all 22 = .ok (.if_icmp .ne 13, 3) := by decide +kernel
theorem dX12_all_25 : decode cX12_all 25 = .ok (.aload_n 0, 1) := by decide +kernel
theorem dX12_all_26 : decode cX12_all 26 = .ok (.getfield 72, 3) := by decide +kernel
theorem dX12_all_29 : decode cX12_all 29 = .ok (.iload_n 1, 1) := by decide +kernel
theorem dX12_all_30 : decode cX12_all 30 = .ok (.iload_n 3, 1) := by decide +kernel
theorem dX12_all_31 : decode cX12_all 31 = .ok (.iastore, 1) := by decide +kernel
theorem dX12_all_32 : decode cX12_all 32 = .ok (.goto 10, 3) := by decide +kernel
theorem dX12_all_35 : decode cX12_all 35 = .ok (.aload_n 0, 1) := by decide +kernel
theorem dX12_all_36 : decode cX12_all 36 = .ok (.getfield 75, 3) := by decide +kernel
theorem dX12_all_39 : decode cX12_all 39 = .ok (.iload_n 2, 1) := by decide +kernel
theorem dX12_all_40 : decode cX12_all 40 = .ok (.iload_n 3, 1) := by decide +kernel
theorem dX12_all_41 : decode cX12_all 41 = .ok (.iastore, 1) := by decide +kernel
theorem dX12_all_42 : decode cX12_all 42 = .ok (.iload_n 3, 1) := by decide +kernel
theorem dX12_all_43 : decode cX12_all 43 = .ok (.istore_n 2, 1) := by decide +kernel
theorem dX12_all_44 : decode cX12_all 44 = .ok (.aload_n 0, 1) := by decide +kernel
theorem dX12_all_45 : decode cX12_all 45 = .ok (.ldc2_w 344, 3) := by decide +kernel
theorem dX12_all_48 : decode cX12_all 48 = .ok (.invokevirtual 372, 3) := by decide +kernel
theorem dX12_all_51 : decode cX12_all 51 = .ok (.ifCond .ne (-43), 3) := by decide +kernel
theorem dX12_all_54 : decode cX12_all 54 = .ok (.iload_n 1, 1) := by decide +kernel
theorem dX12_all_55 : decode cX12_all 55 = .ok (.ireturn, 1) := by decide +kernel
theorem dX12_single_0 : decode cX12_single 0 = .ok (.aload_n 0, 1) := by decide +kernel
theorem dX12_single_1 : decode cX12_single 1 = .ok (.invokevirtual 262, 3) := by decide +kernel
theorem dX12_single_4 : decode cX12_single 4 = .ok (.ldc2_w 346, 3) := by decide +kernel
theorem dX12_single_7 : decode cX12_single 7 = .ok (.lcmp, 1) := by decide +kernel
theorem dX12_single_8 : decode cX12_single 8 = .ok (.ifCond .ne 71, 3) := by decide +kernel
theorem dX12_single_11 : decode cX12_single 11 = .ok (.aload_n 0, 1) := by decide +kernel
theorem dX12_single_12 : decode cX12_single 12 = .ok (.getfield 378, 3) := by decide +kernel
theorem dX12_single_15 : decode cX12_single 15 = .ok (.bipush 10, 2) := by decide +kernel
theorem dX12_single_17 : decode cX12_single 17 = .ok (.if_icmp .ne 5, 3) := by decide +kernel
theorem dX12_single_20 : decode cX12_single 20 = .ok (.iconst (-1), 1) := by decide +kernel
theorem dX12_single_21 : decode cX12_single 21 = .ok (.ireturn, 1) := by decide +kernel
theorem dX12_single_22 : decode cX12_single 22 = .ok (.aload_n 0, 1) := by decide +kernel
theorem dX12_single_23 : decode cX12_single 23 = .ok (.dup, 1) := by decide +kernel
theorem dX12_single_24 : decode cX12_single 24 = .ok (.getfield 378, 3) := by decide +kernel
theorem dX12_single_27 : decode cX12_single 27 = .ok (.iconst 1, 1) := by decide +kernel
theorem dX12_single_28 : decode cX12_single 28 = .ok (.iadd, 1) := by decide +kernel
theorem dX12_single_29 : decode cX12_single 29 = .ok (.putfield 378, 3) := by decide +kernel
theorem dX12_single_32 : decode cX12_single 32 = .ok (.aload_n 0, 1) := by decide +kernel
theorem dX12_single_33 : decode cX12_single 33 = .ok (.aload_n 0, 1) := by decide +kernel
theorem dX12_single_34 : decode cX12_single 34 = .ok (.getfield 259, 3) := by decide +kernel
theorem dX12_single_37 : decode cX12_single 37 = .ok (.putfield 254, 3) := by decide +kernel
theorem dX12_single_40 : decode cX12_single 40 = .ok (.aload_n 0, 1) := by decide +kernel
theorem dX12_single_41 : decode cX12_single 41 = .ok (.iconst 2, 1) := by decide +kernel
theorem dX12_single_42 : decode cX12_single 42 = .ok (.invokevirtual 365, 3) := by decide +kernel
theorem dX12_single_45 : decode cX12_single 45 = .ok (.istore_n 1, 1) := by decide +kernel
theorem dX12_single_46 : decode cX12_single 46 = .ok (.aload_n 0, 1) := by decide +kernel
theorem dX12_single_47 : decode cX12_single 47 = .ok (.invokevirtual 375, 3) := by decide +kernel
theorem dX12_single_50 : decode cX12_single 50 = .ok (.istore_n 2, 1) := by decide +kernel
theorem dX12_single_51 : decode cX12_single 51 = .ok (.aload_n 0, 1) := by decide +kernel
theorem dX12_single_52 : decode cX12_single 52 = .ok (.getfield 72, 3) := by decide +kernel
theorem dX12_single_55 : decode cX12_single 55 = .ok (.iload_n 1, 1) := by decide +kernel
theorem dX12_single_56 : decode cX12_single 56 = .ok (.iload_n 2, 1) := by decide +kernel
theorem dX12_single_57 : decode cX12_single 57 = .ok (.iastore, 1) := by decide +kernel
theorem dX12_single_58 : decode cX12_single 58 = .ok (.aload_n 0, 1) := by decide +kernel
theorem dX12_single_59 : decode cX12_single 59 = .ok (.dup, 1) := by decide +kernel
theorem dX12_single_60 : decode cX12_single 60 = .ok (.getfield 378, 3) := by decide +kernel
theorem dX12_single_63 : decode cX12_single 63 = .ok (.iconst 1, 1) := by decide +kernel
theorem dX12_single_64 : decode cX12_single 64 = .ok (.isub, 1) := by decide +kernel
theorem dX12_single_65 : decode cX12_single 65 = .ok (.putfield 378, 3) := by decide +kernel
theorem dX12_single_68 : decode cX12_single 68 = .ok (.iload_n 2, 1) := by decide +kernel
theorem dX12_single_69 : decode cX12_single 69 = .ok (.iconst (-1), 1) := by decide +kernel
theorem dX12_single_70 : decode cX12_single 70 = .ok (.if_icmp .ne 7, 3) := by decide +kernel
theorem dX12_single_73 : decode cX12_single 73 = .ok (.iconst (-1), 1) := by decide +kernel
theorem dX12_single_74 : decode cX12_single 74 = .ok (.goto 4, 3) := by decide +kernel
theorem dX12_single_77 : decode cX12_single 77 = .ok (.iload_n 1, 1) := by decide +kernel
theorem dX12_single_78 : decode cX12_single 78 = .ok (.ireturn, 1) := by decide +kernel
theorem dX12_single_79 : decode cX12_single 79 = .ok (.aload_n 0, 1) := by decide +kernel
theorem dX12_single_80 : decode cX12_single 80 = .ok (.getfield 254, 3) := by decide +kernel
theorem dX12_single_83 : decode cX12_single 83 = .ok (.aload_n 0, 1) := by decide +kernel
theorem dX12_single_84 : decode cX12_single 84 = .ok (.getfield 251, 3) := by decide +kernel
theorem dX12_single_87 : decode cX12_single 87 = .ok (.if_icmp .ge 83, 3) := by decide +kernel
theorem dX12_single_90 : decode cX12_single 90 = .ok (.aload_n 0, 1) := by decide +kernel
theorem dX12_single_91 : decode cX12_single 91 = .ok (.getfield 95, 3) := by decide +kernel
theorem dX12_single_94 : decode cX12_single 94 = .ok (.aload_n 0, 1) := by decide +kernel
theorem dX12_single_95 : decode cX12_single 95 = .ok (.getfield 254, 3) := by decide +kernel
theorem dX12_single_98 : decode cX12_single 98 = .ok (.baload, 1) := by decide +kernel
theorem dX12_single_99 : decode cX12_single 99 = .ok (.bipush 40, 2) := by decide +kernel
theorem dX12_single_101 : decode cX12_single 101 = .ok (.if_icmp .ne 69, 3) := by decide +kernel
theorem dX12_single_104 : decode cX12_single 104 = .ok (.aload_n 0, 1) := by decide +kernel
theorem dX12_single_105 : decode cX12_single 105 = .ok (.getfield 378, 3) := by decide +kernel
theorem dX12_single_108 : decode cX12_single 108 = .ok (.bipush 10, 2) := by decide +kernel
theorem dX12_single_110 : decode cX12_single 110 = .ok (.if_icmp .ne 5, 3) := by decide +kernel
theorem dX12_single_113 : decode cX12_single 113 = .ok (.iconst (-1), 1) := by decide +kernel
theorem dX12_single_114 : decode cX12_single 114 = .ok (.ireturn, 1) := by decide +kernel
theorem dX12_single_115 : decode cX12_single 115 = .ok (.aload_n 0, 1) := by decide +kernel
theorem dX12_single_116 : decode cX12_single 116 = .ok (.dup, 1) := by decide +kernel
theorem dX12_single_117 : decode cX12_single 117 = .ok (.getfield 378, 3) := by decide +kernel
theorem dX12_single_120 : decode cX12_single 120 = .ok (.iconst 1, 1) := by decide +kernel
theorem dX12_single_121 : decode cX12_single 121 = .ok (.iadd, 1) := by decide +kernel
theorem dX12_single_122 : decode cX12_single 122 = .ok (.putfield 378, 3) := by decide +kernel
theorem dX12_single_125 : decode cX12_single 125 = .ok (.aload_n 0, 1) := by decide +kernel
theorem dX12_single_126 : decode cX12_single 126 = .ok (.dup, 1) := by decide +kernel
theorem dX12_single_127 : decode cX12_single 127 = .ok (.getfield 254, 3) := by decide +kernel
theorem dX12_single_130 : decode cX12_single 130 = .ok (.iconst 1, 1) := by decide +kernel
theorem dX12_single_131 : decode cX12_single 131 = .ok (.iadd, 1) := by decide +kernel
theorem dX12_single_132 : decode cX12_single 132 = .ok (.putfield 254, 3) := by decide +kernel
theorem dX12_single_135 : decode cX12_single 135 = .ok (.aload_n 0, 1) := by decide +kernel
theorem dX12_single_136 : decode cX12_single 136 = .ok (.invokevirtual 381, 3) := by decide +kernel
theorem dX12_single_139 : decode cX12_single 139 = .ok (.istore_n 1, 1) := by decide +kernel
theorem dX12_single_140 : decode cX12_single 140 = .ok (.aload_n 0, 1) := by decide +kernel
theorem dX12_single_141 : decode cX12_single 141 = .ok (.dup, 1) := by decide +kernel
theorem dX12_single_142 : decode cX12_single 142 = .ok (.getfield 378, 3) := by decide +kernel
theorem dX12_single_145 : decode cX12_single 145 = .ok (.iconst 1, 1) := by decide +kernel
theorem dX12_single_146 : decode cX12_single 146 = .ok (.isub, 1) := by decide +kernel
theorem dX12_single_147 : decode cX12_single 147 = .ok (.putfield 378, 3) := by decide +kernel
theorem dX12_single_150 : decode cX12_single 150 = .ok (.iload_n 1, 1) := by decide +kernel
theorem dX12_single_151 : decode cX12_single 151 = .ok (.iconst (-1), 1) := by decide +kernel
theorem dX12_single_152 : decode cX12_single 152 = .ok (.if_icmp .eq 12, 3) := by decide +kernel
theorem dX12_single_155 : decode cX12_single 155 = .ok (.aload_n 0, 1) := by decide +kernel
theorem dX12_single_156 : decode cX12_single 156 = .ok (.bipush 41, 2) := by decide +kernel
theorem dX12_single_158 : decode cX12_single 158 = .ok (.invokevirtual 384, 3) := by decide +kernel
theorem dX12_single_161 : decode cX12_single 161 = .ok (.ifCond .ne 7, 3) := by decide +kernel
theorem dX12_single_164 : decode cX12_single 164 = .ok (.iconst (-1), 1) := by decide +kernel
theorem dX12_single_165 : decode cX12_single 165 = .ok (.goto 4, 3) := by decide +kernel
theorem dX12_single_168 : decode cX12_single 168 = .ok (.iload_n 1, 1) := by decide +kernel
theorem dX12_single_169 : decode cX12_single 169 = .ok (.ireturn, 1) := by decide +kernel
theorem dX12_single_170 : decode cX12_single 170 = .ok (.aload_n 0, 1) := by decide +kernel
theorem dX12_single_171 : decode cX12_single 171 = .ok (.iconst 3, 1) := by decide +kernel
theorem dX12_single_172 : decode cX12_single 172 = .ok (.invokevirtual 365, 3) := by decide +kernel
theorem dX12_single_175 : decode cX12_single 175 = .ok (.istore_n 1, 1) := by decide +kernel
theorem dX12_single_176 : decode cX12_single 176 = .ok (.aload_n 0, 1) := by decide +kernel
theorem dX12_single_177 : decode cX12_single 177 = .ok (.getfield 78, 3) := by decide +kernel
theorem dX12_single_180 : decode cX12_single 180 = .ok (.iload_n 1, 1) := by decide +kernel
theorem dX12_single_181 : decode cX12_single 181 = .ok (.aload_n 0, 1) := by decide +kernel
theorem dX12_single_182 : decode cX12_single 182 = .ok (.invokevirtual 262, 3) := by decide +kernel
theorem dX12_single_185 : decode cX12_single 185 = .ok (.invokestatic 348, 3) := by decide +kernel
theorem dX12_single_188 : decode cX12_single 188 = .ok (.iastore, 1) := by decide +kernel
theorem dX12_single_189 : decode cX12_single 189 = .ok (.aload_n 0, 1) := by decide +kernel
theorem dX12_single_190 : decode cX12_single 190 = .ok (.getfield 78, 3) := by decide +kernel
theorem dX12_single_193 : decode cX12_single 193 = .ok (.iload_n 1, 1) := by decide +kernel
theorem dX12_single_194 : decode cX12_single 194 = .ok (.iaload, 1) := by decide +kernel
theorem dX12_single_195 : decode cX12_single 195 = .ok (.iconst (-1), 1) := by decide +kernel
theorem dX12_single_196 : decode cX12_single 196 = .ok (.if_icmp .ne 5, 3) := by decide +kernel
theorem dX12_single_199 : decode cX12_single 199 = .ok (.iconst (-1), 1) := by decide +kernel
theorem dX12_single_200 : decode cX12_single 200 = .ok (.ireturn, 1) := by decide +kernel
theorem dX12_single_201 : decode cX12_single 201 = .ok (.aload_n 0, 1) := by decide +kernel
theorem dX12_single_202 : decode cX12_single 202 = .ok (.aload_n 0, 1) := by decide +kernel
theorem dX12_single_203 : decode cX12_single 203 = .ok (.getfield 259, 3) := by decide +kernel
theorem dX12_single_206 : decode cX12_single 206 = .ok (.putfield 254, 3) := by decide +kernel
theorem dX12_single_209 : decode cX12_single 209 = .ok (.aload_n 0, 1) := by decide +kernel
theorem dX12_single_210 : decode cX12_single 210 = .ok (.getfield 81, 3) := by decide +kernel
theorem dX12_single_213 : decode cX12_single 213 = .ok (.iload_n 1, 1) := by decide +kernel
theorem dX12_single_214 : decode cX12_single 214 = .ok (.aload_n 0, 1) := by decide +kernel
theorem dX12_single_215 : decode cX12_single 215 = .ok (.bipush 60, 2) := by decide +kernel
theorem dX12_single_217 : decode cX12_single 217 = .ok (.invokevirtual 384, 3) := by decide +kernel
theorem dX12_single_220 : decode cX12_single 220 = .ok (.ifCond .eq 8, 3) := by decide +kernel
theorem dX12_single_223 : decode cX12_single 223 = .ok (.bipush 60, 2) := by decide +kernel
theorem dX12_single_225 : decode cX12_single 225 = .ok (.goto 32, 3) := by decide +kernel
theorem dX12_single_228 : decode cX12_single 228 = .ok (.aload_n 0, 1) := by decide +kernel
theorem dX12_single_229 : decode cX12_single 229 = .ok (.bipush 62, 2) := by decide +kernel
theorem dX12_single_231 : decode cX12_single 231 = .ok (.invokevirtual 384, 3) := by decide +kernel
theorem dX12_single_234 : decode cX12_single 234 = .ok (.ifCond .eq 8, 3) := by decide +kernel
theorem dX12_single_237 : decode cX12_single 237 = .ok (.bipush 62, 2) := by decide +kernel
theorem dX12_single_239 : decode cX12_single 239 = .ok (.goto 18, 3) := by decide +kernel
theorem dX12_single_242 : decode cX12_single 242 = .ok (.aload_n 0, 1) := by decide +kernel
theorem dX12_single_243 : decode cX12_single 243 = .ok (.bipush 61, 2) := by decide +kernel
theorem dX12_single_245 : decode cX12_single 245 = .ok (.invokevirtual 384, 3) := by decide +kernel
theorem dX12_single_248 : decode cX12_single 248 = .ok (.ifCond .eq 8, 3) := by decide +kernel
theorem dX12_single_251 : decode cX12_single 251 = .ok (.bipush 61, 2) := by decide +kernel
theorem dX12_single_253 : decode cX12_single 253 = .ok (.goto 4, 3) := by decide +kernel
theorem dX12_single_256 : decode cX12_single 256 = .ok (.iconst (-1), 1) := by decide +kernel
theorem dX12_single_257 : decode cX12_single 257 = .ok (.iastore, 1) := by decide +kernel
theorem dX12_single_258 : decode cX12_single 258 = .ok (.aload_n 0, 1) := by decide +kernel
theorem dX12_single_259 : decode cX12_single 259 = .ok (.getfield 81, 3) := by decide +kernel
theorem dX12_single_262 : decode cX12_single 262 = .ok (.iload_n 1, 1) := by decide +kernel
theorem dX12_single_263 : decode cX12_single 263 = .ok (.iaload, 1) := by decide +kernel
theorem dX12_single_264 : decode cX12_single 264 = .ok (.iconst (-1), 1) := by decide +kernel
theorem dX12_single_265 : decode cX12_single 265 = .ok (.if_icmp .eq 10, 3) := by decide +kernel
theorem dX12_single_268 : decode cX12_single 268 = .ok (.aload_n 0, 1) := by decide +kernel
theorem dX12_single_269 : decode cX12_single 269 = .ok (.invokevirtual 387, 3) := by decide +kernel
theorem dX12_single_272 : decode cX12_single 272 = .ok (.ifCond .ne 5, 3) := by decide +kernel
theorem dX12_single_275 : decode cX12_single 275 = .ok (.iconst (-1), 1) := by decide +kernel
theorem dX12_single_276 : decode cX12_single 276 = .ok (.ireturn, 1) := by decide +kernel
theorem dX12_single_277 : decode cX12_single 277 = .ok (.aload_n 0, 1) := by decide +kernel
theorem dX12_single_278 : decode cX12_single 278 = .ok (.getfield 84, 3) := by decide +kernel
theorem dX12_single_281 : decode cX12_single 281 = .ok (.iload_n 1, 1) := by decide +kernel
theorem dX12_single_282 : decode cX12_single 282 = .ok (.aload_n 0, 1) := by decide +kernel
theorem dX12_single_283 : decode cX12_single 283 = .ok (.getfield 265, 3) := by decide +kernel
theorem dX12_single_286 : decode cX12_single 286 = .ok (.iastore, 1) := by decide +kernel
theorem dX12_single_287 : decode cX12_single 287 = .ok (.iload_n 1, 1) := by decide +kernel
theorem dX12_single_288 : decode cX12_single 288 = .ok (.ireturn, 1) := by decide +kernel
theorem dX12_pairs_0 : decode cX12_pairs 0 = .ok (.aload_n 0, 1) := by decide +kernel
theorem dX12_pairs_1 : decode cX12_pairs 1 = .ok (.getfield 57, 3) := by decide +kernel
theorem dX12_pairs_4 : decode cX12_pairs 4 = .ok (.iload_n 1, 1) := by decide +kernel
theorem dX12_pairs_5 : decode cX12_pairs 5 = .ok (.iload_n 2, 1) := by decide +kernel
theorem dX12_pairs_6 : decode cX12_pairs 6 = .ok (.iastore, 1) := by decide +kernel
theorem dX12_pairs_7 : decode cX12_pairs 7 = .ok (.aload_n 0, 1) := by decide +kernel
theorem dX12_pairs_8 : decode cX12_pairs 8 = .ok (.invokevirtual 391, 3) := by decide +kernel
theorem dX12_pairs_11 : decode cX12_pairs 11 = .ok (.ifCond .ne 5, 3) := by decide +kernel
theorem dX12_pairs_14 : decode cX12_pairs 14 = .ok (.iconst 0, 1) := by decide +kernel
theorem dX12_pairs_15 : decode cX12_pairs 15 = .ok (.ireturn, 1) := by decide +kernel
theorem dX12_pairs_16 : decode cX12_pairs 16 = .ok (.aload_n 0, 1) := by decide +kernel
theorem dX12_pairs_17 : decode cX12_pairs 17 = .ok (.getfield 60, 3) := by decide +kernel
theorem dX12_pairs_20 : decode cX12_pairs 20 = .ok (.iload_n 1, 1) := by decide +kernel
theorem dX12_pairs_21 : decode cX12_pairs 21 = .ok (.aload_n 0, 1) := by decide +kernel
theorem dX12_pairs_22 : decode cX12_pairs 22 = .ok (.getfield 265, 3) := by decide +kernel
theorem dX12_pairs_25 : decode cX12_pairs 25 = .ok (.iastore, 1) := by decide +kernel
theorem dX12_pairs_26 : decode cX12_pairs 26 = .ok (.aload_n 0, 1) := by decide +kernel
theorem dX12_pairs_27 : decode cX12_pairs 27 = .ok (.invokevirtual 391, 3) := by decide +kernel
theorem dX12_pairs_30 : decode cX12_pairs 30 = .ok (.ifCond .ne 5, 3) := by decide +kernel
theorem dX12_pairs_33 : decode cX12_pairs 33 = .ok (.iconst 0, 1) := by decide +kernel
theorem dX12_pairs_34 : decode cX12_pairs 34 = .ok (.ireturn, 1) := by decide +kernel
theorem dX12_pairs_35 : decode cX12_pairs 35 = .ok (.aload_n 0, 1) := by decide +kernel
theorem dX12_pairs_36 : decode cX12_pairs 36 = .ok (.getfield 63, 3) := by decide +kernel
theorem dX12_pairs_39 : decode cX12_pairs 39 = .ok (.iload_n 1, 1) := by decide +kernel
theorem dX12_pairs_40 : decode cX12_pairs 40 = .ok (.aload_n 0, 1) := by decide +kernel
theorem dX12_pairs_41 : decode cX12_pairs 41 = .ok (.getfield 265, 3) := by decide +kernel
theorem dX12_pairs_44 : decode cX12_pairs 44 = .ok (.iastore, 1) := by decide +kernel
theorem dX12_pairs_45 : decode cX12_pairs 45 = .ok (.aload_n 0, 1) := by decide +kernel
theorem dX12_pairs_46 : decode cX12_pairs 46 = .ok (.lload_n 3, 1) := by decide +kernel
theorem dX12_pairs_47 : decode cX12_pairs 47 = .ok (.invokevirtual 372, 3) := by decide +kernel
theorem dX12_pairs_50 : decode cX12_pairs 50 = .ok (.ifCond .eq 10, 3) := by decide +kernel
theorem dX12_pairs_53 : decode cX12_pairs 53 = .ok (.aload_n 0, 1) := by decide +kernel
theorem dX12_pairs_54 : decode cX12_pairs 54 = .ok (.invokevirtual 387, 3) := by decide +kernel
theorem dX12_pairs_57 : decode cX12_pairs 57 = .ok (.ifCond .ne 5, 3) := by decide +kernel
theorem dX12_pairs_60 : decode cX12_pairs 60 = .ok (.iconst 0, 1) := by decide +kernel
theorem dX12_pairs_61 : decode cX12_pairs 61 = .ok (.ireturn, 1) := by decide +kernel
theorem dX12_pairs_62 : decode cX12_pairs 62 = .ok (.aload_n 0, 1) := by decide +kernel
theorem dX12_pairs_63 : decode cX12_pairs 63 = .ok (.getfield 66, 3) := by decide +kernel
theorem dX12_pairs_66 : decode cX12_pairs 66 = .ok (.iload_n 1, 1) := by decide +kernel
theorem dX12_pairs_67 : decode cX12_pairs 67 = .ok (.aload_n 0, 1) := by decide +kernel
theorem dX12_pairs_68 : decode cX12_pairs 68 = .ok (.getfield 265, 3) := by decide +kernel
theorem dX12_pairs_71 : decode cX12_pairs 71 = .ok (.iastore, 1) := by decide +kernel
theorem dX12_pairs_72 : decode cX12_pairs 72 = .ok (.iconst 1, 1) := by decide +kernel
theorem dX12_pairs_73 : decode cX12_pairs 73 = .ok (.ireturn, 1) := by decide +kernel
theorem dX12_plain_0 : decode cX12_plain 0 = .ok (.aload_n 0, 1) := by decide +kernel
theorem dX12_plain_1 : decode cX12_plain 1 = .ok (.getfield 57, 3) := by decide +kernel
theorem dX12_plain_4 : decode cX12_plain 4 = .ok (.iload_n 1, 1) := by decide +kernel
theorem dX12_plain_5 : decode cX12_plain 5 = .ok (.iload_n 2, 1) := by decide +kernel
theorem dX12_plain_6 : decode cX12_plain 6 = .ok (.iastore, 1) := by decide +kernel
theorem dX12_plain_7 : decode cX12_plain 7 = .ok (.aload_n 0, 1) := by decide +kernel
theorem dX12_plain_8 : decode cX12_plain 8 = .ok (.iload_n 3, 1) := by decide +kernel
theorem dX12_plain_9 : decode cX12_plain 9 = .ok (.iload 4, 2) := by decide +kernel
theorem dX12_plain_11 : decode cX12_plain 11 = .ok (.invokevirtual 269, 3) := by decide +kernel
theorem dX12_plain_14 : decode cX12_plain 14 = .ok (.ifCond .ne 5, 3) := by decide +kernel
theorem dX12_plain_17 : decode cX12_plain 17 = .ok (.iconst 0, 1) := by decide +kernel
theorem dX12_plain_18 : decode cX12_plain 18 = .ok (.ireturn, 1) := by decide +kernel
theorem dX12_plain_19 : decode cX12_plain 19 = .ok (.aload_n 0, 1) := by decide +kernel
theorem dX12_plain_20 : decode cX12_plain 20 = .ok (.getfield 60, 3) := by decide +kernel
theorem dX12_plain_23 : decode cX12_plain 23 = .ok (.iload_n 1, 1) := by decide +kernel
theorem dX12_plain_24 : decode cX12_plain 24 = .ok (.aload_n 0, 1) := by decide +kernel
theorem dX12_plain_25 : decode cX12_plain 25 = .ok (.getfield 265, 3) := by decide +kernel
theorem dX12_plain_28 : decode cX12_plain 28 = .ok (.iastore, 1) := by decide +kernel
theorem dX12_plain_29 : decode cX12_plain 29 = .ok (.iconst 1, 1) := by decide +kernel
theorem dX12_plain_30 : decode cX12_plain 30 = .ok (.ireturn, 1) := by decide +kernel
theorem dX12_rooms_0 : decode cX12_rooms 0 = .ok (.aload_n 0, 1) := by decide +kernel
theorem dX12_rooms_1 : decode cX12_rooms 1 = .ok (.getfield 57, 3) := by decide +kernel
theorem dX12_rooms_4 : decode cX12_rooms 4 = .ok (.iload_n 1, 1) := by decide +kernel
theorem dX12_rooms_5 : decode cX12_rooms 5 = .ok (.bipush 11, 2) := by decide +kernel
theorem dX12_rooms_7 : decode cX12_rooms 7 = .ok (.iastore, 1) := by decide +kernel
theorem dX12_rooms_8 : decode cX12_rooms 8 = .ok (.aload_n 0, 1) := by decide +kernel
theorem dX12_rooms_9 : decode cX12_rooms 9 = .ok (.invokevirtual 394, 3) := by decide +kernel
theorem dX12_rooms_12 : decode cX12_rooms 12 = .ok (.ifCond .ne 5, 3) := by decide +kernel
theorem dX12_rooms_15 : decode cX12_rooms 15 = .ok (.iconst 0, 1) := by decide +kernel
theorem dX12_rooms_16 : decode cX12_rooms 16 = .ok (.ireturn, 1) := by decide +kernel
theorem dX12_rooms_17 : decode cX12_rooms 17 = .ok (.aload_n 0, 1) := by decide +kernel
theorem dX12_rooms_18 : decode cX12_rooms 18 = .ok (.getfield 60, 3) := by decide +kernel
theorem dX12_rooms_21 : decode cX12_rooms 21 = .ok (.iload_n 1, 1) := by decide +kernel
theorem dX12_rooms_22 : decode cX12_rooms 22 = .ok (.aload_n 0, 1) := by decide +kernel
theorem dX12_rooms_23 : decode cX12_rooms 23 = .ok (.getfield 265, 3) := by decide +kernel
theorem dX12_rooms_26 : decode cX12_rooms 26 = .ok (.iastore, 1) := by decide +kernel
theorem dX12_rooms_27 : decode cX12_rooms 27 = .ok (.aload_n 0, 1) := by decide +kernel
theorem dX12_rooms_28 : decode cX12_rooms 28 = .ok (.ldc2_w 294, 3) := by decide +kernel
theorem dX12_rooms_31 : decode cX12_rooms 31 = .ok (.invokevirtual 372, 3) := by decide +kernel
theorem dX12_rooms_34 : decode cX12_rooms 34 = .ok (.ifCond .eq 10, 3) := by decide +kernel
theorem dX12_rooms_37 : decode cX12_rooms 37 = .ok (.aload_n 0, 1) := by decide +kernel
theorem dX12_rooms_38 : decode cX12_rooms 38 = .ok (.invokevirtual 387, 3) := by decide +kernel
theorem dX12_rooms_41 : decode cX12_rooms 41 = .ok (.ifCond .ne 5, 3) := by decide +kernel
theorem dX12_rooms_44 : decode cX12_rooms 44 = .ok (.iconst 0, 1) := by decide +kernel
theorem dX12_rooms_45 : decode cX12_rooms 45 = .ok (.ireturn, 1) := by decide +kernel
theorem dX12_rooms_46 : decode cX12_rooms 46 = .ok (.aload_n 0, 1) := by decide +kernel
theorem dX12_rooms_47 : decode cX12_rooms 47 = .ok (.getfield 63, 3) := by decide +kernel
theorem dX12_rooms_50 : decode cX12_rooms 50 = .ok (.iload_n 1, 1) := by decide +kernel
theorem dX12_rooms_51 : decode cX12_rooms 51 = .ok (.aload_n 0, 1) := by decide +kernel
theorem dX12_rooms_52 : decode cX12_rooms 52 = .ok (.getfield 265, 3) := by decide +kernel
theorem dX12_rooms_55 : decode cX12_rooms 55 = .ok (.iastore, 1) := by decide +kernel
theorem dX12_rooms_56 : decode cX12_rooms 56 = .ok (.aload_n 0, 1) := by decide +kernel
theorem dX12_rooms_57 : decode cX12_rooms 57 = .ok (.getfield 66, 3) := by decide +kernel
theorem dX12_rooms_60 : decode cX12_rooms 60 = .ok (.iload_n 1, 1) := by decide +kernel
theorem dX12_rooms_61 : decode cX12_rooms 61 = .ok (.iconst 0, 1) := by decide +kernel
theorem dX12_rooms_62 : decode cX12_rooms 62 = .ok (.iastore, 1) := by decide +kernel
theorem dX12_rooms_63 : decode cX12_rooms 63 = .ok (.aload_n 0, 1) := by decide +kernel
theorem dX12_rooms_64 : decode cX12_rooms 64 = .ok (.ldc2_w 296, 3) := by decide +kernel
theorem dX12_rooms_67 : decode cX12_rooms 67 = .ok (.invokevirtual 372, 3) := by decide +kernel
theorem dX12_rooms_70 : decode cX12_rooms 70 = .ok (.ifCond .ne 5, 3) := by decide +kernel
theorem dX12_rooms_73 : decode cX12_rooms 73 = .ok (.iconst 1, 1) := by decide +kernel
theorem dX12_rooms_74 : decode cX12_rooms 74 = .ok (.ireturn, 1) := by decide +kernel
theorem dX12_rooms_75 : decode cX12_rooms 75 = .ok (.aload_n 0, 1) := by decide +kernel
theorem dX12_rooms_76 : decode cX12_rooms 76 = .ok (.invokevirtual 387, 3) := by decide +kernel
theorem dX12_rooms_79 : decode cX12_rooms 79 = .ok (.ifCond .ne 5, 3) := by decide +kernel
theorem dX12_rooms_82 : decode cX12_rooms 82 = .ok (.iconst 0, 1) := by decide +kernel
theorem dX12_rooms_83 : decode cX12_rooms 83 = .ok (.ireturn, 1) := by decide +kernel
theorem dX12_rooms_84 : decode cX12_rooms 84 = .ok (.aload_n 0, 1) := by decide +kernel
theorem dX12_rooms_85 : decode cX12_rooms 85 = .ok (.getfield 66, 3) := by decide +kernel
theorem dX12_rooms_88 : decode cX12_rooms 88 = .ok (.iload_n 1, 1) := by decide +kernel
theorem dX12_rooms_89 : decode cX12_rooms 89 = .ok (.aload_n 0, 1) := by decide +kernel
theorem dX12_rooms_90 : decode cX12_rooms 90 = .ok (.getfield 265, 3) := by decide +kernel
theorem dX12_rooms_93 : decode cX12_rooms 93 = .ok (.iastore, 1) := by decide +kernel
theorem dX12_rooms_94 : decode cX12_rooms 94 = .ok (.iconst 1, 1) := by decide +kernel
theorem dX12_rooms_95 : decode cX12_rooms 95 = .ok (.ireturn, 1) := by decide +kernel
theorem dX12_rates_0 : decode cX12_rates 0 = .ok (.aload_n 0, 1) := by decide +kernel
theorem dX12_rates_1 : decode cX12_rates 1 = .ok (.getfield 57, 3) := by decide +kernel
theorem dX12_rates_4 : decode cX12_rates 4 = .ok (.iload_n 1, 1) := by decide +kernel
theorem dX12_rates_5 : decode cX12_rates 5 = .ok (.bipush 14, 2) := by decide +kernel
theorem dX12_rates_7 : decode cX12_rates 7 = .ok (.iastore, 1) := by decide +kernel
theorem dX12_rates_8 : decode cX12_rates 8 = .ok (.aload_n 0, 1) := by decide +kernel
theorem dX12_rates_9 : decode cX12_rates 9 = .ok (.invokevirtual 391, 3) := by decide +kernel
theorem dX12_rates_12 : decode cX12_rates 12 = .ok (.ifCond .ne 5, 3) := by decide +kernel
theorem dX12_rates_15 : decode cX12_rates 15 = .ok (.iconst 0, 1) := by decide +kernel
theorem dX12_rates_16 : decode cX12_rates 16 = .ok (.ireturn, 1) := by decide +kernel
theorem dX12_rates_17 : decode cX12_rates 17 = .ok (.aload_n 0, 1) := by decide +kernel
theorem dX12_rates_18 : decode cX12_rates 18 = .ok (.getfield 60, 3) := by decide +kernel
theorem dX12_rates_21 : decode cX12_rates 21 = .ok (.iload_n 1, 1) := by decide +kernel
theorem dX12_rates_22 : decode cX12_rates 22 = .ok (.aload_n 0, 1) := by decide +kernel
theorem dX12_rates_23 : decode cX12_rates 23 = .ok (.getfield 265, 3) := by decide +kernel
theorem dX12_rates_26 : decode cX12_rates 26 = .ok (.iastore, 1) := by decide +kernel
theorem dX12_rates_27 : decode cX12_rates 27 = .ok (.aload_n 0, 1) := by decide +kernel
theorem dX12_rates_28 : decode cX12_rates 28 = .ok (.iconst 0, 1) := by decide +kernel
theorem dX12_rates_29 : decode cX12_rates 29 = .ok (.sipush 9999, 3) := by decide +kernel
theorem dX12_rates_32 : decode cX12_rates 32 = .ok (.invokevirtual 269, 3) := by decide +kernel
theorem dX12_rates_35 : decode cX12_rates 35 = .ok (.ifCond .ne 5, 3) := by decide +kernel
theorem dX12_rates_38 : decode cX12_rates 38 = .ok (.iconst 0, 1) := by decide +kernel
theorem dX12_rates_39 : decode cX12_rates 39 = .ok (.ireturn, 1) := by decide +kernel
theorem dX12_rates_40 : decode cX12_rates 40 = .ok (.aload_n 0, 1) := by decide +kernel
theorem dX12_rates_41 : decode cX12_rates 41 = .ok (.getfield 63, 3) := by decide +kernel
theorem dX12_rates_44 : decode cX12_rates 44 = .ok (.iload_n 1, 1) := by decide +kernel
theorem dX12_rates_45 : decode cX12_rates 45 = .ok (.aload_n 0, 1) := by decide +kernel
theorem dX12_rates_46 : decode cX12_rates 46 = .ok (.getfield 265, 3) := by decide +kernel
theorem dX12_rates_49 : decode cX12_rates 49 = .ok (.iastore, 1) := by decide +kernel
theorem dX12_rates_50 : decode cX12_rates 50 = .ok (.iconst 1, 1) := by decide +kernel
theorem dX12_rates_51 : decode cX12_rates 51 = .ok (.ireturn, 1) := by decide +kernel
theorem dX12_costs_0 : decode cX12_costs 0 = .ok (.aload_n 0, 1) := by decide +kernel
theorem dX12_costs_1 : decode cX12_costs 1 = .ok (.ldc2_w 314, 3) := by decide +kernel
theorem dX12_costs_4 : decode cX12_costs 4 = .ok (.invokevirtual 372, 3) := by decide +kernel
theorem dX12_costs_7 : decode cX12_costs 7 = .ok (.ifCond .eq 17, 3) := by decide +kernel
theorem dX12_costs_10 : decode cX12_costs 10 = .ok (.aload_n 0, 1) := by decide +kernel
theorem dX12_costs_11 : decode cX12_costs 11 = .ok (.iload_n 1, 1) := by decide +kernel
theorem dX12_costs_12 : decode cX12_costs 12 = .ok (.bipush 15, 2) := by decide +kernel
theorem dX12_costs_14 : decode cX12_costs 14 = .ok (.iconst 0, 1) := by decide +kernel
theorem dX12_costs_15 : decode cX12_costs 15 = .ok (.ldc_w 268, 3) := by decide +kernel
theorem dX12_costs_18 : decode cX12_costs 18 = .ok (.invokevirtual 397, 3) := by decide +kernel
theorem dX12_costs_21 : decode cX12_costs 21 = .ok (.ifCond .ne 5, 3) := by decide +kernel
theorem dX12_costs_24 : decode cX12_costs 24 = .ok (.iconst 0, 1) := by decide +kernel
theorem dX12_costs_25 : decode cX12_costs 25 = .ok (.ireturn, 1) := by decide +kernel
theorem dX12_costs_26 : decode cX12_costs 26 = .ok (.aload_n 0, 1) := by decide +kernel
theorem dX12_costs_27 : decode cX12_costs 27 = .ok (.getfield 63, 3) := by decide +kernel
theorem dX12_costs_30 : decode cX12_costs 30 = .ok (.iload_n 1, 1) := by decide +kernel
theorem dX12_costs_31 : decode cX12_costs 31 = .ok (.iconst (-1), 1) := by decide +kernel
theorem dX12_costs_32 : decode cX12_costs 32 = .ok (.iastore, 1) := by decide +kernel
theorem dX12_costs_33 : decode cX12_costs 33 = .ok (.aload_n 0, 1) := by decide +kernel
theorem dX12_costs_34 : decode cX12_costs 34 = .ok (.ldc2_w 316, 3) := by decide +kernel
theorem dX12_costs_37 : decode cX12_costs 37 = .ok (.invokevirtual 372, 3) := by decide +kernel
theorem dX12_costs_40 : decode cX12_costs 40 = .ok (.ifCond .ne 5, 3) := by decide +kernel
theorem dX12_costs_43 : decode cX12_costs 43 = .ok (.iconst 1, 1) := by decide +kernel
theorem dX12_costs_44 : decode cX12_costs 44 = .ok (.ireturn, 1) := by decide +kernel
theorem dX12_costs_45 : decode cX12_costs 45 = .ok (.aload_n 0, 1) := by decide +kernel
theorem dX12_costs_46 : decode cX12_costs 46 = .ok (.iconst 0, 1) := by decide +kernel
theorem dX12_costs_47 : decode cX12_costs 47 = .ok (.bipush 50, 2) := by decide +kernel
theorem dX12_costs_49 : decode cX12_costs 49 = .ok (.invokevirtual 269, 3) := by decide +kernel
theorem dX12_costs_52 : decode cX12_costs 52 = .ok (.ifCond .ne 5, 3) := by decide +kernel
theorem dX12_costs_55 : decode cX12_costs 55 = .ok (.iconst 0, 1) := by decide +kernel
theorem dX12_costs_56 : decode cX12_costs 56 = .ok (.ireturn, 1) := by decide +kernel
theorem dX12_costs_57 : decode cX12_costs 57 = .ok (.aload_n 0, 1) := by decide +kernel
theorem dX12_costs_58 : decode cX12_costs 58 = .ok (.getfield 63, 3) := by decide +kernel
theorem dX12_costs_61 : decode cX12_costs 61 = .ok (.iload_n 1, 1) := by decide +kernel
theorem dX12_costs_62 : decode cX12_costs 62 = .ok (.aload_n 0, 1) := by decide +kernel
theorem dX12_costs_63 : decode cX12_costs 63 = .ok (.getfield 265, 3) := by decide +kernel
theorem dX12_costs_66 : decode cX12_costs 66 = .ok (.iastore, 1) := by decide +kernel
theorem dX12_costs_67 : decode cX12_costs 67 = .ok (.iconst 1, 1) := by decide +kernel
theorem dX12_costs_68 : decode cX12_costs 68 = .ok (.ireturn, 1) := by decide +kernel
theorem dX12_outs_0 : decode cX12_outs 0 = .ok (.aload_n 0, 1) := by decide +kernel
theorem dX12_outs_1 : decode cX12_outs 1 = .ok (.getfield 57, 3) := by decide +kernel
theorem dX12_outs_4 : decode cX12_outs 4 = .ok (.iload_n 1, 1) := by decide +kernel
theorem dX12_outs_5 : decode cX12_outs 5 = .ok (.bipush 16, 2) := by decide +kernel
theorem dX12_outs_7 : decode cX12_outs 7 = .ok (.iastore, 1) := by decide +kernel
theorem dX12_outs_8 : decode cX12_outs 8 = .ok (.aload_n 0, 1) := by decide +kernel
theorem dX12_outs_9 : decode cX12_outs 9 = .ok (.ldc2_w 320, 3) := by decide +kernel
theorem dX12_outs_12 : decode cX12_outs 12 = .ok (.invokevirtual 372, 3) := by decide +kernel
theorem dX12_outs_15 : decode cX12_outs 15 = .ok (.ifCond .ne 5, 3) := by decide +kernel
theorem dX12_outs_18 : decode cX12_outs 18 = .ok (.iconst 0, 1) := by decide +kernel
theorem dX12_outs_19 : decode cX12_outs 19 = .ok (.ireturn, 1) := by decide +kernel
theorem dX12_outs_20 : decode cX12_outs 20 = .ok (.aload_n 0, 1) := by decide +kernel
theorem dX12_outs_21 : decode cX12_outs 21 = .ok (.iconst 0, 1) := by decide +kernel
theorem dX12_outs_22 : decode cX12_outs 22 = .ok (.putfield 378, 3) := by decide +kernel
theorem dX12_outs_25 : decode cX12_outs 25 = .ok (.aload_n 0, 1) := by decide +kernel
theorem dX12_outs_26 : decode cX12_outs 26 = .ok (.getfield 60, 3) := by decide +kernel
theorem dX12_outs_29 : decode cX12_outs 29 = .ok (.iload_n 1, 1) := by decide +kernel
theorem dX12_outs_30 : decode cX12_outs 30 = .ok (.aload_n 0, 1) := by decide +kernel
theorem dX12_outs_31 : decode cX12_outs 31 = .ok (.invokevirtual 381, 3) := by decide +kernel
theorem dX12_outs_34 : decode cX12_outs 34 = .ok (.iastore, 1) := by decide +kernel
theorem dX12_outs_35 : decode cX12_outs 35 = .ok (.aload_n 0, 1) := by decide +kernel
theorem dX12_outs_36 : decode cX12_outs 36 = .ok (.getfield 60, 3) := by decide +kernel
theorem dX12_outs_39 : decode cX12_outs 39 = .ok (.iload_n 1, 1) := by decide +kernel
theorem dX12_outs_40 : decode cX12_outs 40 = .ok (.iaload, 1) := by decide +kernel
theorem dX12_outs_41 : decode cX12_outs 41 = .ok (.iconst (-1), 1) := by decide +kernel
theorem dX12_outs_42 : decode cX12_outs 42 = .ok (.if_icmp .eq 7, 3) := by decide +kernel
theorem dX12_outs_45 : decode cX12_outs 45 = .ok (.iconst 1, 1) := by decide +kernel
theorem dX12_outs_46 : decode cX12_outs 46 = .ok (.goto 4, 3) := by decide +kernel
theorem dX12_outs_49 : decode cX12_outs 49 = .ok (.iconst 0, 1) := by decide +kernel
theorem dX12_outs_50 : decode cX12_outs 50 = .ok (.ireturn, 1) := by decide +kernel
theorem dX12_fees_0 : decode cX12_fees 0 = .ok (.aload_n 0, 1) := by decide +kernel
theorem dX12_fees_1 : decode cX12_fees 1 = .ok (.iload_n 1, 1) := by decide +kernel
theorem dX12_fees_2 : decode cX12_fees 2 = .ok (.bipush 8, 2) := by decide +kernel
theorem dX12_fees_4 : decode cX12_fees 4 = .ok (.iconst 0, 1) := by decide +kernel
theorem dX12_fees_5 : decode cX12_fees 5 = .ok (.bipush 100, 2) := by decide +kernel
theorem dX12_fees_7 : decode cX12_fees 7 = .ok (.invokevirtual 397, 3) := by decide +kernel
theorem dX12_fees_10 : decode cX12_fees 10 = .ok (.ifCond .eq 13, 3) := by decide +kernel
theorem dX12_fees_13 : decode cX12_fees 13 = .ok (.aload_n 0, 1) := by decide +kernel
theorem dX12_fees_14 : decode cX12_fees 14 = .ok (.iconst 0, 1) := by decide +kernel
theorem dX12_fees_15 : decode cX12_fees 15 = .ok (.bipush 100, 2) := by decide +kernel
theorem dX12_fees_17 : decode cX12_fees 17 = .ok (.invokevirtual 269, 3) := by decide +kernel
theorem dX12_fees_20 : decode cX12_fees 20 = .ok (.ifCond .ne 5, 3) := by decide +kernel
theorem dX12_fees_23 : decode cX12_fees 23 = .ok (.iconst 0, 1) := by decide +kernel
theorem dX12_fees_24 : decode cX12_fees 24 = .ok (.ireturn, 1) := by decide +kernel
theorem dX12_fees_25 : decode cX12_fees 25 = .ok (.aload_n 0, 1) := by decide +kernel
theorem dX12_fees_26 : decode cX12_fees 26 = .ok (.getfield 63, 3) := by decide +kernel
theorem dX12_fees_29 : decode cX12_fees 29 = .ok (.iload_n 1, 1) := by decide +kernel
theorem dX12_fees_30 : decode cX12_fees 30 = .ok (.aload_n 0, 1) := by decide +kernel
theorem dX12_fees_31 : decode cX12_fees 31 = .ok (.getfield 265, 3) := by decide +kernel
theorem dX12_fees_34 : decode cX12_fees 34 = .ok (.iastore, 1) := by decide +kernel
theorem dX12_fees_35 : decode cX12_fees 35 = .ok (.aload_n 0, 1) := by decide +kernel
theorem dX12_fees_36 : decode cX12_fees 36 = .ok (.iconst 0, 1) := by decide +kernel
theorem dX12_fees_37 : decode cX12_fees 37 = .ok (.bipush 100, 2) := by decide +kernel
theorem dX12_fees_39 : decode cX12_fees 39 = .ok (.invokevirtual 269, 3) := by decide +kernel
theorem dX12_fees_42 : decode cX12_fees 42 = .ok (.ifCond .ne 5, 3) := by decide +kernel
theorem dX12_fees_45 : decode cX12_fees 45 = .ok (.iconst 0, 1) := by decide +kernel
theorem dX12_fees_46 : decode cX12_fees 46 = .ok (.ireturn, 1) := by decide +kernel
theorem dX12_fees_47 : decode cX12_fees 47 = .ok (.aload_n 0, 1) := by decide +kernel
theorem dX12_fees_48 : decode cX12_fees 48 = .ok (.getfield 66, 3) := by decide +kernel
theorem dX12_fees_51 : decode cX12_fees 51 = .ok (.iload_n 1, 1) := by decide +kernel
theorem dX12_fees_52 : decode cX12_fees 52 = .ok (.aload_n 0, 1) := by decide +kernel
theorem dX12_fees_53 : decode cX12_fees 53 = .ok (.getfield 265, 3) := by decide +kernel
theorem dX12_fees_56 : decode cX12_fees 56 = .ok (.iastore, 1) := by decide +kernel
theorem dX12_fees_57 : decode cX12_fees 57 = .ok (.iconst 1, 1) := by decide +kernel
theorem dX12_fees_58 : decode cX12_fees 58 = .ok (.ireturn, 1) := by decide +kernel
theorem dX12_votes_0 : decode cX12_votes 0 = .ok (.aload_n 0, 1) := by decide +kernel
theorem dX12_votes_1 : decode cX12_votes 1 = .ok (.getfield 57, 3) := by decide +kernel
theorem dX12_votes_4 : decode cX12_votes 4 = .ok (.iload_n 1, 1) := by decide +kernel
theorem dX12_votes_5 : decode cX12_votes 5 = .ok (.bipush 6, 2) := by decide +kernel
theorem dX12_votes_7 : decode cX12_votes 7 = .ok (.iastore, 1) := by decide +kernel
theorem dX12_votes_8 : decode cX12_votes 8 = .ok (.aload_n 0, 1) := by decide +kernel
theorem dX12_votes_9 : decode cX12_votes 9 = .ok (.getfield 60, 3) := by decide +kernel
theorem dX12_votes_12 : decode cX12_votes 12 = .ok (.iload_n 1, 1) := by decide +kernel
theorem dX12_votes_13 : decode cX12_votes 13 = .ok (.aload_n 0, 1) := by decide +kernel
theorem dX12_votes_14 : decode cX12_votes 14 = .ok (.ldc2_w 328, 3) := by decide +kernel
theorem dX12_votes_17 : decode cX12_votes 17 = .ok (.invokevirtual 372, 3) := by decide +kernel
theorem dX12_votes_20 : decode cX12_votes 20 = .ok (.ifCond .eq 7, 3) := by decide +kernel
theorem dX12_votes_23 : decode cX12_votes 23 = .ok (.iconst 0, 1) := by decide +kernel
theorem dX12_votes_24 : decode cX12_votes 24 = .ok (.goto 32, 3) := by decide +kernel
theorem dX12_votes_27 : decode cX12_votes 27 = .ok (.aload_n 0, 1) := by decide +kernel
theorem dX12_votes_28 : decode cX12_votes 28 = .ok (.ldc2_w 330, 3) := by decide +kernel
theorem dX12_votes_31 : decode cX12_votes 31 = .ok (.invokevirtual 372, 3) := by decide +kernel
theorem dX12_votes_34 : decode cX12_votes 34 = .ok (.ifCond .eq 7, 3) := by decide +kernel
theorem dX12_votes_37 : decode cX12_votes 37 = .ok (.iconst 1, 1) := by decide +kernel
theorem dX12_votes_38 : decode cX12_votes 38 = .ok (.goto 18, 3) := by decide +kernel
theorem dX12_votes_41 : decode cX12_votes 41 = .ok (.aload_n 0, 1) := by decide +kernel
theorem dX12_votes_42 : decode cX12_votes 42 = .ok (.ldc2_w 332, 3) := by decide +kernel
theorem dX12_votes_45 : decode cX12_votes 45 = .ok (.invokevirtual 372, 3) := by decide +kernel
theorem dX12_votes_48 : decode cX12_votes 48 = .ok (.ifCond .eq 7, 3) := by decide +kernel
theorem dX12_votes_51 : decode cX12_votes 51 = .ok (.iconst 2, 1) := by decide +kernel
theorem dX12_votes_52 : decode cX12_votes 52 = .ok (.goto 4, 3) := by decide +kernel
theorem dX12_votes_55 : decode cX12_votes 55 = .ok (.iconst (-1), 1) := by decide +kernel
theorem dX12_votes_56 : decode cX12_votes 56 = .ok (.iastore, 1) := by decide +kernel
theorem dX12_votes_57 : decode cX12_votes 57 = .ok (.aload_n 0, 1) := by decide +kernel
theorem dX12_votes_58 : decode cX12_votes 58 = .ok (.getfield 60, 3) := by decide +kernel
theorem dX12_votes_61 : decode cX12_votes 61 = .ok (.iload_n 1, 1) := by decide +kernel
theorem dX12_votes_62 : decode cX12_votes 62 = .ok (.iaload, 1) := by decide +kernel
theorem dX12_votes_63 : decode cX12_votes 63 = .ok (.iconst (-1), 1) := by decide +kernel
theorem dX12_votes_64 : decode cX12_votes 64 = .ok (.if_icmp .eq 7, 3) := by decide +kernel
theorem dX12_votes_67 : decode cX12_votes 67 = .ok (.iconst 1, 1) := by decide +kernel
theorem dX12_votes_68 : decode cX12_votes 68 = .ok (.goto 4, 3) := by decide +kernel
theorem dX12_votes_71 : decode cX12_votes 71 = .ok (.iconst 0, 1) := by decide +kernel
theorem dX12_votes_72 : decode cX12_votes 72 = .ok (.ireturn, 1) := by decide +kernel
theorem dX12_ties_0 : decode cX12_ties 0 = .ok (.aload_n 0, 1) := by decide +kernel
theorem dX12_ties_1 : decode cX12_ties 1 = .ok (.getfield 57, 3) := by decide +kernel
theorem dX12_ties_4 : decode cX12_ties 4 = .ok (.iload_n 1, 1) := by decide +kernel
theorem dX12_ties_5 : decode cX12_ties 5 = .ok (.bipush 7, 2) := by decide +kernel
theorem dX12_ties_7 : decode cX12_ties 7 = .ok (.iastore, 1) := by decide +kernel
theorem dX12_ties_8 : decode cX12_ties 8 = .ok (.aload_n 0, 1) := by decide +kernel
theorem dX12_ties_9 : decode cX12_ties 9 = .ok (.getfield 60, 3) := by decide +kernel
theorem dX12_ties_12 : decode cX12_ties 12 = .ok (.iload_n 1, 1) := by decide +kernel
theorem dX12_ties_13 : decode cX12_ties 13 = .ok (.aload_n 0, 1) := by decide +kernel
theorem dX12_ties_14 : decode cX12_ties 14 = .ok (.ldc2_w 336, 3) := by decide +kernel
theorem dX12_ties_17 : decode cX12_ties 17 = .ok (.invokevirtual 372, 3) := by decide +kernel
theorem dX12_ties_20 : decode cX12_ties 20 = .ok (.ifCond .eq 7, 3) := by decide +kernel
theorem dX12_ties_23 : decode cX12_ties 23 = .ok (.iconst 0, 1) := by decide +kernel
theorem dX12_ties_24 : decode cX12_ties 24 = .ok (.goto 18, 3) := by decide +kernel
theorem dX12_ties_27 : decode cX12_ties 27 = .ok (.aload_n 0, 1) := by decide +kernel
theorem dX12_ties_28 : decode cX12_ties 28 = .ok (.ldc2_w 338, 3) := by decide +kernel
theorem dX12_ties_31 : decode cX12_ties 31 = .ok (.invokevirtual 372, 3) := by decide +kernel
theorem dX12_ties_34 : decode cX12_ties 34 = .ok (.ifCond .eq 7, 3) := by decide +kernel
theorem dX12_ties_37 : decode cX12_ties 37 = .ok (.iconst 1, 1) := by decide +kernel
theorem dX12_ties_38 : decode cX12_ties 38 = .ok (.goto 4, 3) := by decide +kernel
theorem dX12_ties_41 : decode cX12_ties 41 = .ok (.iconst (-1), 1) := by decide +kernel
theorem dX12_ties_42 : decode cX12_ties 42 = .ok (.iastore, 1) := by decide +kernel
theorem dX12_ties_43 : decode cX12_ties 43 = .ok (.aload_n 0, 1) := by decide +kernel
theorem dX12_ties_44 : decode cX12_ties 44 = .ok (.getfield 60, 3) := by decide +kernel
theorem dX12_ties_47 : decode cX12_ties 47 = .ok (.iload_n 1, 1) := by decide +kernel
theorem dX12_ties_48 : decode cX12_ties 48 = .ok (.iaload, 1) := by decide +kernel
theorem dX12_ties_49 : decode cX12_ties 49 = .ok (.iconst (-1), 1) := by decide +kernel
theorem dX12_ties_50 : decode cX12_ties 50 = .ok (.if_icmp .eq 7, 3) := by decide +kernel
theorem dX12_ties_53 : decode cX12_ties 53 = .ok (.iconst 1, 1) := by decide +kernel
theorem dX12_ties_54 : decode cX12_ties 54 = .ok (.goto 4, 3) := by decide +kernel
theorem dX12_ties_57 : decode cX12_ties 57 = .ok (.iconst 0, 1) := by decide +kernel
theorem dX12_ties_58 : decode cX12_ties 58 = .ok (.ireturn, 1) := by decide +kernel
theorem dX12_reads_0 : decode cX12_reads 0 = .ok (.aload_n 0, 1) := by decide +kernel
theorem dX12_reads_1 : decode cX12_reads 1 = .ok (.ldc2_w 292, 3) := by decide +kernel
theorem dX12_reads_4 : decode cX12_reads 4 = .ok (.invokevirtual 372, 3) := by decide +kernel
theorem dX12_reads_7 : decode cX12_reads 7 = .ok (.ifCond .eq 9, 3) := by decide +kernel
theorem dX12_reads_10 : decode cX12_reads 10 = .ok (.aload_n 0, 1) := by decide +kernel
theorem dX12_reads_11 : decode cX12_reads 11 = .ok (.iload_n 1, 1) := by decide +kernel
theorem dX12_reads_12 : decode cX12_reads 12 = .ok (.invokevirtual 401, 3) := by decide +kernel
theorem dX12_reads_15 : decode cX12_reads 15 = .ok (.ireturn, 1) := by decide +kernel
theorem dX12_reads_16 : decode cX12_reads 16 = .ok (.aload_n 0, 1) := by decide +kernel
theorem dX12_reads_17 : decode cX12_reads 17 = .ok (.ldc2_w 298, 3) := by decide +kernel
theorem dX12_reads_20 : decode cX12_reads 20 = .ok (.invokevirtual 372, 3) := by decide +kernel
theorem dX12_reads_23 : decode cX12_reads 23 = .ok (.ifCond .eq 14, 3) := by decide +kernel
theorem dX12_reads_26 : decode cX12_reads 26 = .ok (.aload_n 0, 1) := by decide +kernel
theorem dX12_reads_27 : decode cX12_reads 27 = .ok (.iload_n 1, 1) := by decide +kernel
theorem dX12_reads_28 : decode cX12_reads 28 = .ok (.bipush 12, 2) := by decide +kernel
theorem dX12_reads_30 : decode cX12_reads 30 = .ok (.ldc2_w 300, 3) := by decide +kernel
theorem dX12_reads_33 : decode cX12_reads 33 = .ok (.invokevirtual 404, 3) := by decide +kernel
theorem dX12_reads_36 : decode cX12_reads 36 = .ok (.ireturn, 1) := by decide +kernel
theorem dX12_reads_37 : decode cX12_reads 37 = .ok (.aload_n 0, 1) := by decide +kernel
theorem dX12_reads_38 : decode cX12_reads 38 = .ok (.ldc2_w 302, 3) := by decide +kernel
theorem dX12_reads_41 : decode cX12_reads 41 = .ok (.invokevirtual 372, 3) := by decide +kernel
theorem dX12_reads_44 : decode cX12_reads 44 = .ok (.ifCond .eq 14, 3) := by decide +kernel
theorem dX12_reads_47 : decode cX12_reads 47 = .ok (.aload_n 0, 1) := by decide +kernel
theorem dX12_reads_48 : decode cX12_reads 48 = .ok (.iload_n 1, 1) := by decide +kernel
theorem dX12_reads_49 : decode cX12_reads 49 = .ok (.bipush 13, 2) := by decide +kernel
theorem dX12_reads_51 : decode cX12_reads 51 = .ok (.ldc2_w 304, 3) := by decide +kernel
theorem dX12_reads_54 : decode cX12_reads 54 = .ok (.invokevirtual 404, 3) := by decide +kernel
theorem dX12_reads_57 : decode cX12_reads 57 = .ok (.ireturn, 1) := by decide +kernel
theorem dX12_reads_58 : decode cX12_reads 58 = .ok (.aload_n 0, 1) := by decide +kernel
theorem dX12_reads_59 : decode cX12_reads 59 = .ok (.ldc2_w 306, 3) := by decide +kernel
theorem dX12_reads_62 : decode cX12_reads 62 = .ok (.invokevirtual 372, 3) := by decide +kernel
theorem dX12_reads_65 : decode cX12_reads 65 = .ok (.ifCond .eq 9, 3) := by decide +kernel
theorem dX12_reads_68 : decode cX12_reads 68 = .ok (.aload_n 0, 1) := by decide +kernel
theorem dX12_reads_69 : decode cX12_reads 69 = .ok (.iload_n 1, 1) := by decide +kernel
theorem dX12_reads_70 : decode cX12_reads 70 = .ok (.invokevirtual 408, 3) := by decide +kernel
theorem dX12_reads_73 : decode cX12_reads 73 = .ok (.ireturn, 1) := by decide +kernel
theorem dX12_reads_74 : decode cX12_reads 74 = .ok (.aload_n 0, 1) := by decide +kernel
theorem dX12_reads_75 : decode cX12_reads 75 = .ok (.ldc2_w 308, 3) := by decide +kernel
theorem dX12_reads_78 : decode cX12_reads 78 = .ok (.invokevirtual 372, 3) := by decide +kernel
theorem dX12_reads_81 : decode cX12_reads 81 = .ok (.ifCond .eq 14, 3) := by decide +kernel
theorem dX12_reads_84 : decode cX12_reads 84 = .ok (.aload_n 0, 1) := by decide +kernel
theorem dX12_reads_85 : decode cX12_reads 85 = .ok (.iload_n 1, 1) := by decide +kernel
theorem dX12_reads_86 : decode cX12_reads 86 = .ok (.iconst 0, 1) := by decide +kernel
theorem dX12_reads_87 : decode cX12_reads 87 = .ok (.iconst 0, 1) := by decide +kernel
theorem dX12_reads_88 : decode cX12_reads 88 = .ok (.sipush 9999, 3) := by decide +kernel
theorem dX12_reads_91 : decode cX12_reads 91 = .ok (.invokevirtual 397, 3) := by decide +kernel
theorem dX12_reads_94 : decode cX12_reads 94 = .ok (.ireturn, 1) := by decide +kernel
theorem dX12_reads_95 : decode cX12_reads 95 = .ok (.aload_n 0, 1) := by decide +kernel
theorem dX12_reads_96 : decode cX12_reads 96 = .ok (.ldc2_w 310, 3) := by decide +kernel
theorem dX12_reads_99 : decode cX12_reads 99 = .ok (.invokevirtual 372, 3) := by decide +kernel
theorem dX12_reads_102 : decode cX12_reads 102 = .ok (.ifCond .eq 14, 3) := by decide +kernel
theorem dX12_reads_105 : decode cX12_reads 105 = .ok (.aload_n 0, 1) := by decide +kernel
theorem dX12_reads_106 : decode cX12_reads 106 = .ok (.iload_n 1, 1) := by decide +kernel
theorem dX12_reads_107 : decode cX12_reads 107 = .ok (.iconst 1, 1) := by decide +kernel
theorem dX12_reads_108 : decode cX12_reads 108 = .ok (.iconst 0, 1) := by decide +kernel
theorem dX12_reads_109 : decode cX12_reads 109 = .ok (.sipush 9999, 3) := by decide +kernel
theorem dX12_reads_112 : decode cX12_reads 112 = .ok (.invokevirtual 397, 3) := by decide +kernel
theorem dX12_reads_115 : decode cX12_reads 115 = .ok (.ireturn, 1) := by decide +kernel
theorem dX12_reads_116 : decode cX12_reads 116 = .ok (.aload_n 0, 1) := by decide +kernel
theorem dX12_reads_117 : decode cX12_reads 117 = .ok (.ldc2_w 312, 3) := by decide +kernel
theorem dX12_reads_120 : decode cX12_reads 120 = .ok (.invokevirtual 372, 3) := by decide +kernel
theorem dX12_reads_123 : decode cX12_reads 123 = .ok (.ifCond .eq 14, 3) := by decide +kernel
theorem dX12_reads_126 : decode cX12_reads 126 = .ok (.aload_n 0, 1) := by decide +kernel
theorem dX12_reads_127 : decode cX12_reads 127 = .ok (.iload_n 1, 1) := by decide +kernel
theorem dX12_reads_128 : decode cX12_reads 128 = .ok (.iconst 2, 1) := by decide +kernel
theorem dX12_reads_129 : decode cX12_reads 129 = .ok (.iconst 0, 1) := by decide +kernel
theorem dX12_reads_130 : decode cX12_reads 130 = .ok (.sipush 9999, 3) := by decide +kernel
theorem dX12_reads_133 : decode cX12_reads 133 = .ok (.invokevirtual 397, 3) := by decide +kernel
theorem dX12_reads_136 : decode cX12_reads 136 = .ok (.ireturn, 1) := by decide +kernel
theorem dX12_reads_137 : decode cX12_reads 137 = .ok (.aload_n 0, 1) := by decide +kernel
theorem dX12_reads_138 : decode cX12_reads 138 = .ok (.ldc2_w 278, 3) := by decide +kernel
theorem dX12_reads_141 : decode cX12_reads 141 = .ok (.invokevirtual 372, 3) := by decide +kernel
theorem dX12_reads_144 : decode cX12_reads 144 = .ok (.ifCond .eq 9, 3) := by decide +kernel
theorem dX12_reads_147 : decode cX12_reads 147 = .ok (.aload_n 0, 1) := by decide +kernel
theorem dX12_reads_148 : decode cX12_reads 148 = .ok (.iload_n 1, 1) := by decide +kernel
theorem dX12_reads_149 : decode cX12_reads 149 = .ok (.invokevirtual 411, 3) := by decide +kernel
theorem dX12_reads_152 : decode cX12_reads 152 = .ok (.ireturn, 1) := by decide +kernel
theorem dX12_reads_153 : decode cX12_reads 153 = .ok (.aload_n 0, 1) := by decide +kernel
theorem dX12_reads_154 : decode cX12_reads 154 = .ok (.ldc2_w 318, 3) := by decide +kernel
theorem dX12_reads_157 : decode cX12_reads 157 = .ok (.invokevirtual 372, 3) := by decide +kernel
theorem dX12_reads_160 : decode cX12_reads 160 = .ok (.ifCond .eq 9, 3) := by decide +kernel
theorem dX12_reads_163 : decode cX12_reads 163 = .ok (.aload_n 0, 1) := by decide +kernel
theorem dX12_reads_164 : decode cX12_reads 164 = .ok (.iload_n 1, 1) := by decide +kernel
theorem dX12_reads_165 : decode cX12_reads 165 = .ok (.invokevirtual 414, 3) := by decide +kernel
theorem dX12_reads_168 : decode cX12_reads 168 = .ok (.ireturn, 1) := by decide +kernel
theorem dX12_reads_169 : decode cX12_reads 169 = .ok (.aload_n 0, 1) := by decide +kernel
theorem dX12_reads_170 : decode cX12_reads 170 = .ok (.ldc2_w 322, 3) := by decide +kernel
theorem dX12_reads_173 : decode cX12_reads 173 = .ok (.invokevirtual 372, 3) := by decide +kernel
theorem dX12_reads_176 : decode cX12_reads 176 = .ok (.ifCond .eq 14, 3) := by decide +kernel
theorem dX12_reads_179 : decode cX12_reads 179 = .ok (.aload_n 0, 1) := by decide +kernel
theorem dX12_reads_180 : decode cX12_reads 180 = .ok (.iload_n 1, 1) := by decide +kernel
theorem dX12_reads_181 : decode cX12_reads 181 = .ok (.iconst 4, 1) := by decide +kernel
theorem dX12_reads_182 : decode cX12_reads 182 = .ok (.iconst 0, 1) := by decide +kernel
theorem dX12_reads_183 : decode cX12_reads 183 = .ok (.ldc_w 268, 3) := by decide +kernel
theorem dX12_reads_186 : decode cX12_reads 186 = .ok (.invokevirtual 397, 3) := by decide +kernel
theorem dX12_reads_189 : decode cX12_reads 189 = .ok (.ireturn, 1) := by decide +kernel
theorem dX12_reads_190 : decode cX12_reads 190 = .ok (.aload_n 0, 1) := by decide +kernel
theorem dX12_reads_191 : decode cX12_reads 191 = .ok (.ldc2_w 324, 3) := by decide +kernel
theorem dX12_reads_194 : decode cX12_reads 194 = .ok (.invokevirtual 372, 3) := by decide +kernel
theorem dX12_reads_197 : decode cX12_reads 197 = .ok (.ifCond .eq 13, 3) := by decide +kernel
theorem dX12_reads_200 : decode cX12_reads 200 = .ok (.aload_n 0, 1) := by decide +kernel
theorem dX12_reads_201 : decode cX12_reads 201 = .ok (.iload_n 1, 1) := by decide +kernel
theorem dX12_reads_202 : decode cX12_reads 202 = .ok (.iconst 5, 1) := by decide +kernel
theorem dX12_reads_203 : decode cX12_reads 203 = .ok (.iconst 1, 1) := by decide +kernel
theorem dX12_reads_204 : decode cX12_reads 204 = .ok (.bipush 10, 2) := by decide +kernel
theorem dX12_reads_206 : decode cX12_reads 206 = .ok (.invokevirtual 397, 3) := by decide +kernel
theorem dX12_reads_209 : decode cX12_reads 209 = .ok (.ireturn, 1) := by decide +kernel
theorem dX12_reads_210 : decode cX12_reads 210 = .ok (.aload_n 0, 1) := by decide +kernel
theorem dX12_reads_211 : decode cX12_reads 211 = .ok (.ldc2_w 326, 3) := by decide +kernel
theorem dX12_reads_214 : decode cX12_reads 214 = .ok (.invokevirtual 372, 3) := by decide +kernel
theorem dX12_reads_217 : decode cX12_reads 217 = .ok (.ifCond .eq 9, 3) := by decide +kernel
theorem dX12_reads_220 : decode cX12_reads 220 = .ok (.aload_n 0, 1) := by decide +kernel
theorem dX12_reads_221 : decode cX12_reads 221 = .ok (.iload_n 1, 1) := by decide +kernel
theorem dX12_reads_222 : decode cX12_reads 222 = .ok (.invokevirtual 417, 3) := by decide +kernel
theorem dX12_reads_225 : decode cX12_reads 225 = .ok (.ireturn, 1) := by decide +kernel
theorem dX12_reads_226 : decode cX12_reads 226 = .ok (.aload_n 0, 1) := by decide +kernel
theorem dX12_reads_227 : decode cX12_reads 227 = .ok (.ldc2_w 334, 3) := by decide +kernel
theorem dX12_reads_230 : decode cX12_reads 230 = .ok (.invokevirtual 372, 3) := by decide +kernel
theorem dX12_reads_233 : decode cX12_reads 233 = .ok (.ifCond .eq 9, 3) := by decide +kernel
theorem dX12_reads_236 : decode cX12_reads 236 = .ok (.aload_n 0, 1) := by decide +kernel
theorem dX12_reads_237 : decode cX12_reads 237 = .ok (.iload_n 1, 1) := by decide +kernel
theorem dX12_reads_238 : decode cX12_reads 238 = .ok (.invokevirtual 420, 3) := by decide +kernel
theorem dX12_reads_241 : decode cX12_reads 241 = .ok (.ireturn, 1) := by decide +kernel
theorem dX12_reads_242 : decode cX12_reads 242 = .ok (.aload_n 0, 1) := by decide +kernel
theorem dX12_reads_243 : decode cX12_reads 243 = .ok (.ldc2_w 340, 3) := by decide +kernel
theorem dX12_reads_246 : decode cX12_reads 246 = .ok (.invokevirtual 372, 3) := by decide +kernel
theorem dX12_reads_249 : decode cX12_reads 249 = .ok (.ifCond .eq 15, 3) := by decide +kernel
theorem dX12_reads_252 : decode cX12_reads 252 = .ok (.aload_n 0, 1) := by decide +kernel
theorem dX12_reads_253 : decode cX12_reads 253 = .ok (.iload_n 1, 1) := by decide +kernel
theorem dX12_reads_254 : decode cX12_reads 254 = .ok (.invokevirtual 423, 3) := by decide +kernel
theorem dX12_reads_257 : decode cX12_reads 257 = .ok (.ifCond .eq 7, 3) := by decide +kernel
theorem dX12_reads_260 : decode cX12_reads 260 = .ok (.iconst 1, 1) := by decide +kernel
theorem dX12_reads_261 : decode cX12_reads 261 = .ok (.goto 4, 3) := by decide +kernel
theorem dX12_reads_264 : decode cX12_reads 264 = .ok (.iconst 0, 1) := by decide +kernel
theorem dX12_reads_265 : decode cX12_reads 265 = .ok (.ireturn, 1) := by decide +kernel
theorem dX12_brief_0 : decode cX12_brief 0 = .ok (.iload_n 1, 1) := by decide +kernel
theorem dX12_brief_1 : decode cX12_brief 1 = .ok (.iconst 0, 1) := by decide +kernel
theorem dX12_brief_2 : decode cX12_brief 2 = .ok (.aload_n 0, 1) := by decide +kernel
theorem dX12_brief_3 : decode cX12_brief 3 = .ok (.getfield 245, 3) := by decide +kernel
theorem dX12_brief_6 : decode cX12_brief 6 = .ok (.invokestatic 140, 3) := by decide +kernel
theorem dX12_brief_9 : decode cX12_brief 9 = .ok (.ifCond .ne 6, 3) := by decide +kernel
theorem dX12_brief_12 : decode cX12_brief 12 = .ok (.bipush (-2), 2) := by decide +kernel
theorem dX12_brief_14 : decode cX12_brief 14 = .ok (.ireturn, 1) := by decide +kernel
theorem dX12_brief_15 : decode cX12_brief 15 = .ok (.aload_n 0, 1) := by decide +kernel
theorem dX12_brief_16 : decode cX12_brief 16 = .ok (.getfield 426, 3) := by decide +kernel
theorem dX12_brief_19 : decode cX12_brief 19 = .ok (.bipush 6, 2) := by decide +kernel
theorem dX12_brief_21 : decode cX12_brief 21 = .ok (.if_icmp .ne 6, 3) := by decide +kernel
theorem dX12_brief_24 : decode cX12_brief 24 = .ok (.bipush (-3), 2) := by decide +kernel
theorem dX12_brief_26 : decode cX12_brief 26 = .ok (.ireturn, 1) := by decide +kernel
theorem dX12_brief_27 : decode cX12_brief 27 = .ok (.aload_n 0, 1) := by decide +kernel
theorem dX12_brief_28 : decode cX12_brief 28 = .ok (.iload_n 1, 1) := by decide +kernel
theorem dX12_brief_29 : decode cX12_brief 29 = .ok (.invokevirtual 429, 3) := by decide +kernel
theorem dX12_brief_32 : decode cX12_brief 32 = .ok (.aload_n 0, 1) := by decide +kernel
theorem dX12_brief_33 : decode cX12_brief 33 = .ok (.getfield 362, 3) := by decide +kernel
theorem dX12_brief_36 : decode cX12_brief 36 = .ok (.istore_n 2, 1) := by decide +kernel
theorem dX12_brief_37 : decode cX12_brief 37 = .ok (.aload_n 0, 1) := by decide +kernel
theorem dX12_brief_38 : decode cX12_brief 38 = .ok (.getfield 273, 3) := by decide +kernel
theorem dX12_brief_41 : decode cX12_brief 41 = .ok (.istore_n 3, 1) := by decide +kernel
theorem dX12_brief_42 : decode cX12_brief 42 = .ok (.aload_n 0, 1) := by decide +kernel
theorem dX12_brief_43 : decode cX12_brief 43 = .ok (.iconst 0, 1) := by decide +kernel
theorem dX12_brief_44 : decode cX12_brief 44 = .ok (.putfield 359, 3) := by decide +kernel
theorem dX12_brief_47 : decode cX12_brief 47 = .ok (.aload_n 0, 1) := by decide +kernel
theorem dX12_brief_48 : decode cX12_brief 48 = .ok (.getfield 51, 3) := by decide +kernel
theorem dX12_brief_51 : decode cX12_brief 51 = .ok (.aload_n 0, 1) := by decide +kernel
theorem dX12_brief_52 : decode cX12_brief 52 = .ok (.getfield 426, 3) := by decide +kernel
theorem dX12_brief_55 : decode cX12_brief 55 = .ok (.iconst 0, 1) := by decide +kernel
theorem dX12_brief_56 : decode cX12_brief 56 = .ok (.iastore, 1) := by decide +kernel
theorem dX12_brief_57 : decode cX12_brief 57 = .ok (.iconst 1, 1) := by decide +kernel
theorem dX12_brief_58 : decode cX12_brief 58 = .ok (.istore 4, 2) := by decide +kernel
theorem dX12_brief_60 : decode cX12_brief 60 = .ok (.aload_n 0, 1) := by decide +kernel
theorem dX12_brief_61 : decode cX12_brief 61 = .ok (.invokevirtual 256, 3) := by decide +kernel
theorem dX12_brief_64 : decode cX12_brief 64 = .ok (.iload 4, 2) := by decide +kernel
theorem dX12_brief_66 : decode cX12_brief 66 = .ok (.ifCond .eq 96, 3) := by decide +kernel
theorem dX12_brief_69 : decode cX12_brief 69 = .ok (.aload_n 0, 1) := by decide +kernel
theorem dX12_brief_70 : decode cX12_brief 70 = .ok (.getfield 254, 3) := by decide +kernel
theorem dX12_brief_73 : decode cX12_brief 73 = .ok (.aload_n 0, 1) := by decide +kernel
theorem dX12_brief_74 : decode cX12_brief 74 = .ok (.getfield 251, 3) := by decide +kernel
theorem dX12_brief_77 : decode cX12_brief 77 = .ok (.if_icmp .ge 85, 3) := by decide +kernel
theorem dX12_brief_80 : decode cX12_brief 80 = .ok (.aload_n 0, 1) := by decide +kernel
theorem dX12_brief_81 : decode cX12_brief 81 = .ok (.getfield 51, 3) := by decide +kernel
theorem dX12_brief_84 : decode cX12_brief 84 = .ok (.aload_n 0, 1) := by decide +kernel
theorem dX12_brief_85 : decode cX12_brief 85 = .ok (.getfield 426, 3) := by decide +kernel
theorem dX12_brief_88 : decode cX12_brief 88 = .ok (.iaload, 1) := by decide +kernel
theorem dX12_brief_89 : decode cX12_brief 89 = .ok (.bipush 40, 2) := by decide +kernel
theorem dX12_brief_91 : decode cX12_brief 91 = .ok (.if_icmp .ge 40, 3) := by decide +kernel
theorem dX12_brief_94 : decode cX12_brief 94 = .ok (.aload_n 0, 1) := by decide +kernel
theorem dX12_brief_95 : decode cX12_brief 95 = .ok (.bipush 40, 2) := by decide +kernel
theorem dX12_brief_97 : decode cX12_brief 97 = .ok (.aload_n 0, 1) := by decide +kernel
theorem dX12_brief_98 : decode cX12_brief 98 = .ok (.getfield 426, 3) := by decide +kernel
theorem dX12_brief_101 : decode cX12_brief 101 = .ok (.imul, 1) := by decide +kernel
theorem dX12_brief_102 : decode cX12_brief 102 = .ok (.aload_n 0, 1) := by decide +kernel
theorem dX12_brief_103 : decode cX12_brief 103 = .ok (.getfield 51, 3) := by decide +kernel
theorem dX12_brief_106 : decode cX12_brief 106 = .ok (.aload_n 0, 1) := by decide +kernel
theorem dX12_brief_107 : decode cX12_brief 107 = .ok (.getfield 426, 3) := by decide +kernel
theorem dX12_brief_110 : decode cX12_brief 110 = .ok (.iaload, 1) := by decide +kernel
theorem dX12_brief_111 : decode cX12_brief 111 = .ok (.iadd, 1) := by decide +kernel
theorem dX12_brief_112 : decode cX12_brief 112 = .ok (.invokevirtual 432, 3) := by decide +kernel
theorem dX12_brief_115 : decode cX12_brief 115 = .ok (.ifCond .eq 16, 3) := by decide +kernel
theorem dX12_brief_118 : decode cX12_brief 118 = .ok (.aload_n 0, 1) := by decide +kernel
theorem dX12_brief_119 : decode cX12_brief 119 = .ok (.bipush 59, 2) := by decide +kernel
theorem dX12_brief_121 : decode cX12_brief 121 = .ok (.invokevirtual 384, 3) := by decide +kernel
theorem dX12_brief_124 : decode cX12_brief 124 = .ok (.ifCond .eq 7, 3) := by decide +kernel
theorem dX12_brief_127 : decode cX12_brief 127 = .ok (.iconst 1, 1) := by decide +kernel
theorem dX12_brief_128 : decode cX12_brief 128 = .ok (.goto 4, 3) := by decide +kernel
theorem dX12_brief_131 : decode cX12_brief 131 = .ok (.iconst 0, 1) := by decide +kernel
theorem dX12_brief_132 : decode cX12_brief 132 = .ok (.istore 4, 2) := by decide +kernel
theorem dX12_brief_134 : decode cX12_brief 134 = .ok (.iload 4, 2) := by decide +kernel
theorem dX12_brief_136 : decode cX12_brief 136 = .ok (.ifCond .ne 6, 3) := by decide +kernel
theorem dX12_brief_139 : decode cX12_brief 139 = .ok (.goto (-75), 3) := by decide +kernel
theorem dX12_brief_142 : decode cX12_brief 142 = .ok (.aload_n 0, 1) := by decide +kernel
theorem dX12_brief_143 : decode cX12_brief 143 = .ok (.getfield 51, 3) := by decide +kernel
theorem dX12_brief_146 : decode cX12_brief 146 = .ok (.aload_n 0, 1) := by decide +kernel
theorem dX12_brief_147 : decode cX12_brief 147 = .ok (.getfield 426, 3) := by decide +kernel
theorem dX12_brief_150 : decode cX12_brief 150 = .ok (.dup2, 1) := by decide +kernel
theorem dX12_brief_151 : decode cX12_brief 151 = .ok (.iaload, 1) := by decide +kernel
theorem dX12_brief_152 : decode cX12_brief 152 = .ok (.iconst 1, 1) := by decide +kernel
theorem dX12_brief_153 : decode cX12_brief 153 = .ok (.iadd, 1) := by decide +kernel
theorem dX12_brief_154 : decode cX12_brief 154 = .ok (.iastore, 1) := by decide +kernel
theorem dX12_brief_155 : decode cX12_brief 155 = .ok (.aload_n 0, 1) := by decide +kernel
theorem dX12_brief_156 : decode cX12_brief 156 = .ok (.invokevirtual 256, 3) := by decide +kernel
theorem dX12_brief_159 : decode cX12_brief 159 = .ok (.goto (-95), 3) := by decide +kernel
theorem dX12_brief_162 : decode cX12_brief 162 = .ok (.aload_n 0, 1) := by decide +kernel
theorem dX12_brief_163 : decode cX12_brief 163 = .ok (.iload 4, 2) := by decide +kernel
theorem dX12_brief_165 : decode cX12_brief 165 = .ok (.ifCond .eq 7, 3) := by decide +kernel
theorem dX12_brief_168 : decode cX12_brief 168 = .ok (.iconst (-1), 1) := by decide +kernel
theorem dX12_brief_169 : decode cX12_brief 169 = .ok (.goto 7, 3) := by decide +kernel
theorem dX12_brief_172 : decode cX12_brief 172 = .ok (.aload_n 0, 1) := by decide +kernel
theorem dX12_brief_173 : decode cX12_brief 173 = .ok (.getfield 254, 3) := by decide +kernel
theorem dX12_brief_176 : decode cX12_brief 176 = .ok (.putfield 48, 3) := by decide +kernel
theorem dX12_brief_179 : decode cX12_brief 179 = .ok (.iload 4, 2) := by decide +kernel
theorem dX12_brief_181 : decode cX12_brief 181 = .ok (.ifCond .ne 15, 3) := by decide +kernel
theorem dX12_brief_184 : decode cX12_brief 184 = .ok (.aload_n 0, 1) := by decide +kernel
theorem dX12_brief_185 : decode cX12_brief 185 = .ok (.iload_n 2, 1) := by decide +kernel
theorem dX12_brief_186 : decode cX12_brief 186 = .ok (.putfield 362, 3) := by decide +kernel
theorem dX12_brief_189 : decode cX12_brief 189 = .ok (.aload_n 0, 1) := by decide +kernel
theorem dX12_brief_190 : decode cX12_brief 190 = .ok (.iload_n 3, 1) := by decide +kernel
theorem dX12_brief_191 : decode cX12_brief 191 = .ok (.putfield 273, 3) := by decide +kernel
theorem dX12_brief_194 : decode cX12_brief 194 = .ok (.iconst (-1), 1) := by decide +kernel
theorem dX12_brief_195 : decode cX12_brief 195 = .ok (.ireturn, 1) := by decide +kernel
theorem dX12_brief_196 : decode cX12_brief 196 = .ok (.aload_n 0, 1) := by decide +kernel
theorem dX12_brief_197 : decode cX12_brief 197 = .ok (.getfield 54, 3) := by decide +kernel
theorem dX12_brief_200 : decode cX12_brief 200 = .ok (.aload_n 0, 1) := by decide +kernel
theorem dX12_brief_201 : decode cX12_brief 201 = .ok (.getfield 426, 3) := by decide +kernel
theorem dX12_brief_204 : decode cX12_brief 204 = .ok (.aload_n 0, 1) := by decide +kernel
theorem dX12_brief_205 : decode cX12_brief 205 = .ok (.getfield 144, 3) := by decide +kernel
theorem dX12_brief_208 : decode cX12_brief 208 = .ok (.iastore, 1) := by decide +kernel
theorem dX12_brief_209 : decode cX12_brief 209 = .ok (.aload_n 0, 1) := by decide +kernel
theorem dX12_brief_210 : decode cX12_brief 210 = .ok (.dup, 1) := by decide +kernel
theorem dX12_brief_211 : decode cX12_brief 211 = .ok (.getfield 426, 3) := by decide +kernel
theorem dX12_brief_214 : decode cX12_brief 214 = .ok (.iconst 1, 1) := by decide +kernel
theorem dX12_brief_215 : decode cX12_brief 215 = .ok (.iadd, 1) := by decide +kernel
theorem dX12_brief_216 : decode cX12_brief 216 = .ok (.putfield 426, 3) := by decide +kernel
theorem dX12_brief_219 : decode cX12_brief 219 = .ok (.aload_n 0, 1) := by decide +kernel
theorem dX12_brief_220 : decode cX12_brief 220 = .ok (.dup, 1) := by decide +kernel
theorem dX12_brief_221 : decode cX12_brief 221 = .ok (.getfield 7, 3) := by decide +kernel
theorem dX12_brief_224 : decode cX12_brief 224 = .ok (.iconst 1, 1) := by decide +kernel
theorem dX12_brief_225 : decode cX12_brief 225 = .ok (.iadd, 1) := by decide +kernel
theorem dX12_brief_226 : decode cX12_brief 226 = .ok (.putfield 7, 3) := by decide +kernel
theorem dX12_brief_229 : decode cX12_brief 229 = .ok (.aload_n 0, 1) := by decide +kernel
theorem dX12_brief_230 : decode cX12_brief 230 = .ok (.getfield 426, 3) := by decide +kernel
theorem dX12_brief_233 : decode cX12_brief 233 = .ok (.iconst 1, 1) := by decide +kernel
theorem dX12_brief_234 : decode cX12_brief 234 = .ok (.isub, 1) := by decide +kernel
theorem dX12_brief_235 : decode cX12_brief 235 = .ok (.ireturn, 1) := by decide +kernel
theorem dX12_fault_0 : decode cX12_fault 0 = .ok (.aload_n 0, 1) := by decide +kernel
theorem dX12_fault_1 : decode cX12_fault 1 = .ok (.getfield 48, 3) := by decide +kernel
theorem dX12_fault_4 : decode cX12_fault 4 = .ok (.ireturn, 1) := by decide +kernel
theorem dX12_binds_0 : decode cX12_binds 0 = .ok (.iload_n 1, 1) := by decide +kernel
theorem dX12_binds_1 : decode cX12_binds 1 = .ok (.invokestatic 206, 3) := by decide +kernel
theorem dX12_binds_4 : decode cX12_binds 4 = .ok (.ifCond .eq 11, 3) := by decide +kernel
theorem dX12_binds_7 : decode cX12_binds 7 = .ok (.aload_n 0, 1) := by decide +kernel
theorem dX12_binds_8 : decode cX12_binds 8 = .ok (.iload_n 1, 1) := by decide +kernel
theorem dX12_binds_9 : decode cX12_binds 9 = .ok (.invokevirtual 209, 3) := by decide +kernel
theorem dX12_binds_12 : decode cX12_binds 12 = .ok (.goto 4, 3) := by decide +kernel
theorem dX12_binds_15 : decode cX12_binds 15 = .ok (.iconst (-1), 1) := by decide +kernel
theorem dX12_binds_16 : decode cX12_binds 16 = .ok (.ireturn, 1) := by decide +kernel
theorem dX12_can_0 : decode cX12_can 0 = .ok (.lconst 0, 1) := by decide +kernel
theorem dX12_can_1 : decode cX12_can 1 = .ok (.lstore_n 2, 1) := by decide +kernel
theorem dX12_can_2 : decode cX12_can 2 = .ok (.lconst 0, 1) := by decide +kernel
theorem dX12_can_3 : decode cX12_can 3 = .ok (.lstore 4, 2) := by decide +kernel
theorem dX12_can_5 : decode cX12_can 5 = .ok (.iconst (-1), 1) := by decide +kernel
theorem dX12_can_6 : decode cX12_can 6 = .ok (.istore 6, 2) := by decide +kernel
theorem dX12_can_8 : decode cX12_can 8 = .ok (.iconst 1, 1) := by decide +kernel
theorem dX12_can_9 : decode cX12_can 9 = .ok (.istore 7, 2) := by decide +kernel
theorem dX12_can_11 : decode cX12_can 11 = .ok (.iload 7, 2) := by decide +kernel
theorem dX12_can_13 : decode cX12_can 13 = .ok (.bipush 12, 2) := by decide +kernel
theorem dX12_can_15 : decode cX12_can 15 = .ok (.if_icmp .gt 106, 3) := by decide +kernel
theorem dX12_can_18 : decode cX12_can 18 = .ok (.iconst 0, 1) := by decide +kernel
theorem dX12_can_19 : decode cX12_can 19 = .ok (.istore 8, 2) := by decide +kernel
theorem dX12_can_21 : decode cX12_can 21 = .ok (.bipush 40, 2) := by decide +kernel
theorem dX12_can_23 : decode cX12_can 23 = .ok (.iload_n 1, 1) := by decide +kernel
theorem dX12_can_24 : decode cX12_can 24 = .ok (.imul, 1) := by decide +kernel
theorem dX12_can_25 : decode cX12_can 25 = .ok (.istore 9, 2) := by decide +kernel
theorem dX12_can_27 : decode cX12_can 27 = .ok (.iload_n 1, 1) := by decide +kernel
theorem dX12_can_28 : decode cX12_can 28 = .ok (.iconst (-1), 1) := by decide +kernel
theorem dX12_can_29 : decode cX12_can 29 = .ok (.if_icmp .eq 63, 3) := by decide +kernel
theorem dX12_can_32 : decode cX12_can 32 = .ok (.iload 9, 2) := by decide +kernel
theorem dX12_can_34 : decode cX12_can 34 = .ok (.bipush 40, 2) := by decide +kernel
theorem dX12_can_36 : decode cX12_can 36 = .ok (.iload_n 1, 1) := by decide +kernel
theorem dX12_can_37 : decode cX12_can 37 = .ok (.imul, 1) := by decide +kernel
theorem dX12_can_38 : decode cX12_can 38 = .ok (.aload_n 0, 1) := by decide +kernel
theorem dX12_can_39 : decode cX12_can 39 = .ok (.getfield 51, 3) := by decide +kernel
theorem dX12_can_42 : decode cX12_can 42 = .ok (.iload_n 1, 1) := by decide +kernel
theorem dX12_can_43 : decode cX12_can 43 = .ok (.iaload, 1) := by decide +kernel
theorem dX12_can_44 : decode cX12_can 44 = .ok (.iadd, 1) := by decide +kernel
theorem dX12_can_45 : decode cX12_can 45 = .ok (.if_icmp .ge 47, 3) := by decide +kernel
theorem dX12_can_48 : decode cX12_can 48 = .ok (.aload_n 0, 1) := by decide +kernel
theorem dX12_can_49 : decode cX12_can 49 = .ok (.getfield 57, 3) := by decide +kernel
theorem dX12_can_52 : decode cX12_can 52 = .ok (.iload 9, 2) := by decide +kernel
theorem dX12_can_54 : decode cX12_can 54 = .ok (.iaload, 1) := by decide +kernel
theorem dX12_can_55 : decode cX12_can 55 = .ok (.bipush 11, 2) := by decide +kernel
theorem dX12_can_57 : decode cX12_can 57 = .ok (.if_icmp .ne 29, 3) := by decide +kernel
theorem dX12_can_60 : decode cX12_can 60 = .ok (.aload_n 0, 1) := by decide +kernel
theorem dX12_can_61 : decode cX12_can 61 = .ok (.getfield 60, 3) := by decide +kernel
theorem dX12_can_64 : decode cX12_can 64 = .ok (.iload 9, 2) := by decide +kernel
theorem dX12_can_66 : decode cX12_can 66 = .ok (.iaload, 1) := by decide +kernel
theorem dX12_can_67 : decode cX12_can 67 = .ok (.iload 7, 2) := by decide +kernel
theorem dX12_can_69 : decode cX12_can 69 = .ok (.if_icmp .ne 17, 3) := by decide +kernel
theorem dX12_can_72 : decode cX12_can 72 = .ok (.iload 8, 2) := by decide +kernel
theorem dX12_can_74 : decode cX12_can 74 = .ok (.aload_n 0, 1) := by decide +kernel
theorem dX12_can_75 : decode cX12_can 75 = .ok (.getfield 63, 3) := by decide +kernel
theorem dX12_can_78 : decode cX12_can 78 = .ok (.iload 9, 2) := by decide +kernel
theorem dX12_can_80 : decode cX12_can 80 = .ok (.iaload, 1) := by decide +kernel
theorem dX12_can_81 : decode cX12_can 81 = .ok (.invokestatic 169, 3) := by decide +kernel
theorem dX12_can_84 : decode cX12_can 84 = .ok (.istore 8, 2) := by decide +kernel
theorem dX12_can_86 : decode cX12_can 86 = .ok (.iinc 9 1, 3) := by decide +kernel
theorem dX12_can_89 : decode cX12_can 89 = .ok (.goto (-62), 3) := by decide +kernel
theorem dX12_can_92 : decode cX12_can 92 = .ok (.lload_n 2, 1) := by decide +kernel
theorem dX12_can_93 : decode cX12_can 93 = .ok (.iload 8, 2) := by decide +kernel
theorem dX12_can_95 : decode cX12_can 95 = .ok (.i2l, 1) := by decide +kernel
theorem dX12_can_96 : decode cX12_can 96 = .ok (.ladd, 1) := by decide +kernel
theorem dX12_can_97 : decode cX12_can 97 = .ok (.lstore_n 2, 1) := by decide +kernel
theorem dX12_can_98 : decode cX12_can 98 = .ok (.lload 4, 2) := by decide +kernel
theorem dX12_can_100 : decode cX12_can 100 = .ok (.iload 8, 2) := by decide +kernel
theorem dX12_can_102 : decode cX12_can 102 = .ok (.i2l, 1) := by decide +kernel
theorem dX12_can_103 : decode cX12_can 103 = .ok (.aload_n 0, 1) := by decide +kernel
theorem dX12_can_104 : decode cX12_can 104 = .ok (.iload_n 1, 1) := by decide +kernel
theorem dX12_can_105 : decode cX12_can 105 = .ok (.iload 7, 2) := by decide +kernel
theorem dX12_can_107 : decode cX12_can 107 = .ok (.invokevirtual 203, 3) := by decide +kernel
theorem dX12_can_110 : decode cX12_can 110 = .ok (.i2l, 1) := by decide +kernel
theorem dX12_can_111 : decode cX12_can 111 = .ok (.lmul, 1) := by decide +kernel
theorem dX12_can_112 : decode cX12_can 112 = .ok (.ladd, 1) := by decide +kernel
theorem dX12_can_113 : decode cX12_can 113 = .ok (.lstore 4, 2) := by decide +kernel
theorem dX12_can_115 : decode cX12_can 115 = .ok (.iinc 7 1, 3) := by decide +kernel
theorem dX12_can_118 : decode cX12_can 118 = .ok (.goto (-107), 3) := by decide +kernel
theorem dX12_can_121 : decode cX12_can 121 = .ok (.bipush 40, 2) := by decide +kernel
theorem dX12_can_123 : decode cX12_can 123 = .ok (.iload_n 1, 1) := by decide +kernel
theorem dX12_can_124 : decode cX12_can 124 = .ok (.imul, 1) := by decide +kernel
theorem dX12_can_125 : decode cX12_can 125 = .ok (.istore 7, 2) := by decide +kernel
theorem dX12_can_127 : decode cX12_can 127 = .ok (.iload_n 1, 1) := by decide +kernel
theorem dX12_can_128 : decode cX12_can 128 = .ok (.iconst (-1), 1) := by decide +kernel
theorem dX12_can_129 : decode cX12_can 129 = .ok (.if_icmp .eq 67, 3) := by decide +kernel
theorem dX12_can_132 : decode cX12_can 132 = .ok (.iload 7, 2) := by decide +kernel
theorem dX12_can_134 : decode cX12_can 134 = .ok (.bipush 40, 2) := by decide +kernel
theorem dX12_can_136 : decode cX12_can 136 = .ok (.iload_n 1, 1) := by decide +kernel
theorem dX12_can_137 : decode cX12_can 137 = .ok (.imul, 1) := by decide +kernel
theorem dX12_can_138 : decode cX12_can 138 = .ok (.aload_n 0, 1) := by decide +kernel
theorem dX12_can_139 : decode cX12_can 139 = .ok (.getfield 51, 3) := by decide +kernel
theorem dX12_can_142 : decode cX12_can 142 = .ok (.iload_n 1, 1) := by decide +kernel
theorem dX12_can_143 : decode cX12_can 143 = .ok (.iaload, 1) := by decide +kernel
theorem dX12_can_144 : decode cX12_can 144 = .ok (.iadd, 1) := by decide +kernel
theorem dX12_can_145 : decode cX12_can 145 = .ok (.if_icmp .ge 51, 3) := by decide +kernel
theorem dX12_can_148 : decode cX12_can 148 = .ok (.aload_n 0, 1) := by decide +kernel
theorem dX12_can_149 : decode cX12_can 149 = .ok (.getfield 57, 3) := by decide +kernel
theorem dX12_can_152 : decode cX12_can 152 = .ok (.iload 7, 2) := by decide +kernel
theorem dX12_can_154 : decode cX12_can 154 = .ok (.iaload, 1) := by decide +kernel
theorem dX12_can_155 : decode cX12_can 155 = .ok (.bipush 15, 2) := by decide +kernel
theorem dX12_can_157 : decode cX12_can 157 = .ok (.if_icmp .ne 33, 3) := by decide +kernel
theorem dX12_can_160 : decode cX12_can 160 = .ok (.iload 6, 2) := by decide +kernel
theorem dX12_can_162 : decode cX12_can 162 = .ok (.iconst (-1), 1) := by decide +kernel
theorem dX12_can_163 : decode cX12_can 163 = .ok (.if_icmp .ne 13, 3) := by decide +kernel
theorem dX12_can_166 : decode cX12_can 166 = .ok (.aload_n 0, 1) := by decide +kernel
theorem dX12_can_167 : decode cX12_can 167 = .ok (.getfield 60, 3) := by decide +kernel
theorem dX12_can_170 : decode cX12_can 170 = .ok (.iload 7, 2) := by decide +kernel
theorem dX12_can_172 : decode cX12_can 172 = .ok (.iaload, 1) := by decide +kernel
theorem dX12_can_173 : decode cX12_can 173 = .ok (.goto 15, 3) := by decide +kernel
theorem dX12_can_176 : decode cX12_can 176 = .ok (.iload 6, 2) := by decide +kernel
theorem dX12_can_178 : decode cX12_can 178 = .ok (.aload_n 0, 1) := by decide +kernel
theorem dX12_can_179 : decode cX12_can 179 = .ok (.getfield 60, 3) := by decide +kernel
theorem dX12_can_182 : decode cX12_can 182 = .ok (.iload 7, 2) := by decide +kernel
theorem dX12_can_184 : decode cX12_can 184 = .ok (.iaload, 1) := by decide +kernel
theorem dX12_can_185 : decode cX12_can 185 = .ok (.invokestatic 236, 3) := by decide +kernel
theorem dX12_can_188 : decode cX12_can 188 = .ok (.istore 6, 2) := by decide +kernel
theorem dX12_can_190 : decode cX12_can 190 = .ok (.iinc 7 1, 3) := by decide +kernel
theorem dX12_can_193 : decode cX12_can 193 = .ok (.goto (-66), 3) := by decide +kernel
theorem dX12_can_196 : decode cX12_can 196 = .ok (.lload_n 2, 1) := by decide +kernel
theorem dX12_can_197 : decode cX12_can 197 = .ok (.ldc2_w 438, 3) := by decide +kernel
theorem dX12_can_200 : decode cX12_can 200 = .ok (.lcmp, 1) := by decide +kernel
theorem dX12_can_201 : decode cX12_can 201 = .ok (.ifCond .le 7, 3) := by decide +kernel
theorem dX12_can_204 : decode cX12_can 204 = .ok (.iconst 1, 1) := by decide +kernel
theorem dX12_can_205 : decode cX12_can 205 = .ok (.goto 23, 3) := by decide +kernel
theorem dX12_can_208 : decode cX12_can 208 = .ok (.iload 6, 2) := by decide +kernel
theorem dX12_can_210 : decode cX12_can 210 = .ok (.iconst (-1), 1) := by decide +kernel
theorem dX12_can_211 : decode cX12_can 211 = .ok (.if_icmp .eq 16, 3) := by decide +kernel
theorem dX12_can_214 : decode cX12_can 214 = .ok (.lload 4, 2) := by decide +kernel
theorem dX12_can_216 : decode cX12_can 216 = .ok (.iload 6, 2) := by decide +kernel
theorem dX12_can_218 : decode cX12_can 218 = .ok (.i2l, 1) := by decide +kernel
theorem dX12_can_219 : decode cX12_can 219 = .ok (.lcmp, 1) := by decide +kernel
theorem dX12_can_220 : decode cX12_can 220 = .ok (.ifCond .le 7, 3) := by decide +kernel
theorem dX12_can_223 : decode cX12_can 223 = .ok (.iconst 2, 1) := by decide +kernel
theorem dX12_can_224 : decode cX12_can 224 = .ok (.goto 4, 3) := by decide +kernel
theorem dX12_can_227 : decode cX12_can 227 = .ok (.iconst 0, 1) := by decide +kernel
theorem dX12_can_228 : decode cX12_can 228 = .ok (.ireturn, 1) := by decide +kernel
theorem dX12_law_0 : decode cX12_law 0 = .ok (.iload_n 1, 1) := by decide +kernel
theorem dX12_law_1 : decode cX12_law 1 = .ok (.invokestatic 206, 3) := by decide +kernel
theorem dX12_law_4 : decode cX12_law 4 = .ok (.ifCond .ne 5, 3) := by decide +kernel
theorem dX12_law_7 : decode cX12_law 7 = .ok (.iconst (-1), 1) := by decide +kernel
theorem dX12_law_8 : decode cX12_law 8 = .ok (.ireturn, 1) := by decide +kernel
theorem dX12_law_9 : decode cX12_law 9 = .ok (.aload_n 0, 1) := by decide +kernel
theorem dX12_law_10 : decode cX12_law 10 = .ok (.iload_n 1, 1) := by decide +kernel
theorem dX12_law_11 : decode cX12_law 11 = .ok (.invokevirtual 209, 3) := by decide +kernel
theorem dX12_law_14 : decode cX12_law 14 = .ok (.istore_n 3, 1) := by decide +kernel
theorem dX12_law_15 : decode cX12_law 15 = .ok (.iload_n 2, 1) := by decide +kernel
theorem dX12_law_16 : decode cX12_law 16 = .ok (.iconst 0, 1) := by decide +kernel
theorem dX12_law_17 : decode cX12_law 17 = .ok (.bipush 10, 2) := by decide +kernel
theorem dX12_law_19 : decode cX12_law 19 = .ok (.invokestatic 140, 3) := by decide +kernel
theorem dX12_law_22 : decode cX12_law 22 = .ok (.ifCond .eq 10, 3) := by decide +kernel
theorem dX12_law_25 : decode cX12_law 25 = .ok (.aload_n 0, 1) := by decide +kernel
theorem dX12_law_26 : decode cX12_law 26 = .ok (.iload_n 3, 1) := by decide +kernel
theorem dX12_law_27 : decode cX12_law 27 = .ok (.iload_n 2, 1) := by decide +kernel
theorem dX12_law_28 : decode cX12_law 28 = .ok (.invokevirtual 200, 3) := by decide +kernel
theorem dX12_law_31 : decode cX12_law 31 = .ok (.ireturn, 1) := by decide +kernel
theorem dX12_law_32 : decode cX12_law 32 = .ok (.iload_n 2, 1) := by decide +kernel
theorem dX12_law_33 : decode cX12_law 33 = .ok (.bipush 11, 2) := by decide +kernel
theorem dX12_law_35 : decode cX12_law 35 = .ok (.if_icmp .ne 19, 3) := by decide +kernel
theorem dX12_law_38 : decode cX12_law 38 = .ok (.iload_n 3, 1) := by decide +kernel
theorem dX12_law_39 : decode cX12_law 39 = .ok (.iconst (-1), 1) := by decide +kernel
theorem dX12_law_40 : decode cX12_law 40 = .ok (.if_icmp .ne 7, 3) := by decide +kernel
theorem dX12_law_43 : decode cX12_law 43 = .ok (.iconst 0, 1) := by decide +kernel
theorem dX12_law_44 : decode cX12_law 44 = .ok (.goto 9, 3) := by decide +kernel
theorem dX12_law_47 : decode cX12_law 47 = .ok (.aload_n 0, 1) := by decide +kernel
theorem dX12_law_48 : decode cX12_law 48 = .ok (.getfield 51, 3) := by decide +kernel
theorem dX12_law_51 : decode cX12_law 51 = .ok (.iload_n 3, 1) := by decide +kernel
theorem dX12_law_52 : decode cX12_law 52 = .ok (.iaload, 1) := by decide +kernel
theorem dX12_law_53 : decode cX12_law 53 = .ok (.ireturn, 1) := by decide +kernel
theorem dX12_law_54 : decode cX12_law 54 = .ok (.iload_n 2, 1) := by decide +kernel
theorem dX12_law_55 : decode cX12_law 55 = .ok (.bipush 12, 2) := by decide +kernel
theorem dX12_law_57 : decode cX12_law 57 = .ok (.if_icmp .ne 9, 3) := by decide +kernel
theorem dX12_law_60 : decode cX12_law 60 = .ok (.aload_n 0, 1) := by decide +kernel
theorem dX12_law_61 : decode cX12_law 61 = .ok (.iload_n 3, 1) := by decide +kernel
theorem dX12_law_62 : decode cX12_law 62 = .ok (.invokevirtual 440, 3) := by decide +kernel
theorem dX12_law_65 : decode cX12_law 65 = .ok (.ireturn, 1) := by decide +kernel
theorem dX12_law_66 : decode cX12_law 66 = .ok (.iload_n 2, 1) := by decide +kernel
theorem dX12_law_67 : decode cX12_law 67 = .ok (.bipush 21, 2) := by decide +kernel
theorem dX12_law_69 : decode cX12_law 69 = .ok (.bipush 32, 2) := by decide +kernel
theorem dX12_law_71 : decode cX12_law 71 = .ok (.invokestatic 140, 3) := by decide +kernel
theorem dX12_law_74 : decode cX12_law 74 = .ok (.ifCond .eq 15, 3) := by decide +kernel
theorem dX12_law_77 : decode cX12_law 77 = .ok (.aload_n 0, 1) := by decide +kernel
theorem dX12_law_78 : decode cX12_law 78 = .ok (.iload_n 3, 1) := by decide +kernel
theorem dX12_law_79 : decode cX12_law 79 = .ok (.iload_n 2, 1) := by decide +kernel
theorem dX12_law_80 : decode cX12_law 80 = .ok (.bipush 20, 2) := by decide +kernel
theorem dX12_law_82 : decode cX12_law 82 = .ok (.isub, 1) := by decide +kernel
theorem dX12_law_83 : decode cX12_law 83 = .ok (.invokevirtual 203, 3) := by decide +kernel
theorem dX12_law_86 : decode cX12_law 86 = .ok (.goto 4, 3) := by decide +kernel
theorem dX12_law_89 : decode cX12_law 89 = .ok (.iconst (-1), 1) := by decide +kernel
theorem dX12_law_90 : decode cX12_law 90 = .ok (.ireturn, 1) := by decide +kernel
theorem dX12_lettersOf_0 : decode cX12_lettersOf 0 = .ok (.iconst 0, 1) := by decide +kernel
theorem dX12_lettersOf_1 : decode cX12_lettersOf 1 = .ok (.istore_n 2, 1) := by decide +kernel
theorem dX12_lettersOf_2 : decode cX12_lettersOf 2 = .ok (.lload_n 0, 1) := by decide +kernel
theorem dX12_lettersOf_3 : decode cX12_lettersOf 3 = .ok (.lstore_n 3, 1) := by decide +kernel
theorem dX12_lettersOf_4 : decode cX12_lettersOf 4 = .ok (.lload_n 3, 1) := by decide +kernel
theorem dX12_lettersOf_5 : decode cX12_lettersOf 5 = .ok (.lconst 0, 1) := by decide +kernel
theorem dX12_lettersOf_6 : decode cX12_lettersOf 6 = .ok (.lcmp, 1) := by decide +kernel
theorem dX12_lettersOf_7 : decode cX12_lettersOf 7 = .ok (.ifCond .eq 14, 3) := by decide +kernel
theorem dX12_lettersOf_10 : decode cX12_lettersOf 10 = .ok (.iinc 2 1, 3) := by decide +kernel
theorem dX12_lettersOf_13 : decode cX12_lettersOf 13 = .ok (.lload_n 3, 1) := by decide +kernel
theorem dX12_lettersOf_14 : decode cX12_lettersOf 14 = .ok (.bipush 8, 2) := by decide +kernel
theorem dX12_lettersOf_16 : decode cX12_lettersOf 16 = .ok (.lushr, 1) := by decide +kernel
theorem dX12_lettersOf_17 : decode cX12_lettersOf 17 = .ok (.lstore_n 3, 1) := by decide +kernel
theorem dX12_lettersOf_18 : decode cX12_lettersOf 18 = .ok (.goto (-14), 3) := by decide +kernel
theorem dX12_lettersOf_21 : decode cX12_lettersOf 21 = .ok (.iload_n 2, 1) := by decide +kernel
theorem dX12_lettersOf_22 : decode cX12_lettersOf 22 = .ok (.ireturn, 1) := by decide +kernel
theorem dX12_name_0 : decode cX12_name 0 = .ok (.iload_n 1, 1) := by decide +kernel
theorem dX12_name_1 : decode cX12_name 1 = .ok (.iconst 1, 1) := by decide +kernel
theorem dX12_name_2 : decode cX12_name 2 = .ok (.aload_n 0, 1) := by decide +kernel
theorem dX12_name_3 : decode cX12_name 3 = .ok (.getfield 273, 3) := by decide +kernel
theorem dX12_name_6 : decode cX12_name 6 = .ok (.invokestatic 140, 3) := by decide +kernel
theorem dX12_name_9 : decode cX12_name 9 = .ok (.ifCond .ne 5, 3) := by decide +kernel
theorem dX12_name_12 : decode cX12_name 12 = .ok (.iconst (-1), 1) := by decide +kernel
theorem dX12_name_13 : decode cX12_name 13 = .ok (.ireturn, 1) := by decide +kernel
theorem dX12_name_14 : decode cX12_name 14 = .ok (.aload_n 0, 1) := by decide +kernel
theorem dX12_name_15 : decode cX12_name 15 = .ok (.getfield 87, 3) := by decide +kernel
theorem dX12_name_18 : decode cX12_name 18 = .ok (.iload_n 1, 1) := by decide +kernel
theorem dX12_name_19 : decode cX12_name 19 = .ok (.laload, 1) := by decide +kernel
theorem dX12_name_20 : decode cX12_name 20 = .ok (.invokestatic 443, 3) := by decide +kernel
theorem dX12_name_23 : decode cX12_name 23 = .ok (.istore_n 3, 1) := by decide +kernel
theorem dX12_name_24 : decode cX12_name 24 = .ok (.iload_n 2, 1) := by decide +kernel
theorem dX12_name_25 : decode cX12_name 25 = .ok (.iconst (-1), 1) := by decide +kernel
theorem dX12_name_26 : decode cX12_name 26 = .ok (.if_icmp .ne 7, 3) := by decide +kernel
theorem dX12_name_29 : decode cX12_name 29 = .ok (.iload_n 3, 1) := by decide +kernel
theorem dX12_name_30 : decode cX12_name 30 = .ok (.goto 38, 3) := by decide +kernel
theorem dX12_name_33 : decode cX12_name 33 = .ok (.iload_n 2, 1) := by decide +kernel
theorem dX12_name_34 : decode cX12_name 34 = .ok (.iconst 0, 1) := by decide +kernel
theorem dX12_name_35 : decode cX12_name 35 = .ok (.iload_n 3, 1) := by decide +kernel
theorem dX12_name_36 : decode cX12_name 36 = .ok (.iconst 1, 1) := by decide +kernel
theorem dX12_name_37 : decode cX12_name 37 = .ok (.isub, 1) := by decide +kernel
theorem dX12_name_38 : decode cX12_name 38 = .ok (.invokestatic 140, 3) := by decide +kernel
theorem dX12_name_41 : decode cX12_name 41 = .ok (.ifCond .eq 26, 3) := by decide +kernel
theorem dX12_name_44 : decode cX12_name 44 = .ok (.aload_n 0, 1) := by decide +kernel
theorem dX12_name_45 : decode cX12_name 45 = .ok (.getfield 87, 3) := by decide +kernel
theorem dX12_name_48 : decode cX12_name 48 = .ok (.iload_n 1, 1) := by decide +kernel
theorem dX12_name_49 : decode cX12_name 49 = .ok (.laload, 1) := by decide +kernel
theorem dX12_name_50 : decode cX12_name 50 = .ok (.bipush 8, 2) := by decide +kernel
theorem dX12_name_52 : decode cX12_name 52 = .ok (.iload_n 3, 1) := by decide +kernel
theorem dX12_name_53 : decode cX12_name 53 = .ok (.iconst 1, 1) := by decide +kernel
theorem dX12_name_54 : decode cX12_name 54 = .ok (.isub, 1) := by decide +kernel
theorem dX12_name_55 : decode cX12_name 55 = .ok (.iload_n 2, 1) := by decide +kernel
theorem dX12_name_56 : decode cX12_name 56 = .ok (.isub, 1) := by decide +kernel
theorem dX12_name_57 : decode cX12_name 57 = .ok (.imul, 1) := by decide +kernel
theorem dX12_name_58 : decode cX12_name 58 = .ok (.lshr, 1) := by decide +kernel
theorem dX12_name_59 : decode cX12_name 59 = .ok (.ldc2_w 446, 3) := by decide +kernel
theorem dX12_name_62 : decode cX12_name 62 = .ok (.land, 1) := by decide +kernel
theorem dX12_name_63 : decode cX12_name 63 = .ok (.l2i, 1) := by decide +kernel
theorem dX12_name_64 : decode cX12_name 64 = .ok (.goto 4, 3) := by decide +kernel
theorem dX12_name_67 : decode cX12_name 67 = .ok (.iconst (-1), 1) := by decide +kernel
theorem dX12_name_68 : decode cX12_name 68 = .ok (.ireturn, 1) := by decide +kernel
theorem dX12_calls_0 : decode cX12_calls 0 = .ok (.iload_n 1, 1) := by decide +kernel
theorem dX12_calls_1 : decode cX12_calls 1 = .ok (.iconst 0, 1) := by decide +kernel
theorem dX12_calls_2 : decode cX12_calls 2 = .ok (.bipush 39, 2) := by decide +kernel
theorem dX12_calls_4 : decode cX12_calls 4 = .ok (.invokestatic 140, 3) := by decide +kernel
theorem dX12_calls_7 : decode cX12_calls 7 = .ok (.ifCond .eq 15, 3) := by decide +kernel
theorem dX12_calls_10 : decode cX12_calls 10 = .ok (.iload_n 2, 1) := by decide +kernel
theorem dX12_calls_11 : decode cX12_calls 11 = .ok (.iconst 0, 1) := by decide +kernel
theorem dX12_calls_12 : decode cX12_calls 12 = .ok (.aload_n 0, 1) := by decide +kernel
theorem dX12_calls_13 : decode cX12_calls 13 = .ok (.getfield 245, 3) := by decide +kernel
theorem dX12_calls_16 : decode cX12_calls 16 = .ok (.invokestatic 140, 3) := by decide +kernel
theorem dX12_calls_19 : decode cX12_calls 19 = .ok (.ifCond .ne 5, 3) := by decide +kernel
theorem dX12_calls_22 : decode cX12_calls 22 = .ok (.iconst 0, 1) := by decide +kernel
theorem dX12_calls_23 : decode cX12_calls 23 = .ok (.ireturn, 1) := by decide +kernel
theorem dX12_calls_24 : decode cX12_calls 24 = .ok (.aload_n 0, 1) := by decide +kernel
theorem dX12_calls_25 : decode cX12_calls 25 = .ok (.iload_n 2, 1) := by decide +kernel
theorem dX12_calls_26 : decode cX12_calls 26 = .ok (.invokevirtual 429, 3) := by decide +kernel
theorem dX12_calls_29 : decode cX12_calls 29 = .ok (.iload_n 2, 1) := by decide +kernel
theorem dX12_calls_30 : decode cX12_calls 30 = .ok (.iconst 1, 1) := by decide +kernel
theorem dX12_calls_31 : decode cX12_calls 31 = .ok (.bipush 8, 2) := by decide +kernel
theorem dX12_calls_33 : decode cX12_calls 33 = .ok (.invokestatic 140, 3) := by decide +kernel
theorem dX12_calls_36 : decode cX12_calls 36 = .ok (.istore_n 3, 1) := by decide +kernel
theorem dX12_calls_37 : decode cX12_calls 37 = .ok (.lconst 0, 1) := by decide +kernel
theorem dX12_calls_38 : decode cX12_calls 38 = .ok (.lstore 4, 2) := by decide +kernel
theorem dX12_calls_40 : decode cX12_calls 40 = .ok (.iconst 0, 1) := by decide +kernel
theorem dX12_calls_41 : decode cX12_calls 41 = .ok (.istore 6, 2) := by decide +kernel
theorem dX12_calls_43 : decode cX12_calls 43 = .ok (.iload 6, 2) := by decide +kernel
theorem dX12_calls_45 : decode cX12_calls 45 = .ok (.iload_n 2, 1) := by decide +kernel
theorem dX12_calls_46 : decode cX12_calls 46 = .ok (.if_icmp .ge 63, 3) := by decide +kernel
theorem dX12_calls_49 : decode cX12_calls 49 = .ok (.iload_n 3, 1) := by decide +kernel
theorem dX12_calls_50 : decode cX12_calls 50 = .ok (.ifCond .eq 59, 3) := by decide +kernel
theorem dX12_calls_53 : decode cX12_calls 53 = .ok (.aload_n 0, 1) := by decide +kernel
theorem dX12_calls_54 : decode cX12_calls 54 = .ok (.getfield 95, 3) := by decide +kernel
theorem dX12_calls_57 : decode cX12_calls 57 = .ok (.iload 6, 2) := by decide +kernel
theorem dX12_calls_59 : decode cX12_calls 59 = .ok (.baload, 1) := by decide +kernel
theorem dX12_calls_60 : decode cX12_calls 60 = .ok (.bipush 97, 2) := by decide +kernel
theorem dX12_calls_62 : decode cX12_calls 62 = .ok (.if_icmp .lt 19, 3) := by decide +kernel
theorem dX12_calls_65 : decode cX12_calls 65 = .ok (.aload_n 0, 1) := by decide +kernel
theorem dX12_calls_66 : decode cX12_calls 66 = .ok (.getfield 95, 3) := by decide +kernel
theorem dX12_calls_69 : decode cX12_calls 69 = .ok (.iload 6, 2) := by decide +kernel
theorem dX12_calls_71 : decode cX12_calls 71 = .ok (.baload, 1) := by decide +kernel
theorem dX12_calls_72 : decode cX12_calls 72 = .ok (.bipush 122, 2) := by decide +kernel
theorem dX12_calls_74 : decode cX12_calls 74 = .ok (.if_icmp .gt 7, 3) := by decide +kernel
theorem dX12_calls_77 : decode cX12_calls 77 = .ok (.iconst 1, 1) := by decide +kernel
theorem dX12_calls_78 : decode cX12_calls 78 = .ok (.goto 4, 3) := by decide +kernel
theorem dX12_calls_81 : decode cX12_calls 81 = .ok (.iconst 0, 1) := by decide +kernel
theorem dX12_calls_82 : decode cX12_calls 82 = .ok (.istore_n 3, 1) := by decide +kernel
theorem dX12_calls_83 : decode cX12_calls 83 = .ok (.lload 4, 2) := by decide +kernel
theorem dX12_calls_85 : decode cX12_calls 85 = .ok (.bipush 8, 2) := by decide +kernel
theorem dX12_calls_87 : decode cX12_calls 87 = .ok (.lshl, 1) := by decide +kernel
theorem dX12_calls_88 : decode cX12_calls 88 = .ok (.aload_n 0, 1) := by decide +kernel
theorem dX12_calls_89 : decode cX12_calls 89 = .ok (.getfield 95, 3) := by decide +kernel
theorem dX12_calls_92 : decode cX12_calls 92 = .ok (.iload 6, 2) := by decide +kernel
theorem dX12_calls_94 : decode cX12_calls 94 = .ok (.baload, 1) := by decide +kernel
theorem dX12_calls_95 : decode cX12_calls 95 = .ok (.i2l, 1) := by decide +kernel
theorem dX12_calls_96 : decode cX12_calls 96 = .ok (.ldc2_w 446, 3) := by decide +kernel
theorem dX12_calls_99 : decode cX12_calls 99 = .ok (.land, 1) := by decide +kernel
theorem dX12_calls_100 : decode cX12_calls 100 = .ok (.lor, 1) := by decide +kernel
theorem dX12_calls_101 : decode cX12_calls 101 = .ok (.lstore 4, 2) := by decide +kernel
theorem dX12_calls_103 : decode cX12_calls 103 = .ok (.iinc 6 1, 3) := by decide +kernel
theorem dX12_calls_106 : decode cX12_calls 106 = .ok (.goto (-63), 3) := by decide +kernel
theorem dX12_calls_109 : decode cX12_calls 109 = .ok (.iload_n 3, 1) := by decide +kernel
theorem dX12_calls_110 : decode cX12_calls 110 = .ok (.ifCond .eq 11, 3) := by decide +kernel
theorem dX12_calls_113 : decode cX12_calls 113 = .ok (.aload_n 0, 1) := by decide +kernel
theorem dX12_calls_114 : decode cX12_calls 114 = .ok (.getfield 98, 3) := by decide +kernel
theorem dX12_calls_117 : decode cX12_calls 117 = .ok (.iload_n 1, 1) := by decide +kernel
theorem dX12_calls_118 : decode cX12_calls 118 = .ok (.lload 4, 2) := by decide +kernel
theorem dX12_calls_120 : decode cX12_calls 120 = .ok (.lastore, 1) := by decide +kernel
theorem dX12_calls_121 : decode cX12_calls 121 = .ok (.iload_n 3, 1) := by decide +kernel
theorem dX12_calls_122 : decode cX12_calls 122 = .ok (.ireturn, 1) := by decide +kernel
theorem dX12_isCalled_0 : decode cX12_isCalled 0 = .ok (.iconst 0, 1) := by decide +kernel
theorem dX12_isCalled_1 : decode cX12_isCalled 1 = .ok (.istore_n 3, 1) := by decide +kernel
theorem dX12_isCalled_2 : decode cX12_isCalled 2 = .ok (.iconst 0, 1) := by decide +kernel
theorem dX12_isCalled_3 : decode cX12_isCalled 3 = .ok (.istore 4, 2) := by decide +kernel
theorem dX12_isCalled_5 : decode cX12_isCalled 5 = .ok (.iload 4, 2) := by decide +kernel
theorem dX12_isCalled_7 : decode cX12_isCalled 7 = .ok (.bipush 40, 2) := by decide +kernel
theorem dX12_isCalled_9 : decode cX12_isCalled 9 = .ok (.if_icmp .ge 37, 3) := by decide +kernel
theorem dX12_isCalled_12 : decode cX12_isCalled 12 = .ok (.iload_n 3, 1) := by decide +kernel
theorem dX12_isCalled_13 : decode cX12_isCalled 13 = .ok (.ifCond .ne 21, 3) := by decide +kernel
theorem dX12_isCalled_16 : decode cX12_isCalled 16 = .ok (.lload_n 1, 1) := by decide +kernel
theorem dX12_isCalled_17 : decode cX12_isCalled 17 = .ok (.lconst 0, 1) := by decide +kernel
theorem dX12_isCalled_18 : decode cX12_isCalled 18 = .ok (.lcmp, 1) := by decide +kernel
theorem dX12_isCalled_19 : decode cX12_isCalled 19 = .ok (.ifCond .eq 19, 3) := by decide +kernel
theorem dX12_isCalled_22 : decode cX12_isCalled 22 = .ok (.aload_n 0, 1) := by decide +kernel
theorem dX12_isCalled_23 : decode cX12_isCalled 23 = .ok (.getfield 98, 3) := by decide +kernel
theorem dX12_isCalled_26 : decode cX12_isCalled 26 = .ok (.iload 4, 2) := by decide +kernel
theorem dX12_isCalled_28 : decode cX12_isCalled 28 = .ok (.laload, 1) := by decide +kernel
theorem dX12_isCalled_29 : decode cX12_isCalled 29 = .ok (.lload_n 1, 1) := by decide +kernel
theorem dX12_isCalled_30 : decode cX12_isCalled 30 = .ok (.lcmp, 1) := by decide +kernel
theorem dX12_isCalled_31 : decode cX12_isCalled 31 = .ok (.ifCond .ne 7, 3) := by decide +kernel
theorem dX12_isCalled_34 : decode cX12_isCalled 34 = .ok (.iconst 1, 1) := by decide +kernel
theorem dX12_isCalled_35 : decode cX12_isCalled 35 = .ok (.goto 4, 3) := by decide +kernel
theorem dX12_isCalled_38 : decode cX12_isCalled 38 = .ok (.iconst 0, 1) := by decide +kernel
theorem dX12_isCalled_39 : decode cX12_isCalled 39 = .ok (.istore_n 3, 1) := by decide +kernel
theorem dX12_isCalled_40 : decode cX12_isCalled 40 = .ok (.iinc 4 1, 3) := by decide +kernel
theorem dX12_isCalled_43 : decode cX12_isCalled 43 = .ok (.goto (-38), 3) := by decide +kernel
theorem dX12_isCalled_46 : decode cX12_isCalled 46 = .ok (.iload_n 3, 1) := by decide +kernel
theorem dX12_isCalled_47 : decode cX12_isCalled 47 = .ok (.ireturn, 1) := by decide +kernel
theorem dX12_ask_0 : decode cX12_ask 0 = .ok (.iload_n 1, 1) := by decide +kernel
theorem dX12_ask_1 : decode cX12_ask 1 = .ok (.iconst 0, 1) := by decide +kernel
theorem dX12_ask_2 : decode cX12_ask 2 = .ok (.aload_n 0, 1) := by decide +kernel
theorem dX12_ask_3 : decode cX12_ask 3 = .ok (.getfield 245, 3) := by decide +kernel
theorem dX12_ask_6 : decode cX12_ask 6 = .ok (.invokestatic 140, 3) := by decide +kernel
theorem dX12_ask_9 : decode cX12_ask 9 = .ok (.ifCond .eq 12, 3) := by decide +kernel
theorem dX12_ask_12 : decode cX12_ask 12 = .ok (.aload_n 0, 1) := by decide +kernel
theorem dX12_ask_13 : decode cX12_ask 13 = .ok (.getfield 448, 3) := by decide +kernel
theorem dX12_ask_16 : decode cX12_ask 16 = .ok (.bipush 50, 2) := by decide +kernel
theorem dX12_ask_18 : decode cX12_ask 18 = .ok (.if_icmp .ne 6, 3) := by decide +kernel
theorem dX12_ask_21 : decode cX12_ask 21 = .ok (.bipush (-2), 2) := by decide +kernel
theorem dX12_ask_23 : decode cX12_ask 23 = .ok (.ireturn, 1) := by decide +kernel
theorem dX12_ask_24 : decode cX12_ask 24 = .ok (.aload_n 0, 1) := by decide +kernel
theorem dX12_ask_25 : decode cX12_ask 25 = .ok (.iload_n 1, 1) := by decide +kernel
theorem dX12_ask_26 : decode cX12_ask 26 = .ok (.invokevirtual 429, 3) := by decide +kernel
theorem dX12_ask_29 : decode cX12_ask 29 = .ok (.iconst 0, 1) := by decide +kernel
theorem dX12_ask_30 : decode cX12_ask 30 = .ok (.istore_n 3, 1) := by decide +kernel
theorem dX12_ask_31 : decode cX12_ask 31 = .ok (.iconst 1, 1) := by decide +kernel
theorem dX12_ask_32 : decode cX12_ask 32 = .ok (.istore 4, 2) := by decide +kernel
theorem dX12_ask_34 : decode cX12_ask 34 = .ok (.aload_n 0, 1) := by decide +kernel
theorem dX12_ask_35 : decode cX12_ask 35 = .ok (.getfield 254, 3) := by decide +kernel
theorem dX12_ask_38 : decode cX12_ask 38 = .ok (.aload_n 0, 1) := by decide +kernel
theorem dX12_ask_39 : decode cX12_ask 39 = .ok (.getfield 251, 3) := by decide +kernel
theorem dX12_ask_42 : decode cX12_ask 42 = .ok (.if_icmp .ge 75, 3) := by decide +kernel
theorem dX12_ask_45 : decode cX12_ask 45 = .ok (.aload_n 0, 1) := by decide +kernel
theorem dX12_ask_46 : decode cX12_ask 46 = .ok (.invokevirtual 262, 3) := by decide +kernel
theorem dX12_ask_49 : decode cX12_ask 49 = .ok (.lstore 5, 2) := by decide +kernel
theorem dX12_ask_51 : decode cX12_ask 51 = .ok (.aload_n 0, 1) := by decide +kernel
theorem dX12_ask_52 : decode cX12_ask 52 = .ok (.getfield 259, 3) := by decide +kernel
theorem dX12_ask_55 : decode cX12_ask 55 = .ok (.aload_n 0, 1) := by decide +kernel
theorem dX12_ask_56 : decode cX12_ask 56 = .ok (.getfield 254, 3) := by decide +kernel
theorem dX12_ask_59 : decode cX12_ask 59 = .ok (.if_icmp .ne 23, 3) := by decide +kernel
theorem dX12_ask_62 : decode cX12_ask 62 = .ok (.aload_n 0, 1) := by decide +kernel
theorem dX12_ask_63 : decode cX12_ask 63 = .ok (.aload_n 0, 1) := by decide +kernel
theorem dX12_ask_64 : decode cX12_ask 64 = .ok (.getfield 251, 3) := by decide +kernel
theorem dX12_ask_67 : decode cX12_ask 67 = .ok (.aload_n 0, 1) := by decide +kernel
theorem dX12_ask_68 : decode cX12_ask 68 = .ok (.getfield 254, 3) := by decide +kernel
theorem dX12_ask_71 : decode cX12_ask 71 = .ok (.iconst 1, 1) := by decide +kernel
theorem dX12_ask_72 : decode cX12_ask 72 = .ok (.iadd, 1) := by decide +kernel
theorem dX12_ask_73 : decode cX12_ask 73 = .ok (.invokestatic 236, 3) := by decide +kernel
theorem dX12_ask_76 : decode cX12_ask 76 = .ok (.putfield 254, 3) := by decide +kernel
theorem dX12_ask_79 : decode cX12_ask 79 = .ok (.goto (-45), 3) := by decide +kernel
theorem dX12_ask_82 : decode cX12_ask 82 = .ok (.iinc 3 1, 3) := by decide +kernel
theorem dX12_ask_85 : decode cX12_ask 85 = .ok (.iload 4, 2) := by decide +kernel
theorem dX12_ask_87 : decode cX12_ask 87 = .ok (.ifCond .eq 16, 3) := by decide +kernel
theorem dX12_ask_90 : decode cX12_ask 90 = .ok (.aload_n 0, 1) := by decide +kernel
theorem dX12_ask_91 : decode cX12_ask 91 = .ok (.lload 5, 2) := by decide +kernel
theorem dX12_ask_93 : decode cX12_ask 93 = .ok (.invokevirtual 451, 3) := by decide +kernel
theorem dX12_ask_96 : decode cX12_ask 96 = .ok (.ifCond .ne 7, 3) := by decide +kernel
theorem dX12_ask_99 : decode cX12_ask 99 = .ok (.iconst 1, 1) := by decide +kernel
theorem dX12_ask_100 : decode cX12_ask 100 = .ok (.goto 4, 3) := by decide +kernel
theorem dX12_ask_103 : decode cX12_ask 103 = .ok (.iconst 0, 1) := by decide +kernel
theorem dX12_ask_104 : decode cX12_ask 104 = .ok (.istore 4, 2) := by decide +kernel
theorem dX12_ask_106 : decode cX12_ask 106 = .ok (.aload_n 0, 1) := by decide +kernel
theorem dX12_ask_107 : decode cX12_ask 107 = .ok (.aload_n 0, 1) := by decide +kernel
theorem dX12_ask_108 : decode cX12_ask 108 = .ok (.getfield 259, 3) := by decide +kernel
theorem dX12_ask_111 : decode cX12_ask 111 = .ok (.putfield 254, 3) := by decide +kernel
theorem dX12_ask_114 : decode cX12_ask 114 = .ok (.goto (-80), 3) := by decide +kernel
theorem dX12_ask_117 : decode cX12_ask 117 = .ok (.iload 4, 2) := by decide +kernel
theorem dX12_ask_119 : decode cX12_ask 119 = .ok (.ifCond .ne 15, 3) := by decide +kernel
theorem dX12_ask_122 : decode cX12_ask 122 = .ok (.aload_n 0, 1) := by decide +kernel
theorem dX12_ask_123 : decode cX12_ask 123 = .ok (.dup, 1) := by decide +kernel
theorem dX12_ask_124 : decode cX12_ask 124 = .ok (.getfield 454, 3) := by decide +kernel
theorem dX12_ask_127 : decode cX12_ask 127 = .ok (.iconst 1, 1) := by decide +kernel
theorem dX12_ask_128 : decode cX12_ask 128 = .ok (.iadd, 1) := by decide +kernel
theorem dX12_ask_129 : decode cX12_ask 129 = .ok (.putfield 454, 3) := by decide +kernel
theorem dX12_ask_132 : decode cX12_ask 132 = .ok (.iconst (-1), 1) := by decide +kernel
theorem dX12_ask_133 : decode cX12_ask 133 = .ok (.ireturn, 1) := by decide +kernel
theorem dX12_ask_134 : decode cX12_ask 134 = .ok (.aload_n 0, 1) := by decide +kernel
theorem dX12_ask_135 : decode cX12_ask 135 = .ok (.getfield 101, 3) := by decide +kernel
theorem dX12_ask_138 : decode cX12_ask 138 = .ok (.aload_n 0, 1) := by decide +kernel
theorem dX12_ask_139 : decode cX12_ask 139 = .ok (.getfield 448, 3) := by decide +kernel
theorem dX12_ask_142 : decode cX12_ask 142 = .ok (.aload_n 0, 1) := by decide +kernel
theorem dX12_ask_143 : decode cX12_ask 143 = .ok (.getfield 144, 3) := by decide +kernel
theorem dX12_ask_146 : decode cX12_ask 146 = .ok (.iastore, 1) := by decide +kernel
theorem dX12_ask_147 : decode cX12_ask 147 = .ok (.aload_n 0, 1) := by decide +kernel
theorem dX12_ask_148 : decode cX12_ask 148 = .ok (.getfield 104, 3) := by decide +kernel
theorem dX12_ask_151 : decode cX12_ask 151 = .ok (.aload_n 0, 1) := by decide +kernel
theorem dX12_ask_152 : decode cX12_ask 152 = .ok (.getfield 448, 3) := by decide +kernel
theorem dX12_ask_155 : decode cX12_ask 155 = .ok (.iload_n 2, 1) := by decide +kernel
theorem dX12_ask_156 : decode cX12_ask 156 = .ok (.iastore, 1) := by decide +kernel
theorem dX12_ask_157 : decode cX12_ask 157 = .ok (.aload_n 0, 1) := by decide +kernel
theorem dX12_ask_158 : decode cX12_ask 158 = .ok (.getfield 107, 3) := by decide +kernel
theorem dX12_ask_161 : decode cX12_ask 161 = .ok (.aload_n 0, 1) := by decide +kernel
theorem dX12_ask_162 : decode cX12_ask 162 = .ok (.getfield 448, 3) := by decide +kernel
theorem dX12_ask_165 : decode cX12_ask 165 = .ok (.iload_n 3, 1) := by decide +kernel
theorem dX12_ask_166 : decode cX12_ask 166 = .ok (.iastore, 1) := by decide +kernel
theorem dX12_ask_167 : decode cX12_ask 167 = .ok (.aload_n 0, 1) := by decide +kernel
theorem dX12_ask_168 : decode cX12_ask 168 = .ok (.dup, 1) := by decide +kernel
theorem dX12_ask_169 : decode cX12_ask 169 = .ok (.getfield 448, 3) := by decide +kernel
theorem dX12_ask_172 : decode cX12_ask 172 = .ok (.iconst 1, 1) := by decide +kernel
theorem dX12_ask_173 : decode cX12_ask 173 = .ok (.iadd, 1) := by decide +kernel
theorem dX12_ask_174 : decode cX12_ask 174 = .ok (.putfield 448, 3) := by decide +kernel
theorem dX12_ask_177 : decode cX12_ask 177 = .ok (.aload_n 0, 1) := by decide +kernel
theorem dX12_ask_178 : decode cX12_ask 178 = .ok (.getfield 448, 3) := by decide +kernel
theorem dX12_ask_181 : decode cX12_ask 181 = .ok (.iconst 1, 1) := by decide +kernel
theorem dX12_ask_182 : decode cX12_ask 182 = .ok (.isub, 1) := by decide +kernel
theorem dX12_ask_183 : decode cX12_ask 183 = .ok (.ireturn, 1) := by decide +kernel
theorem dX12_answered_0 : decode cX12_answered 0 = .ok (.iload_n 1, 1) := by decide +kernel
theorem dX12_answered_1 : decode cX12_answered 1 = .ok (.iconst 0, 1) := by decide +kernel
theorem dX12_answered_2 : decode cX12_answered 2 = .ok (.aload_n 0, 1) := by decide +kernel
theorem dX12_answered_3 : decode cX12_answered 3 = .ok (.getfield 448, 3) := by decide +kernel
theorem dX12_answered_6 : decode cX12_answered 6 = .ok (.iconst 1, 1) := by decide +kernel
theorem dX12_answered_7 : decode cX12_answered 7 = .ok (.isub, 1) := by decide +kernel
theorem dX12_answered_8 : decode cX12_answered 8 = .ok (.invokestatic 140, 3) := by decide +kernel
theorem dX12_answered_11 : decode cX12_answered 11 = .ok (.ifCond .ne 5, 3) := by decide +kernel
theorem dX12_answered_14 : decode cX12_answered 14 = .ok (.iconst (-1), 1) := by decide +kernel
theorem dX12_answered_15 : decode cX12_answered 15 = .ok (.ireturn, 1) := by decide +kernel
theorem dX12_answered_16 : decode cX12_answered 16 = .ok (.iload_n 2, 1) := by decide +kernel
theorem dX12_answered_17 : decode cX12_answered 17 = .ok (.ifCond .ne 12, 3) := by decide +kernel
theorem dX12_answered_20 : decode cX12_answered 20 = .ok (.aload_n 0, 1) := by decide +kernel
theorem dX12_answered_21 : decode cX12_answered 21 = .ok (.getfield 101, 3) := by decide +kernel
theorem dX12_answered_24 : decode cX12_answered 24 = .ok (.iload_n 1, 1) := by decide +kernel
theorem dX12_answered_25 : decode cX12_answered 25 = .ok (.iaload, 1) := by decide +kernel
theorem dX12_answered_26 : decode cX12_answered 26 = .ok (.goto 32, 3) := by decide +kernel
theorem dX12_answered_29 : decode cX12_answered 29 = .ok (.iload_n 2, 1) := by decide +kernel
theorem dX12_answered_30 : decode cX12_answered 30 = .ok (.iconst 1, 1) := by decide +kernel
theorem dX12_answered_31 : decode cX12_answered 31 = .ok (.if_icmp .ne 12, 3) := by decide +kernel
theorem dX12_answered_34 : decode cX12_answered 34 = .ok (.aload_n 0, 1) := by decide +kernel
theorem dX12_answered_35 : decode cX12_answered 35 = .ok (.getfield 104, 3) := by decide +kernel
theorem dX12_answered_38 : decode cX12_answered 38 = .ok (.iload_n 1, 1) := by decide +kernel
theorem dX12_answered_39 : decode cX12_answered 39 = .ok (.iaload, 1) := by decide +kernel
theorem dX12_answered_40 : decode cX12_answered 40 = .ok (.goto 18, 3) := by decide +kernel
theorem dX12_answered_43 : decode cX12_answered 43 = .ok (.iload_n 2, 1) := by decide +kernel
theorem dX12_answered_44 : decode cX12_answered 44 = .ok (.iconst 2, 1) := by decide +kernel
theorem dX12_answered_45 : decode cX12_answered 45 = .ok (.if_icmp .ne 12, 3) := by decide +kernel
theorem dX12_answered_48 : decode cX12_answered 48 = .ok (.aload_n 0, 1) := by decide +kernel
theorem dX12_answered_49 : decode cX12_answered 49 = .ok (.getfield 107, 3) := by decide +kernel
theorem dX12_answered_52 : decode cX12_answered 52 = .ok (.iload_n 1, 1) := by decide +kernel
theorem dX12_answered_53 : decode cX12_answered 53 = .ok (.iaload, 1) := by decide +kernel
theorem dX12_answered_54 : decode cX12_answered 54 = .ok (.goto 4, 3) := by decide +kernel
theorem dX12_answered_57 : decode cX12_answered 57 = .ok (.iconst (-1), 1) := by decide +kernel
theorem dX12_answered_58 : decode cX12_answered 58 = .ok (.ireturn, 1) := by decide +kernel
theorem dX12_juror_0 : decode cX12_juror 0 = .ok (.aload_n 0, 1) := by decide +kernel
theorem dX12_juror_1 : decode cX12_juror 1 = .ok (.getfield 457, 3) := by decide +kernel
theorem dX12_juror_4 : decode cX12_juror 4 = .ok (.bipush 7, 2) := by decide +kernel
theorem dX12_juror_6 : decode cX12_juror 6 = .ok (.if_icmp .ne 5, 3) := by decide +kernel
theorem dX12_juror_9 : decode cX12_juror 9 = .ok (.iconst (-1), 1) := by decide +kernel
theorem dX12_juror_10 : decode cX12_juror 10 = .ok (.ireturn, 1) := by decide +kernel
theorem dX12_juror_11 : decode cX12_juror 11 = .ok (.aload_n 0, 1) := by decide +kernel
theorem dX12_juror_12 : decode cX12_juror 12 = .ok (.dup, 1) := by decide +kernel
theorem dX12_juror_13 : decode cX12_juror 13 = .ok (.getfield 457, 3) := by decide +kernel
theorem dX12_juror_16 : decode cX12_juror 16 = .ok (.iconst 1, 1) := by decide +kernel
theorem dX12_juror_17 : decode cX12_juror 17 = .ok (.iadd, 1) := by decide +kernel
theorem dX12_juror_18 : decode cX12_juror 18 = .ok (.putfield 457, 3) := by decide +kernel
theorem dX12_juror_21 : decode cX12_juror 21 = .ok (.aload_n 0, 1) := by decide +kernel
theorem dX12_juror_22 : decode cX12_juror 22 = .ok (.getfield 457, 3) := by decide +kernel
theorem dX12_juror_25 : decode cX12_juror 25 = .ok (.iconst 1, 1) := by decide +kernel
theorem dX12_juror_26 : decode cX12_juror 26 = .ok (.isub, 1) := by decide +kernel
theorem dX12_juror_27 : decode cX12_juror 27 = .ok (.ireturn, 1) := by decide +kernel
theorem dX12_isJuror_0 : decode cX12_isJuror 0 = .ok (.iload_n 1, 1) := by decide +kernel
theorem dX12_isJuror_1 : decode cX12_isJuror 1 = .ok (.iconst 0, 1) := by decide +kernel
theorem dX12_isJuror_2 : decode cX12_isJuror 2 = .ok (.aload_n 0, 1) := by decide +kernel
theorem dX12_isJuror_3 : decode cX12_isJuror 3 = .ok (.getfield 457, 3) := by decide +kernel
theorem dX12_isJuror_6 : decode cX12_isJuror 6 = .ok (.iconst 1, 1) := by decide +kernel
theorem dX12_isJuror_7 : decode cX12_isJuror 7 = .ok (.isub, 1) := by decide +kernel
theorem dX12_isJuror_8 : decode cX12_isJuror 8 = .ok (.invokestatic 140, 3) := by decide +kernel
theorem dX12_isJuror_11 : decode cX12_isJuror 11 = .ok (.ireturn, 1) := by decide +kernel
theorem dX12_knows_0 : decode cX12_knows 0 = .ok (.aload_n 0, 1) := by decide +kernel
theorem dX12_knows_1 : decode cX12_knows 1 = .ok (.iload_n 1, 1) := by decide +kernel
theorem dX12_knows_2 : decode cX12_knows 2 = .ok (.invokevirtual 460, 3) := by decide +kernel
theorem dX12_knows_5 : decode cX12_knows 5 = .ok (.ifCond .eq 20, 3) := by decide +kernel
theorem dX12_knows_8 : decode cX12_knows 8 = .ok (.iload_n 2, 1) := by decide +kernel
theorem dX12_knows_9 : decode cX12_knows 9 = .ok (.iconst 0, 1) := by decide +kernel
theorem dX12_knows_10 : decode cX12_knows 10 = .ok (.bipush 39, 2) := by decide +kernel
theorem dX12_knows_12 : decode cX12_knows 12 = .ok (.invokestatic 140, 3) := by decide +kernel
theorem dX12_knows_15 : decode cX12_knows 15 = .ok (.ifCond .eq 10, 3) := by decide +kernel
theorem dX12_knows_18 : decode cX12_knows 18 = .ok (.iload_n 3, 1) := by decide +kernel
theorem dX12_knows_19 : decode cX12_knows 19 = .ok (.invokestatic 206, 3) := by decide +kernel
theorem dX12_knows_22 : decode cX12_knows 22 = .ok (.ifCond .ne 5, 3) := by decide +kernel
theorem dX12_knows_25 : decode cX12_knows 25 = .ok (.iconst 0, 1) := by decide +kernel
theorem dX12_knows_26 : decode cX12_knows 26 = .ok (.ireturn, 1) := by decide +kernel
theorem dX12_knows_27 : decode cX12_knows 27 = .ok (.aload_n 0, 1) := by decide +kernel
theorem dX12_knows_28 : decode cX12_knows 28 = .ok (.getfield 110, 3) := by decide +kernel
theorem dX12_knows_31 : decode cX12_knows 31 = .ok (.bipush 40, 2) := by decide +kernel
theorem dX12_knows_33 : decode cX12_knows 33 = .ok (.iload_n 1, 1) := by decide +kernel
theorem dX12_knows_34 : decode cX12_knows 34 = .ok (.imul, 1) := by decide +kernel
theorem dX12_knows_35 : decode cX12_knows 35 = .ok (.iload_n 2, 1) := by decide +kernel
theorem dX12_knows_36 : decode cX12_knows 36 = .ok (.iadd, 1) := by decide +kernel
theorem dX12_knows_37 : decode cX12_knows 37 = .ok (.iload_n 3, 1) := by decide +kernel
theorem dX12_knows_38 : decode cX12_knows 38 = .ok (.aload_n 0, 1) := by decide +kernel
theorem dX12_knows_39 : decode cX12_knows 39 = .ok (.getfield 110, 3) := by decide +kernel
theorem dX12_knows_42 : decode cX12_knows 42 = .ok (.bipush 40, 2) := by decide +kernel
theorem dX12_knows_44 : decode cX12_knows 44 = .ok (.iload_n 1, 1) := by decide +kernel
theorem dX12_knows_45 : decode cX12_knows 45 = .ok (.imul, 1) := by decide +kernel
theorem dX12_knows_46 : decode cX12_knows 46 = .ok (.iload_n 2, 1) := by decide +kernel
theorem dX12_knows_47 : decode cX12_knows 47 = .ok (.iadd, 1) := by decide +kernel
theorem dX12_knows_48 : decode cX12_knows 48 = .ok (.iaload, 1) := by decide +kernel
theorem dX12_knows_49 : decode cX12_knows 49 = .ok (.invokestatic 236, 3) := by decide +kernel
theorem dX12_knows_52 : decode cX12_knows 52 = .ok (.iastore, 1) := by decide +kernel
theorem dX12_knows_53 : decode cX12_knows 53 = .ok (.iconst 1, 1) := by decide +kernel
theorem dX12_knows_54 : decode cX12_knows 54 = .ok (.ireturn, 1) := by decide +kernel
theorem dX12_seat_0 : decode cX12_seat 0 = .ok (.bipush 7, 2) := by decide +kernel
theorem dX12_seat_2 : decode cX12_seat 2 = .ok (.iload_n 0, 1) := by decide +kernel
theorem dX12_seat_3 : decode cX12_seat 3 = .ok (.imul, 1) := by decide +kernel
theorem dX12_seat_4 : decode cX12_seat 4 = .ok (.iload_n 1, 1) := by decide +kernel
theorem dX12_seat_5 : decode cX12_seat 5 = .ok (.iadd, 1) := by decide +kernel
theorem dX12_seat_6 : decode cX12_seat 6 = .ok (.ireturn, 1) := by decide +kernel
theorem dX12_marks_0 : decode cX12_marks 0 = .ok (.aload_n 0, 1) := by decide +kernel
theorem dX12_marks_1 : decode cX12_marks 1 = .ok (.iload_n 1, 1) := by decide +kernel
theorem dX12_marks_2 : decode cX12_marks 2 = .ok (.invokevirtual 460, 3) := by decide +kernel
theorem dX12_marks_5 : decode cX12_marks 5 = .ok (.ifCond .eq 16, 3) := by decide +kernel
theorem dX12_marks_8 : decode cX12_marks 8 = .ok (.aload_n 0, 1) := by decide +kernel
theorem dX12_marks_9 : decode cX12_marks 9 = .ok (.getfield 463, 3) := by decide +kernel
theorem dX12_marks_12 : decode cX12_marks 12 = .ok (.ifCond .eq 9, 3) := by decide +kernel
theorem dX12_marks_15 : decode cX12_marks 15 = .ok (.lload_n 2, 1) := by decide +kernel
theorem dX12_marks_16 : decode cX12_marks 16 = .ok (.lconst 0, 1) := by decide +kernel
theorem dX12_marks_17 : decode cX12_marks 17 = .ok (.lcmp, 1) := by decide +kernel
theorem dX12_marks_18 : decode cX12_marks 18 = .ok (.ifCond .ge 5, 3) := by decide +kernel
theorem dX12_marks_21 : decode cX12_marks 21 = .ok (.iconst (-1), 1) := by decide +kernel
theorem dX12_marks_22 : decode cX12_marks 22 = .ok (.ireturn, 1) := by decide +kernel
theorem dX12_marks_23 : decode cX12_marks 23 = .ok (.iconst 0, 1) := by decide +kernel
theorem dX12_marks_24 : decode cX12_marks 24 = .ok (.istore 4, 2) := by decide +kernel
theorem dX12_marks_26 : decode cX12_marks 26 = .ok (.iconst 0, 1) := by decide +kernel
theorem dX12_marks_27 : decode cX12_marks 27 = .ok (.istore 5, 2) := by decide +kernel
theorem dX12_marks_29 : decode cX12_marks 29 = .ok (.bipush 60, 2) := by decide +kernel
theorem dX12_marks_31 : decode cX12_marks 31 = .ok (.istore 6, 2) := by decide +kernel
theorem dX12_marks_33 : decode cX12_marks 33 = .ok (.iload 6, 2) := by decide +kernel
theorem dX12_marks_35 : decode cX12_marks 35 = .ok (.ifCond .lt 74, 3) := by decide +kernel
theorem dX12_marks_38 : decode cX12_marks 38 = .ok (.lload_n 2, 1) := by decide +kernel
theorem dX12_marks_39 : decode cX12_marks 39 = .ok (.iload 6, 2) := by decide +kernel
theorem dX12_marks_41 : decode cX12_marks 41 = .ok (.lshr, 1) := by decide +kernel
theorem dX12_marks_42 : decode cX12_marks 42 = .ok (.ldc2_w 467, 3) := by decide +kernel
theorem dX12_marks_45 : decode cX12_marks 45 = .ok (.land, 1) := by decide +kernel
theorem dX12_marks_46 : decode cX12_marks 46 = .ok (.l2i, 1) := by decide +kernel
theorem dX12_marks_47 : decode cX12_marks 47 = .ok (.istore 7, 2) := by decide +kernel
theorem dX12_marks_49 : decode cX12_marks 49 = .ok (.iload 7, 2) := by decide +kernel
theorem dX12_marks_51 : decode cX12_marks 51 = .ok (.ifCond .ne 11, 3) := by decide +kernel
theorem dX12_marks_54 : decode cX12_marks 54 = .ok (.iload 4, 2) := by decide +kernel
theorem dX12_marks_56 : decode cX12_marks 56 = .ok (.ifCond .ne 6, 3) := by decide +kernel
theorem dX12_marks_59 : decode cX12_marks 59 = .ok (.goto 44, 3) := by decide +kernel
theorem dX12_marks_62 : decode cX12_marks 62 = .ok (.iload 7, 2) := by decide +kernel
theorem dX12_marks_64 : decode cX12_marks 64 = .ok (.ifCond .eq 25, 3) := by decide +kernel
theorem dX12_marks_67 : decode cX12_marks 67 = .ok (.aload_n 0, 1) := by decide +kernel
theorem dX12_marks_68 : decode cX12_marks 68 = .ok (.iload 7, 2) := by decide +kernel
theorem dX12_marks_70 : decode cX12_marks 70 = .ok (.iconst 1, 1) := by decide +kernel
theorem dX12_marks_71 : decode cX12_marks 71 = .ok (.isub, 1) := by decide +kernel
theorem dX12_marks_72 : decode cX12_marks 72 = .ok (.invokevirtual 147, 3) := by decide +kernel
theorem dX12_marks_75 : decode cX12_marks 75 = .ok (.ifCond .eq 14, 3) := by decide +kernel
theorem dX12_marks_78 : decode cX12_marks 78 = .ok (.iload 5, 2) := by decide +kernel
theorem dX12_marks_80 : decode cX12_marks 80 = .ok (.iload 7, 2) := by decide +kernel
theorem dX12_marks_82 : decode cX12_marks 82 = .ok (.ishr, 1) := by decide +kernel
theorem dX12_marks_83 : decode cX12_marks 83 = .ok (.iconst 1, 1) := by decide +kernel
theorem dX12_marks_84 : decode cX12_marks 84 = .ok (.iand, 1) := by decide +kernel
theorem dX12_marks_85 : decode cX12_marks 85 = .ok (.iconst 1, 1) := by decide +kernel
theorem dX12_marks_86 : decode cX12_marks 86 = .ok (.if_icmp .ne 5, 3) := by decide +kernel
theorem dX12_marks_89 : decode cX12_marks 89 = .ok (.iconst (-1), 1) := by decide +kernel
theorem dX12_marks_90 : decode cX12_marks 90 = .ok (.ireturn, 1) := by decide +kernel
theorem dX12_marks_91 : decode cX12_marks 91 = .ok (.iload 5, 2) := by decide +kernel
theorem dX12_marks_93 : decode cX12_marks 93 = .ok (.iconst 1, 1) := by decide +kernel
theorem dX12_marks_94 : decode cX12_marks 94 = .ok (.iload 7, 2) := by decide +kernel
theorem dX12_marks_96 : decode cX12_marks 96 = .ok (.ishl, 1) := by decide +kernel
theorem dX12_marks_97 : decode cX12_marks 97 = .ok (.ior, 1) := by decide +kernel
theorem dX12_marks_98 : decode cX12_marks 98 = .ok (.istore 5, 2) := by decide +kernel
theorem dX12_marks_100 : decode cX12_marks 100 = .ok (.iinc 4 1, 3) := by decide +kernel
theorem dX12_marks_103 : decode cX12_marks 103 = .ok (.iinc 6 (-4), 3) := by decide +kernel
theorem dX12_marks_106 : decode cX12_marks 106 = .ok (.goto (-73), 3) := by decide +kernel
theorem dX12_marks_109 : decode cX12_marks 109 = .ok (.aload_n 0, 1) := by decide +kernel
theorem dX12_marks_110 : decode cX12_marks 110 = .ok (.getfield 469, 3) := by decide +kernel
theorem dX12_marks_113 : decode cX12_marks 113 = .ok (.iconst 1, 1) := by decide +kernel
theorem dX12_marks_114 : decode cX12_marks 114 = .ok (.isub, 1) := by decide +kernel
theorem dX12_marks_115 : decode cX12_marks 115 = .ok (.iload_n 1, 1) := by decide +kernel
theorem dX12_marks_116 : decode cX12_marks 116 = .ok (.invokestatic 472, 3) := by decide +kernel
theorem dX12_marks_119 : decode cX12_marks 119 = .ok (.istore 6, 2) := by decide +kernel
theorem dX12_marks_121 : decode cX12_marks 121 = .ok (.aload_n 0, 1) := by decide +kernel
theorem dX12_marks_122 : decode cX12_marks 122 = .ok (.getfield 116, 3) := by decide +kernel
theorem dX12_marks_125 : decode cX12_marks 125 = .ok (.iload 6, 2) := by decide +kernel
theorem dX12_marks_127 : decode cX12_marks 127 = .ok (.iload 4, 2) := by decide +kernel
theorem dX12_marks_129 : decode cX12_marks 129 = .ok (.iastore, 1) := by decide +kernel
theorem dX12_marks_130 : decode cX12_marks 130 = .ok (.iconst 0, 1) := by decide +kernel
theorem dX12_marks_131 : decode cX12_marks 131 = .ok (.istore 7, 2) := by decide +kernel
theorem dX12_marks_133 : decode cX12_marks 133 = .ok (.iload 7, 2) := by decide +kernel
theorem dX12_marks_135 : decode cX12_marks 135 = .ok (.iload 4, 2) := by decide +kernel
theorem dX12_marks_137 : decode cX12_marks 137 = .ok (.if_icmp .ge 40, 3) := by decide +kernel
theorem dX12_marks_140 : decode cX12_marks 140 = .ok (.aload_n 0, 1) := by decide +kernel
theorem dX12_marks_141 : decode cX12_marks 141 = .ok (.getfield 113, 3) := by decide +kernel
theorem dX12_marks_144 : decode cX12_marks 144 = .ok (.bipush 10, 2) := by decide +kernel
theorem dX12_marks_146 : decode cX12_marks 146 = .ok (.iload 6, 2) := by decide +kernel
theorem dX12_marks_148 : decode cX12_marks 148 = .ok (.imul, 1) := by decide +kernel
theorem dX12_marks_149 : decode cX12_marks 149 = .ok (.iload 7, 2) := by decide +kernel
theorem dX12_marks_151 : decode cX12_marks 151 = .ok (.iadd, 1) := by decide +kernel
theorem dX12_marks_152 : decode cX12_marks 152 = .ok (.lload_n 2, 1) := by decide +kernel
theorem dX12_marks_153 : decode cX12_marks 153 = .ok (.iconst 4, 1) := by decide +kernel
theorem dX12_marks_154 : decode cX12_marks 154 = .ok (.iload 4, 2) := by decide +kernel
theorem dX12_marks_156 : decode cX12_marks 156 = .ok (.iconst 1, 1) := by decide +kernel
theorem dX12_marks_157 : decode cX12_marks 157 = .ok (.isub, 1) := by decide +kernel
theorem dX12_marks_158 : decode cX12_marks 158 = .ok (.iload 7, 2) := by decide +kernel
theorem dX12_marks_160 : decode cX12_marks 160 = .ok (.isub, 1) := by decide +kernel
theorem dX12_marks_161 : decode cX12_marks 161 = .ok (.imul, 1) := by decide +kernel
theorem dX12_marks_162 : decode cX12_marks 162 = .ok (.lshr, 1) := by decide +kernel
theorem dX12_marks_163 : decode cX12_marks 163 = .ok (.ldc2_w 467, 3) := by decide +kernel
theorem dX12_marks_166 : decode cX12_marks 166 = .ok (.land, 1) := by decide +kernel
theorem dX12_marks_167 : decode cX12_marks 167 = .ok (.l2i, 1) := by decide +kernel
theorem dX12_marks_168 : decode cX12_marks 168 = .ok (.iconst 1, 1) := by decide +kernel
theorem dX12_marks_169 : decode cX12_marks 169 = .ok (.isub, 1) := by decide +kernel
theorem dX12_marks_170 : decode cX12_marks 170 = .ok (.iastore, 1) := by decide +kernel
theorem dX12_marks_171 : decode cX12_marks 171 = .ok (.iinc 7 1, 3) := by decide +kernel
theorem dX12_marks_174 : decode cX12_marks 174 = .ok (.goto (-41), 3) := by decide +kernel
theorem dX12_marks_177 : decode cX12_marks 177 = .ok (.iload 4, 2) := by decide +kernel
theorem dX12_marks_179 : decode cX12_marks 179 = .ok (.ireturn, 1) := by decide +kernel
theorem dX12_isInRound_0 : decode cX12_isInRound 0 = .ok (.aload_n 0, 1) := by decide +kernel
theorem dX12_isInRound_1 : decode cX12_isInRound 1 = .ok (.getfield 119, 3) := by decide +kernel
theorem dX12_isInRound_4 : decode cX12_isInRound 4 = .ok (.iload_n 1, 1) := by decide +kernel
theorem dX12_isInRound_5 : decode cX12_isInRound 5 = .ok (.iaload, 1) := by decide +kernel
theorem dX12_isInRound_6 : decode cX12_isInRound 6 = .ok (.iload_n 2, 1) := by decide +kernel
theorem dX12_isInRound_7 : decode cX12_isInRound 7 = .ok (.ishr, 1) := by decide +kernel
theorem dX12_isInRound_8 : decode cX12_isInRound 8 = .ok (.iconst 1, 1) := by decide +kernel
theorem dX12_isInRound_9 : decode cX12_isInRound 9 = .ok (.iand, 1) := by decide +kernel
theorem dX12_isInRound_10 : decode cX12_isInRound 10 = .ok (.iconst 1, 1) := by decide +kernel
theorem dX12_isInRound_11 : decode cX12_isInRound 11 = .ok (.if_icmp .ne 7, 3) := by decide +kernel
theorem dX12_isInRound_14 : decode cX12_isInRound 14 = .ok (.iconst 1, 1) := by decide +kernel
theorem dX12_isInRound_15 : decode cX12_isInRound 15 = .ok (.goto 4, 3) := by decide +kernel
theorem dX12_isInRound_18 : decode cX12_isInRound 18 = .ok (.iconst 0, 1) := by decide +kernel
theorem dX12_isInRound_19 : decode cX12_isInRound 19 = .ok (.ireturn, 1) := by decide +kernel
theorem dX12_countsNow_0 : decode cX12_countsNow 0 = .ok (.iconst 1, 1) := by decide +kernel
theorem dX12_countsNow_1 : decode cX12_countsNow 1 = .ok (.istore_n 3, 1) := by decide +kernel
theorem dX12_countsNow_2 : decode cX12_countsNow 2 = .ok (.iload_n 1, 1) := by decide +kernel
theorem dX12_countsNow_3 : decode cX12_countsNow 3 = .ok (.iload_n 2, 1) := by decide +kernel
theorem dX12_countsNow_4 : decode cX12_countsNow 4 = .ok (.invokestatic 472, 3) := by decide +kernel
theorem dX12_countsNow_7 : decode cX12_countsNow 7 = .ok (.istore 4, 2) := by decide +kernel
theorem dX12_countsNow_9 : decode cX12_countsNow 9 = .ok (.iconst 0, 1) := by decide +kernel
theorem dX12_countsNow_10 : decode cX12_countsNow 10 = .ok (.istore 5, 2) := by decide +kernel
theorem dX12_countsNow_12 : decode cX12_countsNow 12 = .ok (.iload 5, 2) := by decide +kernel
theorem dX12_countsNow_14 : decode cX12_countsNow 14 = .ok (.aload_n 0, 1) := by decide +kernel
theorem dX12_countsNow_15 : decode cX12_countsNow 15 = .ok (.getfield 116, 3) := by decide +kernel
theorem dX12_countsNow_18 : decode cX12_countsNow 18 = .ok (.iload 4, 2) := by decide +kernel
theorem dX12_countsNow_20 : decode cX12_countsNow 20 = .ok (.iaload, 1) := by decide +kernel
theorem dX12_countsNow_21 : decode cX12_countsNow 21 = .ok (.if_icmp .ge 68, 3) := by decide +kernel
theorem dX12_countsNow_24 : decode cX12_countsNow 24 = .ok (.aload_n 0, 1) := by decide +kernel
theorem dX12_countsNow_25 : decode cX12_countsNow 25 = .ok (.getfield 113, 3) := by decide +kernel
theorem dX12_countsNow_28 : decode cX12_countsNow 28 = .ok (.bipush 10, 2) := by decide +kernel
theorem dX12_countsNow_30 : decode cX12_countsNow 30 = .ok (.iload 4, 2) := by decide +kernel
theorem dX12_countsNow_32 : decode cX12_countsNow 32 = .ok (.imul, 1) := by decide +kernel
theorem dX12_countsNow_33 : decode cX12_countsNow 33 = .ok (.iload 5, 2) := by decide +kernel
theorem dX12_countsNow_35 : decode cX12_countsNow 35 = .ok (.iadd, 1) := by decide +kernel
theorem dX12_countsNow_36 : decode cX12_countsNow 36 = .ok (.iaload, 1) := by decide +kernel
theorem dX12_countsNow_37 : decode cX12_countsNow 37 = .ok (.istore 6, 2) := by decide +kernel
theorem dX12_countsNow_39 : decode cX12_countsNow 39 = .ok (.iload_n 3, 1) := by decide +kernel
theorem dX12_countsNow_40 : decode cX12_countsNow 40 = .ok (.ifCond .eq 41, 3) := by decide +kernel
theorem dX12_countsNow_43 : decode cX12_countsNow 43 = .ok (.aload_n 0, 1) := by decide +kernel
theorem dX12_countsNow_44 : decode cX12_countsNow 44 = .ok (.iload_n 1, 1) := by decide +kernel
theorem dX12_countsNow_45 : decode cX12_countsNow 45 = .ok (.iload 6, 2) := by decide +kernel
theorem dX12_countsNow_47 : decode cX12_countsNow 47 = .ok (.invokevirtual 475, 3) := by decide +kernel
theorem dX12_countsNow_50 : decode cX12_countsNow 50 = .ok (.ifCond .eq 27, 3) := by decide +kernel
theorem dX12_countsNow_53 : decode cX12_countsNow 53 = .ok (.aload_n 0, 1) := by decide +kernel
theorem dX12_countsNow_54 : decode cX12_countsNow 54 = .ok (.getfield 110, 3) := by decide +kernel
theorem dX12_countsNow_57 : decode cX12_countsNow 57 = .ok (.bipush 40, 2) := by decide +kernel
theorem dX12_countsNow_59 : decode cX12_countsNow 59 = .ok (.iload_n 2, 1) := by decide +kernel
theorem dX12_countsNow_60 : decode cX12_countsNow 60 = .ok (.imul, 1) := by decide +kernel
theorem dX12_countsNow_61 : decode cX12_countsNow 61 = .ok (.aload_n 0, 1) := by decide +kernel
theorem dX12_countsNow_62 : decode cX12_countsNow 62 = .ok (.getfield 17, 3) := by decide +kernel
theorem dX12_countsNow_65 : decode cX12_countsNow 65 = .ok (.iload 6, 2) := by decide +kernel
theorem dX12_countsNow_67 : decode cX12_countsNow 67 = .ok (.iaload, 1) := by decide +kernel
theorem dX12_countsNow_68 : decode cX12_countsNow 68 = .ok (.iadd, 1) := by decide +kernel
theorem dX12_countsNow_69 : decode cX12_countsNow 69 = .ok (.iaload, 1) := by decide +kernel
theorem dX12_countsNow_70 : decode cX12_countsNow 70 = .ok (.aload_n 0, 1) := by decide +kernel
theorem dX12_countsNow_71 : decode cX12_countsNow 71 = .ok (.getfield 144, 3) := by decide +kernel
theorem dX12_countsNow_74 : decode cX12_countsNow 74 = .ok (.if_icmp .le 7, 3) := by decide +kernel
theorem dX12_countsNow_77 : decode cX12_countsNow 77 = .ok (.iconst 1, 1) := by decide +kernel
theorem dX12_countsNow_78 : decode cX12_countsNow 78 = .ok (.goto 4, 3) := by decide +kernel
theorem dX12_countsNow_81 : decode cX12_countsNow 81 = .ok (.iconst 0, 1) := by decide +kernel
theorem dX12_countsNow_82 : decode cX12_countsNow 82 = .ok (.istore_n 3, 1) := by decide +kernel
theorem dX12_countsNow_83 : decode cX12_countsNow 83 = .ok (.iinc 5 1, 3) := by decide +kernel
theorem dX12_countsNow_86 : decode cX12_countsNow 86 = .ok (.goto (-74), 3) := by decide +kernel
theorem dX12_countsNow_89 : decode cX12_countsNow 89 = .ok (.iload_n 3, 1) := by decide +kernel
theorem dX12_countsNow_90 : decode cX12_countsNow 90 = .ok (.ireturn, 1) := by decide +kernel
theorem dX12_counts_0 : decode cX12_counts 0 = .ok (.iload_n 1, 1) := by decide +kernel
theorem dX12_counts_1 : decode cX12_counts 1 = .ok (.aload_n 0, 1) := by decide +kernel
theorem dX12_counts_2 : decode cX12_counts 2 = .ok (.getfield 478, 3) := by decide +kernel
theorem dX12_counts_5 : decode cX12_counts 5 = .ok (.if_icmp .ge 25, 3) := by decide +kernel
theorem dX12_counts_8 : decode cX12_counts 8 = .ok (.aload_n 0, 1) := by decide +kernel
theorem dX12_counts_9 : decode cX12_counts 9 = .ok (.getfield 122, 3) := by decide +kernel
theorem dX12_counts_12 : decode cX12_counts 12 = .ok (.iload_n 1, 1) := by decide +kernel
theorem dX12_counts_13 : decode cX12_counts 13 = .ok (.iaload, 1) := by decide +kernel
theorem dX12_counts_14 : decode cX12_counts 14 = .ok (.iload_n 2, 1) := by decide +kernel
theorem dX12_counts_15 : decode cX12_counts 15 = .ok (.ishr, 1) := by decide +kernel
theorem dX12_counts_16 : decode cX12_counts 16 = .ok (.iconst 1, 1) := by decide +kernel
theorem dX12_counts_17 : decode cX12_counts 17 = .ok (.iand, 1) := by decide +kernel
theorem dX12_counts_18 : decode cX12_counts 18 = .ok (.iconst 1, 1) := by decide +kernel
theorem dX12_counts_19 : decode cX12_counts 19 = .ok (.if_icmp .ne 7, 3) := by decide +kernel
theorem dX12_counts_22 : decode cX12_counts 22 = .ok (.iconst 1, 1) := by decide +kernel
theorem dX12_counts_23 : decode cX12_counts 23 = .ok (.goto 13, 3) := by decide +kernel
theorem dX12_counts_26 : decode cX12_counts 26 = .ok (.iconst 0, 1) := by decide +kernel
theorem dX12_counts_27 : decode cX12_counts 27 = .ok (.goto 9, 3) := by decide +kernel
theorem dX12_counts_30 : decode cX12_counts 30 = .ok (.aload_n 0, 1) := by decide +kernel
theorem dX12_counts_31 : decode cX12_counts 31 = .ok (.iload_n 1, 1) := by decide +kernel
theorem dX12_counts_32 : decode cX12_counts 32 = .ok (.iload_n 2, 1) := by decide +kernel
theorem dX12_counts_33 : decode cX12_counts 33 = .ok (.invokevirtual 481, 3) := by decide +kernel
theorem dX12_counts_36 : decode cX12_counts 36 = .ok (.ireturn, 1) := by decide +kernel
theorem dX12_placeIn_0 : decode cX12_placeIn 0 = .ok (.iload_n 1, 1) := by decide +kernel
theorem dX12_placeIn_1 : decode cX12_placeIn 1 = .ok (.iload_n 2, 1) := by decide +kernel
theorem dX12_placeIn_2 : decode cX12_placeIn 2 = .ok (.invokestatic 472, 3) := by decide +kernel
theorem dX12_placeIn_5 : decode cX12_placeIn 5 = .ok (.istore 4, 2) := by decide +kernel
theorem dX12_placeIn_7 : decode cX12_placeIn 7 = .ok (.iconst 0, 1) := by decide +kernel
theorem dX12_placeIn_8 : decode cX12_placeIn 8 = .ok (.istore 5, 2) := by decide +kernel
theorem dX12_placeIn_10 : decode cX12_placeIn 10 = .ok (.iconst 0, 1) := by decide +kernel
theorem dX12_placeIn_11 : decode cX12_placeIn 11 = .ok (.istore 6, 2) := by decide +kernel
theorem dX12_placeIn_13 : decode cX12_placeIn 13 = .ok (.iload 6, 2) := by decide +kernel
theorem dX12_placeIn_15 : decode cX12_placeIn 15 = .ok (.aload_n 0, 1) := by decide +kernel
theorem dX12_placeIn_16 : decode cX12_placeIn 16 = .ok (.getfield 116, 3) := by decide +kernel
theorem dX12_placeIn_19 : decode cX12_placeIn 19 = .ok (.iload 4, 2) := by decide +kernel
theorem dX12_placeIn_21 : decode cX12_placeIn 21 = .ok (.iaload, 1) := by decide +kernel
theorem dX12_placeIn_22 : decode cX12_placeIn 22 = .ok (.if_icmp .ge 48, 3) := by decide +kernel
theorem dX12_placeIn_25 : decode cX12_placeIn 25 = .ok (.aload_n 0, 1) := by decide +kernel
theorem dX12_placeIn_26 : decode cX12_placeIn 26 = .ok (.getfield 113, 3) := by decide +kernel
theorem dX12_placeIn_29 : decode cX12_placeIn 29 = .ok (.bipush 10, 2) := by decide +kernel
theorem dX12_placeIn_31 : decode cX12_placeIn 31 = .ok (.iload 4, 2) := by decide +kernel
theorem dX12_placeIn_33 : decode cX12_placeIn 33 = .ok (.imul, 1) := by decide +kernel
theorem dX12_placeIn_34 : decode cX12_placeIn 34 = .ok (.iload 6, 2) := by decide +kernel
theorem dX12_placeIn_36 : decode cX12_placeIn 36 = .ok (.iadd, 1) := by decide +kernel
theorem dX12_placeIn_37 : decode cX12_placeIn 37 = .ok (.iaload, 1) := by decide +kernel
theorem dX12_placeIn_38 : decode cX12_placeIn 38 = .ok (.istore 7, 2) := by decide +kernel
theorem dX12_placeIn_40 : decode cX12_placeIn 40 = .ok (.iload 7, 2) := by decide +kernel
theorem dX12_placeIn_42 : decode cX12_placeIn 42 = .ok (.iload_n 3, 1) := by decide +kernel
theorem dX12_placeIn_43 : decode cX12_placeIn 43 = .ok (.if_icmp .ne 6, 3) := by decide +kernel
theorem dX12_placeIn_46 : decode cX12_placeIn 46 = .ok (.iload 5, 2) := by decide +kernel
theorem dX12_placeIn_48 : decode cX12_placeIn 48 = .ok (.ireturn, 1) := by decide +kernel
theorem dX12_placeIn_49 : decode cX12_placeIn 49 = .ok (.iload 5, 2) := by decide +kernel
theorem dX12_placeIn_51 : decode cX12_placeIn 51 = .ok (.aload_n 0, 1) := by decide +kernel
theorem dX12_placeIn_52 : decode cX12_placeIn 52 = .ok (.iload_n 1, 1) := by decide +kernel
theorem dX12_placeIn_53 : decode cX12_placeIn 53 = .ok (.iload 7, 2) := by decide +kernel
theorem dX12_placeIn_55 : decode cX12_placeIn 55 = .ok (.invokevirtual 475, 3) := by decide +kernel
theorem dX12_placeIn_58 : decode cX12_placeIn 58 = .ok (.invokestatic 162, 3) := by decide +kernel
theorem dX12_placeIn_61 : decode cX12_placeIn 61 = .ok (.iadd, 1) := by decide +kernel
theorem dX12_placeIn_62 : decode cX12_placeIn 62 = .ok (.istore 5, 2) := by decide +kernel
theorem dX12_placeIn_64 : decode cX12_placeIn 64 = .ok (.iinc 6 1, 3) := by decide +kernel
theorem dX12_placeIn_67 : decode cX12_placeIn 67 = .ok (.goto (-54), 3) := by decide +kernel
theorem dX12_placeIn_70 : decode cX12_placeIn 70 = .ok (.iconst (-1), 1) := by decide +kernel
theorem dX12_placeIn_71 : decode cX12_placeIn 71 = .ok (.ireturn, 1) := by decide +kernel
theorem dX12_bits_0 : decode cX12_bits 0 = .ok (.iconst 0, 1) := by decide +kernel
theorem dX12_bits_1 : decode cX12_bits 1 = .ok (.istore_n 1, 1) := by decide +kernel
theorem dX12_bits_2 : decode cX12_bits 2 = .ok (.iload_n 0, 1) := by decide +kernel
theorem dX12_bits_3 : decode cX12_bits 3 = .ok (.istore_n 2, 1) := by decide +kernel
theorem dX12_bits_4 : decode cX12_bits 4 = .ok (.iload_n 2, 1) := by decide +kernel
theorem dX12_bits_5 : decode cX12_bits 5 = .ok (.ifCond .le 16, 3) := by decide +kernel
theorem dX12_bits_8 : decode cX12_bits 8 = .ok (.iload_n 1, 1) := by decide +kernel
theorem dX12_bits_9 : decode cX12_bits 9 = .ok (.iload_n 2, 1) := by decide +kernel
theorem dX12_bits_10 : decode cX12_bits 10 = .ok (.iconst 1, 1) := by decide +kernel
theorem dX12_bits_11 : decode cX12_bits 11 = .ok (.iand, 1) := by decide +kernel
theorem dX12_bits_12 : decode cX12_bits 12 = .ok (.iadd, 1) := by decide +kernel
theorem dX12_bits_13 : decode cX12_bits 13 = .ok (.istore_n 1, 1) := by decide +kernel
theorem dX12_bits_14 : decode cX12_bits 14 = .ok (.iload_n 2, 1) := by decide +kernel
theorem dX12_bits_15 : decode cX12_bits 15 = .ok (.iconst 1, 1) := by decide +kernel
theorem dX12_bits_16 : decode cX12_bits 16 = .ok (.ishr, 1) := by decide +kernel
theorem dX12_bits_17 : decode cX12_bits 17 = .ok (.istore_n 2, 1) := by decide +kernel
theorem dX12_bits_18 : decode cX12_bits 18 = .ok (.goto (-14), 3) := by decide +kernel
theorem dX12_bits_21 : decode cX12_bits 21 = .ok (.iload_n 1, 1) := by decide +kernel
theorem dX12_bits_22 : decode cX12_bits 22 = .ok (.ireturn, 1) := by decide +kernel
theorem dX12_against_0 : decode cX12_against 0 = .ok (.iconst 0, 1) := by decide +kernel
theorem dX12_against_1 : decode cX12_against 1 = .ok (.istore 4, 2) := by decide +kernel
theorem dX12_against_3 : decode cX12_against 3 = .ok (.iconst 0, 1) := by decide +kernel
theorem dX12_against_4 : decode cX12_against 4 = .ok (.istore 5, 2) := by decide +kernel
theorem dX12_against_6 : decode cX12_against 6 = .ok (.iload 5, 2) := by decide +kernel
theorem dX12_against_8 : decode cX12_against 8 = .ok (.aload_n 0, 1) := by decide +kernel
theorem dX12_against_9 : decode cX12_against 9 = .ok (.getfield 457, 3) := by decide +kernel
theorem dX12_against_12 : decode cX12_against 12 = .ok (.if_icmp .ge 86, 3) := by decide +kernel
theorem dX12_against_15 : decode cX12_against 15 = .ok (.aload_n 0, 1) := by decide +kernel
theorem dX12_against_16 : decode cX12_against 16 = .ok (.iload_n 1, 1) := by decide +kernel
theorem dX12_against_17 : decode cX12_against 17 = .ok (.iload 5, 2) := by decide +kernel
theorem dX12_against_19 : decode cX12_against 19 = .ok (.invokevirtual 484, 3) := by decide +kernel
theorem dX12_against_22 : decode cX12_against 22 = .ok (.ifCond .ne 6, 3) := by decide +kernel
theorem dX12_against_25 : decode cX12_against 25 = .ok (.goto 67, 3) := by decide +kernel
theorem dX12_against_28 : decode cX12_against 28 = .ok (.aload_n 0, 1) := by decide +kernel
theorem dX12_against_29 : decode cX12_against 29 = .ok (.iload_n 1, 1) := by decide +kernel
theorem dX12_against_30 : decode cX12_against 30 = .ok (.iload 5, 2) := by decide +kernel
theorem dX12_against_32 : decode cX12_against 32 = .ok (.iload_n 2, 1) := by decide +kernel
theorem dX12_against_33 : decode cX12_against 33 = .ok (.invokevirtual 487, 3) := by decide +kernel
theorem dX12_against_36 : decode cX12_against 36 = .ok (.istore 6, 2) := by decide +kernel
theorem dX12_against_38 : decode cX12_against 38 = .ok (.aload_n 0, 1) := by decide +kernel
theorem dX12_against_39 : decode cX12_against 39 = .ok (.iload_n 1, 1) := by decide +kernel
theorem dX12_against_40 : decode cX12_against 40 = .ok (.iload 5, 2) := by decide +kernel
theorem dX12_against_42 : decode cX12_against 42 = .ok (.iload_n 3, 1) := by decide +kernel
theorem dX12_against_43 : decode cX12_against 43 = .ok (.invokevirtual 487, 3) := by decide +kernel
theorem dX12_against_46 : decode cX12_against 46 = .ok (.istore 7, 2) := by decide +kernel
theorem dX12_against_48 : decode cX12_against 48 = .ok (.iload 6, 2) := by decide +kernel
theorem dX12_against_50 : decode cX12_against 50 = .ok (.iconst (-1), 1) := by decide +kernel
theorem dX12_against_51 : decode cX12_against 51 = .ok (.if_icmp .eq 19, 3) := by decide +kernel
theorem dX12_against_54 : decode cX12_against 54 = .ok (.iload 7, 2) := by decide +kernel
theorem dX12_against_56 : decode cX12_against 56 = .ok (.iconst (-1), 1) := by decide +kernel
theorem dX12_against_57 : decode cX12_against 57 = .ok (.if_icmp .eq 10, 3) := by decide +kernel
theorem dX12_against_60 : decode cX12_against 60 = .ok (.iload 6, 2) := by decide +kernel
theorem dX12_against_62 : decode cX12_against 62 = .ok (.iload 7, 2) := by decide +kernel
theorem dX12_against_64 : decode cX12_against 64 = .ok (.if_icmp .ge 6, 3) := by decide +kernel
theorem dX12_against_67 : decode cX12_against 67 = .ok (.iinc 4 1, 3) := by decide +kernel
theorem dX12_against_70 : decode cX12_against 70 = .ok (.iload 7, 2) := by decide +kernel
theorem dX12_against_72 : decode cX12_against 72 = .ok (.iconst (-1), 1) := by decide +kernel
theorem dX12_against_73 : decode cX12_against 73 = .ok (.if_icmp .eq 19, 3) := by decide +kernel
theorem dX12_against_76 : decode cX12_against 76 = .ok (.iload 6, 2) := by decide +kernel
theorem dX12_against_78 : decode cX12_against 78 = .ok (.iconst (-1), 1) := by decide +kernel
theorem dX12_against_79 : decode cX12_against 79 = .ok (.if_icmp .eq 10, 3) := by decide +kernel
theorem dX12_against_82 : decode cX12_against 82 = .ok (.iload 7, 2) := by decide +kernel
theorem dX12_against_84 : decode cX12_against 84 = .ok (.iload 6, 2) := by decide +kernel
theorem dX12_against_86 : decode cX12_against 86 = .ok (.if_icmp .ge 6, 3) := by decide +kernel
theorem dX12_against_89 : decode cX12_against 89 = .ok (.iinc 4 (-1), 3) := by decide +kernel
theorem dX12_against_92 : decode cX12_against 92 = .ok (.iinc 5 1, 3) := by decide +kernel
theorem dX12_against_95 : decode cX12_against 95 = .ok (.goto (-89), 3) := by decide +kernel
theorem dX12_against_98 : decode cX12_against 98 = .ok (.iload 4, 2) := by decide +kernel
theorem dX12_against_100 : decode cX12_against 100 = .ok (.ifCond .le 7, 3) := by decide +kernel
theorem dX12_against_103 : decode cX12_against 103 = .ok (.iconst 2, 1) := by decide +kernel
theorem dX12_against_104 : decode cX12_against 104 = .ok (.goto 13, 3) := by decide +kernel
theorem dX12_against_107 : decode cX12_against 107 = .ok (.iload 4, 2) := by decide +kernel
theorem dX12_against_109 : decode cX12_against 109 = .ok (.ifCond .ne 7, 3) := by decide +kernel
theorem dX12_against_112 : decode cX12_against 112 = .ok (.iconst 1, 1) := by decide +kernel
theorem dX12_against_113 : decode cX12_against 113 = .ok (.goto 4, 3) := by decide +kernel
theorem dX12_against_116 : decode cX12_against 116 = .ok (.iconst 0, 1) := by decide +kernel
theorem dX12_against_117 : decode cX12_against 117 = .ok (.ireturn, 1) := by decide +kernel
theorem dX12_pointsOf_0 : decode cX12_pointsOf 0 = .ok (.iconst 0, 1) := by decide +kernel
theorem dX12_pointsOf_1 : decode cX12_pointsOf 1 = .ok (.istore 4, 2) := by decide +kernel
theorem dX12_pointsOf_3 : decode cX12_pointsOf 3 = .ok (.iconst 0, 1) := by decide +kernel
theorem dX12_pointsOf_4 : decode cX12_pointsOf 4 = .ok (.istore 5, 2) := by decide +kernel
theorem dX12_pointsOf_6 : decode cX12_pointsOf 6 = .ok (.iload 5, 2) := by decide +kernel
theorem dX12_pointsOf_8 : decode cX12_pointsOf 8 = .ok (.aload_n 0, 1) := by decide +kernel
theorem dX12_pointsOf_9 : decode cX12_pointsOf 9 = .ok (.getfield 457, 3) := by decide +kernel
theorem dX12_pointsOf_12 : decode cX12_pointsOf 12 = .ok (.if_icmp .ge 81, 3) := by decide +kernel
theorem dX12_pointsOf_15 : decode cX12_pointsOf 15 = .ok (.iload_n 2, 1) := by decide +kernel
theorem dX12_pointsOf_16 : decode cX12_pointsOf 16 = .ok (.iconst 2, 1) := by decide +kernel
theorem dX12_pointsOf_17 : decode cX12_pointsOf 17 = .ok (.if_icmp .ge 76, 3) := by decide +kernel
theorem dX12_pointsOf_20 : decode cX12_pointsOf 20 = .ok (.aload_n 0, 1) := by decide +kernel
theorem dX12_pointsOf_21 : decode cX12_pointsOf 21 = .ok (.iload_n 1, 1) := by decide +kernel
theorem dX12_pointsOf_22 : decode cX12_pointsOf 22 = .ok (.iload 5, 2) := by decide +kernel
theorem dX12_pointsOf_24 : decode cX12_pointsOf 24 = .ok (.invokevirtual 484, 3) := by decide +kernel
theorem dX12_pointsOf_27 : decode cX12_pointsOf 27 = .ok (.ifCond .eq 14, 3) := by decide +kernel
theorem dX12_pointsOf_30 : decode cX12_pointsOf 30 = .ok (.aload_n 0, 1) := by decide +kernel
theorem dX12_pointsOf_31 : decode cX12_pointsOf 31 = .ok (.iload_n 1, 1) := by decide +kernel
theorem dX12_pointsOf_32 : decode cX12_pointsOf 32 = .ok (.iload 5, 2) := by decide +kernel
theorem dX12_pointsOf_34 : decode cX12_pointsOf 34 = .ok (.iload_n 3, 1) := by decide +kernel
theorem dX12_pointsOf_35 : decode cX12_pointsOf 35 = .ok (.invokevirtual 487, 3) := by decide +kernel
theorem dX12_pointsOf_38 : decode cX12_pointsOf 38 = .ok (.goto 4, 3) := by decide +kernel
theorem dX12_pointsOf_41 : decode cX12_pointsOf 41 = .ok (.iconst (-1), 1) := by decide +kernel
theorem dX12_pointsOf_42 : decode cX12_pointsOf 42 = .ok (.istore 6, 2) := by decide +kernel
theorem dX12_pointsOf_44 : decode cX12_pointsOf 44 = .ok (.iload 6, 2) := by decide +kernel
theorem dX12_pointsOf_46 : decode cX12_pointsOf 46 = .ok (.iconst (-1), 1) := by decide +kernel
theorem dX12_pointsOf_47 : decode cX12_pointsOf 47 = .ok (.if_icmp .eq 40, 3) := by decide +kernel
theorem dX12_pointsOf_50 : decode cX12_pointsOf 50 = .ok (.iload 4, 2) := by decide +kernel
theorem dX12_pointsOf_52 : decode cX12_pointsOf 52 = .ok (.iload_n 2, 1) := by decide +kernel
theorem dX12_pointsOf_53 : decode cX12_pointsOf 53 = .ok (.ifCond .ne 19, 3) := by decide +kernel
theorem dX12_pointsOf_56 : decode cX12_pointsOf 56 = .ok (.iload 6, 2) := by decide +kernel
theorem dX12_pointsOf_58 : decode cX12_pointsOf 58 = .ok (.ifCond .ne 7, 3) := by decide +kernel
theorem dX12_pointsOf_61 : decode cX12_pointsOf 61 = .ok (.iconst 1, 1) := by decide +kernel
theorem dX12_pointsOf_62 : decode cX12_pointsOf 62 = .ok (.goto 4, 3) := by decide +kernel
theorem dX12_pointsOf_65 : decode cX12_pointsOf 65 = .ok (.iconst 0, 1) := by decide +kernel
theorem dX12_pointsOf_66 : decode cX12_pointsOf 66 = .ok (.invokestatic 162, 3) := by decide +kernel
theorem dX12_pointsOf_69 : decode cX12_pointsOf 69 = .ok (.goto 15, 3) := by decide +kernel
theorem dX12_pointsOf_72 : decode cX12_pointsOf 72 = .ok (.aload_n 0, 1) := by decide +kernel
theorem dX12_pointsOf_73 : decode cX12_pointsOf 73 = .ok (.getfield 119, 3) := by decide +kernel
theorem dX12_pointsOf_76 : decode cX12_pointsOf 76 = .ok (.iload_n 1, 1) := by decide +kernel
theorem dX12_pointsOf_77 : decode cX12_pointsOf 77 = .ok (.iaload, 1) := by decide +kernel
theorem dX12_pointsOf_78 : decode cX12_pointsOf 78 = .ok (.invokestatic 490, 3) := by decide +kernel
theorem dX12_pointsOf_81 : decode cX12_pointsOf 81 = .ok (.iload 6, 2) := by decide +kernel
theorem dX12_pointsOf_83 : decode cX12_pointsOf 83 = .ok (.isub, 1) := by decide +kernel
theorem dX12_pointsOf_84 : decode cX12_pointsOf 84 = .ok (.iadd, 1) := by decide +kernel
theorem dX12_pointsOf_85 : decode cX12_pointsOf 85 = .ok (.istore 4, 2) := by decide +kernel
theorem dX12_pointsOf_87 : decode cX12_pointsOf 87 = .ok (.iinc 5 1, 3) := by decide +kernel
theorem dX12_pointsOf_90 : decode cX12_pointsOf 90 = .ok (.goto (-84), 3) := by decide +kernel
theorem dX12_pointsOf_93 : decode cX12_pointsOf 93 = .ok (.iconst 0, 1) := by decide +kernel
theorem dX12_pointsOf_94 : decode cX12_pointsOf 94 = .ok (.istore 5, 2) := by decide +kernel
theorem dX12_pointsOf_96 : decode cX12_pointsOf 96 = .ok (.iload 5, 2) := by decide +kernel
theorem dX12_pointsOf_98 : decode cX12_pointsOf 98 = .ok (.aload_n 0, 1) := by decide +kernel
theorem dX12_pointsOf_99 : decode cX12_pointsOf 99 = .ok (.getfield 137, 3) := by decide +kernel
theorem dX12_pointsOf_102 : decode cX12_pointsOf 102 = .ok (.if_icmp .ge 43, 3) := by decide +kernel
theorem dX12_pointsOf_105 : decode cX12_pointsOf 105 = .ok (.iload_n 2, 1) := by decide +kernel
theorem dX12_pointsOf_106 : decode cX12_pointsOf 106 = .ok (.iconst 2, 1) := by decide +kernel
theorem dX12_pointsOf_107 : decode cX12_pointsOf 107 = .ok (.if_icmp .ne 38, 3) := by decide +kernel
theorem dX12_pointsOf_110 : decode cX12_pointsOf 110 = .ok (.iload 5, 2) := by decide +kernel
theorem dX12_pointsOf_112 : decode cX12_pointsOf 112 = .ok (.iload_n 3, 1) := by decide +kernel
theorem dX12_pointsOf_113 : decode cX12_pointsOf 113 = .ok (.if_icmp .eq 26, 3) := by decide +kernel
theorem dX12_pointsOf_116 : decode cX12_pointsOf 116 = .ok (.aload_n 0, 1) := by decide +kernel
theorem dX12_pointsOf_117 : decode cX12_pointsOf 117 = .ok (.iload_n 1, 1) := by decide +kernel
theorem dX12_pointsOf_118 : decode cX12_pointsOf 118 = .ok (.iload 5, 2) := by decide +kernel
theorem dX12_pointsOf_120 : decode cX12_pointsOf 120 = .ok (.invokevirtual 475, 3) := by decide +kernel
theorem dX12_pointsOf_123 : decode cX12_pointsOf 123 = .ok (.ifCond .eq 16, 3) := by decide +kernel
theorem dX12_pointsOf_126 : decode cX12_pointsOf 126 = .ok (.iload 4, 2) := by decide +kernel
theorem dX12_pointsOf_128 : decode cX12_pointsOf 128 = .ok (.aload_n 0, 1) := by decide +kernel
theorem dX12_pointsOf_129 : decode cX12_pointsOf 129 = .ok (.iload_n 1, 1) := by decide +kernel
theorem dX12_pointsOf_130 : decode cX12_pointsOf 130 = .ok (.iload_n 3, 1) := by decide +kernel
theorem dX12_pointsOf_131 : decode cX12_pointsOf 131 = .ok (.iload 5, 2) := by decide +kernel
theorem dX12_pointsOf_133 : decode cX12_pointsOf 133 = .ok (.invokevirtual 493, 3) := by decide +kernel
theorem dX12_pointsOf_136 : decode cX12_pointsOf 136 = .ok (.iadd, 1) := by decide +kernel
theorem dX12_pointsOf_137 : decode cX12_pointsOf 137 = .ok (.istore 4, 2) := by decide +kernel
theorem dX12_pointsOf_139 : decode cX12_pointsOf 139 = .ok (.iinc 5 1, 3) := by decide +kernel
theorem dX12_pointsOf_142 : decode cX12_pointsOf 142 = .ok (.goto (-46), 3) := by decide +kernel
theorem dX12_pointsOf_145 : decode cX12_pointsOf 145 = .ok (.iload 4, 2) := by decide +kernel
theorem dX12_pointsOf_147 : decode cX12_pointsOf 147 = .ok (.ireturn, 1) := by decide +kernel
theorem dX12_isAhead_0 : decode cX12_isAhead 0 = .ok (.aload_n 0, 1) := by decide +kernel
theorem dX12_isAhead_1 : decode cX12_isAhead 1 = .ok (.getfield 131, 3) := by decide +kernel
theorem dX12_isAhead_4 : decode cX12_isAhead 4 = .ok (.iload_n 2, 1) := by decide +kernel
theorem dX12_isAhead_5 : decode cX12_isAhead 5 = .ok (.iaload, 1) := by decide +kernel
theorem dX12_isAhead_6 : decode cX12_isAhead 6 = .ok (.aload_n 0, 1) := by decide +kernel
theorem dX12_isAhead_7 : decode cX12_isAhead 7 = .ok (.getfield 131, 3) := by decide +kernel
theorem dX12_isAhead_10 : decode cX12_isAhead 10 = .ok (.iload_n 3, 1) := by decide +kernel
theorem dX12_isAhead_11 : decode cX12_isAhead 11 = .ok (.iaload, 1) := by decide +kernel
theorem dX12_isAhead_12 : decode cX12_isAhead 12 = .ok (.if_icmp .eq 24, 3) := by decide +kernel
theorem dX12_isAhead_15 : decode cX12_isAhead 15 = .ok (.aload_n 0, 1) := by decide +kernel
theorem dX12_isAhead_16 : decode cX12_isAhead 16 = .ok (.getfield 131, 3) := by decide +kernel
theorem dX12_isAhead_19 : decode cX12_isAhead 19 = .ok (.iload_n 2, 1) := by decide +kernel
theorem dX12_isAhead_20 : decode cX12_isAhead 20 = .ok (.iaload, 1) := by decide +kernel
theorem dX12_isAhead_21 : decode cX12_isAhead 21 = .ok (.aload_n 0, 1) := by decide +kernel
theorem dX12_isAhead_22 : decode cX12_isAhead 22 = .ok (.getfield 131, 3) := by decide +kernel
theorem dX12_isAhead_25 : decode cX12_isAhead 25 = .ok (.iload_n 3, 1) := by decide +kernel
theorem dX12_isAhead_26 : decode cX12_isAhead 26 = .ok (.iaload, 1) := by decide +kernel
theorem dX12_isAhead_27 : decode cX12_isAhead 27 = .ok (.if_icmp .le 7, 3) := by decide +kernel
theorem dX12_isAhead_30 : decode cX12_isAhead 30 = .ok (.iconst 1, 1) := by decide +kernel
theorem dX12_isAhead_31 : decode cX12_isAhead 31 = .ok (.goto 4, 3) := by decide +kernel
theorem dX12_isAhead_34 : decode cX12_isAhead 34 = .ok (.iconst 0, 1) := by decide +kernel
theorem dX12_isAhead_35 : decode cX12_isAhead 35 = .ok (.ireturn, 1) := by decide +kernel
theorem dX12_isAhead_36 : decode cX12_isAhead 36 = .ok (.aload_n 0, 1) := by decide +kernel
theorem dX12_isAhead_37 : decode cX12_isAhead 37 = .ok (.getfield 128, 3) := by decide +kernel
theorem dX12_isAhead_40 : decode cX12_isAhead 40 = .ok (.iload_n 1, 1) := by decide +kernel
theorem dX12_isAhead_41 : decode cX12_isAhead 41 = .ok (.iaload, 1) := by decide +kernel
theorem dX12_isAhead_42 : decode cX12_isAhead 42 = .ok (.ifCond .ne 20, 3) := by decide +kernel
theorem dX12_isAhead_45 : decode cX12_isAhead 45 = .ok (.aload_n 0, 1) := by decide +kernel
theorem dX12_isAhead_46 : decode cX12_isAhead 46 = .ok (.getfield 457, 3) := by decide +kernel
theorem dX12_isAhead_49 : decode cX12_isAhead 49 = .ok (.ifCond .le 13, 3) := by decide +kernel
theorem dX12_isAhead_52 : decode cX12_isAhead 52 = .ok (.aload_n 0, 1) := by decide +kernel
theorem dX12_isAhead_53 : decode cX12_isAhead 53 = .ok (.iload_n 1, 1) := by decide +kernel
theorem dX12_isAhead_54 : decode cX12_isAhead 54 = .ok (.iconst 0, 1) := by decide +kernel
theorem dX12_isAhead_55 : decode cX12_isAhead 55 = .ok (.iload_n 2, 1) := by decide +kernel
theorem dX12_isAhead_56 : decode cX12_isAhead 56 = .ok (.invokevirtual 487, 3) := by decide +kernel
theorem dX12_isAhead_59 : decode cX12_isAhead 59 = .ok (.goto 4, 3) := by decide +kernel
theorem dX12_isAhead_62 : decode cX12_isAhead 62 = .ok (.iconst (-1), 1) := by decide +kernel
theorem dX12_isAhead_63 : decode cX12_isAhead 63 = .ok (.istore 4, 2) := by decide +kernel
theorem dX12_isAhead_65 : decode cX12_isAhead 65 = .ok (.aload_n 0, 1) := by decide +kernel
theorem dX12_isAhead_66 : decode cX12_isAhead 66 = .ok (.getfield 128, 3) := by decide +kernel
theorem dX12_isAhead_69 : decode cX12_isAhead 69 = .ok (.iload_n 1, 1) := by decide +kernel
theorem dX12_isAhead_70 : decode cX12_isAhead 70 = .ok (.iaload, 1) := by decide +kernel
theorem dX12_isAhead_71 : decode cX12_isAhead 71 = .ok (.ifCond .ne 20, 3) := by decide +kernel
theorem dX12_isAhead_74 : decode cX12_isAhead 74 = .ok (.aload_n 0, 1) := by decide +kernel
theorem dX12_isAhead_75 : decode cX12_isAhead 75 = .ok (.getfield 457, 3) := by decide +kernel
theorem dX12_isAhead_78 : decode cX12_isAhead 78 = .ok (.ifCond .le 13, 3) := by decide +kernel
theorem dX12_isAhead_81 : decode cX12_isAhead 81 = .ok (.aload_n 0, 1) := by decide +kernel
theorem dX12_isAhead_82 : decode cX12_isAhead 82 = .ok (.iload_n 1, 1) := by decide +kernel
theorem dX12_isAhead_83 : decode cX12_isAhead 83 = .ok (.iconst 0, 1) := by decide +kernel
theorem dX12_isAhead_84 : decode cX12_isAhead 84 = .ok (.iload_n 3, 1) := by decide +kernel
theorem dX12_isAhead_85 : decode cX12_isAhead 85 = .ok (.invokevirtual 487, 3) := by decide +kernel
theorem dX12_isAhead_88 : decode cX12_isAhead 88 = .ok (.goto 4, 3) := by decide +kernel
theorem dX12_isAhead_91 : decode cX12_isAhead 91 = .ok (.iconst (-1), 1) := by decide +kernel
theorem dX12_isAhead_92 : decode cX12_isAhead 92 = .ok (.istore 5, 2) := by decide +kernel
theorem dX12_isAhead_94 : decode cX12_isAhead 94 = .ok (.iload 4, 2) := by decide +kernel
theorem dX12_isAhead_96 : decode cX12_isAhead 96 = .ok (.iload 5, 2) := by decide +kernel
theorem dX12_isAhead_98 : decode cX12_isAhead 98 = .ok (.if_icmp .ne 16, 3) := by decide +kernel
theorem dX12_isAhead_101 : decode cX12_isAhead 101 = .ok (.iload_n 2, 1) := by decide +kernel
theorem dX12_isAhead_102 : decode cX12_isAhead 102 = .ok (.iload_n 3, 1) := by decide +kernel
theorem dX12_isAhead_103 : decode cX12_isAhead 103 = .ok (.if_icmp .ge 7, 3) := by decide +kernel
theorem dX12_isAhead_106 : decode cX12_isAhead 106 = .ok (.iconst 1, 1) := by decide +kernel
theorem dX12_isAhead_107 : decode cX12_isAhead 107 = .ok (.goto 31, 3) := by decide +kernel
theorem dX12_isAhead_110 : decode cX12_isAhead 110 = .ok (.iconst 0, 1) := by decide +kernel
theorem dX12_isAhead_111 : decode cX12_isAhead 111 = .ok (.goto 27, 3) := by decide +kernel
theorem dX12_isAhead_114 : decode cX12_isAhead 114 = .ok (.iload 4, 2) := by decide +kernel
theorem dX12_isAhead_116 : decode cX12_isAhead 116 = .ok (.iconst (-1), 1) := by decide +kernel
theorem dX12_isAhead_117 : decode cX12_isAhead 117 = .ok (.if_icmp .eq 20, 3) := by decide +kernel
theorem dX12_isAhead_120 : decode cX12_isAhead 120 = .ok (.iload 5, 2) := by decide +kernel
theorem dX12_isAhead_122 : decode cX12_isAhead 122 = .ok (.iconst (-1), 1) := by decide +kernel
theorem dX12_isAhead_123 : decode cX12_isAhead 123 = .ok (.if_icmp .eq 10, 3) := by decide +kernel
theorem dX12_isAhead_126 : decode cX12_isAhead 126 = .ok (.iload 4, 2) := by decide +kernel
theorem dX12_isAhead_128 : decode cX12_isAhead 128 = .ok (.iload 5, 2) := by decide +kernel
theorem dX12_isAhead_130 : decode cX12_isAhead 130 = .ok (.if_icmp .ge 7, 3) := by decide +kernel
theorem dX12_isAhead_133 : decode cX12_isAhead 133 = .ok (.iconst 1, 1) := by decide +kernel
theorem dX12_isAhead_134 : decode cX12_isAhead 134 = .ok (.goto 4, 3) := by decide +kernel
theorem dX12_isAhead_137 : decode cX12_isAhead 137 = .ok (.iconst 0, 1) := by decide +kernel
theorem dX12_isAhead_138 : decode cX12_isAhead 138 = .ok (.ireturn, 1) := by decide +kernel
theorem dX12_ranks_0 : decode cX12_ranks 0 = .ok (.aload_n 0, 1) := by decide +kernel
theorem dX12_ranks_1 : decode cX12_ranks 1 = .ok (.iconst 0, 1) := by decide +kernel
theorem dX12_ranks_2 : decode cX12_ranks 2 = .ok (.putfield 496, 3) := by decide +kernel
theorem dX12_ranks_5 : decode cX12_ranks 5 = .ok (.iconst 0, 1) := by decide +kernel
theorem dX12_ranks_6 : decode cX12_ranks 6 = .ok (.istore_n 3, 1) := by decide +kernel
theorem dX12_ranks_7 : decode cX12_ranks 7 = .ok (.iload_n 3, 1) := by decide +kernel
theorem dX12_ranks_8 : decode cX12_ranks 8 = .ok (.aload_n 0, 1) := by decide +kernel
theorem dX12_ranks_9 : decode cX12_ranks 9 = .ok (.getfield 137, 3) := by decide +kernel
theorem dX12_ranks_12 : decode cX12_ranks 12 = .ok (.if_icmp .ge 103, 3) := by decide +kernel
theorem dX12_ranks_15 : decode cX12_ranks 15 = .ok (.aload_n 0, 1) := by decide +kernel
theorem dX12_ranks_16 : decode cX12_ranks 16 = .ok (.iload_n 1, 1) := by decide +kernel
theorem dX12_ranks_17 : decode cX12_ranks 17 = .ok (.iload_n 3, 1) := by decide +kernel
theorem dX12_ranks_18 : decode cX12_ranks 18 = .ok (.invokevirtual 475, 3) := by decide +kernel
theorem dX12_ranks_21 : decode cX12_ranks 21 = .ok (.ifCond .ne 6, 3) := by decide +kernel
theorem dX12_ranks_24 : decode cX12_ranks 24 = .ok (.goto 85, 3) := by decide +kernel
theorem dX12_ranks_27 : decode cX12_ranks 27 = .ok (.aload_n 0, 1) := by decide +kernel
theorem dX12_ranks_28 : decode cX12_ranks 28 = .ok (.getfield 131, 3) := by decide +kernel
theorem dX12_ranks_31 : decode cX12_ranks 31 = .ok (.iload_n 3, 1) := by decide +kernel
theorem dX12_ranks_32 : decode cX12_ranks 32 = .ok (.aload_n 0, 1) := by decide +kernel
theorem dX12_ranks_33 : decode cX12_ranks 33 = .ok (.iload_n 1, 1) := by decide +kernel
theorem dX12_ranks_34 : decode cX12_ranks 34 = .ok (.iload_n 2, 1) := by decide +kernel
theorem dX12_ranks_35 : decode cX12_ranks 35 = .ok (.iload_n 3, 1) := by decide +kernel
theorem dX12_ranks_36 : decode cX12_ranks 36 = .ok (.invokevirtual 499, 3) := by decide +kernel
theorem dX12_ranks_39 : decode cX12_ranks 39 = .ok (.iastore, 1) := by decide +kernel
theorem dX12_ranks_40 : decode cX12_ranks 40 = .ok (.aload_n 0, 1) := by decide +kernel
theorem dX12_ranks_41 : decode cX12_ranks 41 = .ok (.getfield 496, 3) := by decide +kernel
theorem dX12_ranks_44 : decode cX12_ranks 44 = .ok (.istore 4, 2) := by decide +kernel
theorem dX12_ranks_46 : decode cX12_ranks 46 = .ok (.iload 4, 2) := by decide +kernel
theorem dX12_ranks_48 : decode cX12_ranks 48 = .ok (.ifCond .le 43, 3) := by decide +kernel
theorem dX12_ranks_51 : decode cX12_ranks 51 = .ok (.aload_n 0, 1) := by decide +kernel
theorem dX12_ranks_52 : decode cX12_ranks 52 = .ok (.iload_n 1, 1) := by decide +kernel
theorem dX12_ranks_53 : decode cX12_ranks 53 = .ok (.iload_n 3, 1) := by decide +kernel
theorem dX12_ranks_54 : decode cX12_ranks 54 = .ok (.aload_n 0, 1) := by decide +kernel
theorem dX12_ranks_55 : decode cX12_ranks 55 = .ok (.getfield 134, 3) := by decide +kernel
theorem dX12_ranks_58 : decode cX12_ranks 58 = .ok (.iload 4, 2) := by decide +kernel
theorem dX12_ranks_60 : decode cX12_ranks 60 = .ok (.iconst 1, 1) := by decide +kernel
theorem dX12_ranks_61 : decode cX12_ranks 61 = .ok (.isub, 1) := by decide +kernel
theorem dX12_ranks_62 : decode cX12_ranks 62 = .ok (.iaload, 1) := by decide +kernel
theorem dX12_ranks_63 : decode cX12_ranks 63 = .ok (.invokevirtual 502, 3) := by decide +kernel
theorem dX12_ranks_66 : decode cX12_ranks 66 = .ok (.ifCond .eq 25, 3) := by decide +kernel
theorem dX12_ranks_69 : decode cX12_ranks 69 = .ok (.aload_n 0, 1) := by decide +kernel
theorem dX12_ranks_70 : decode cX12_ranks 70 = .ok (.getfield 134, 3) := by decide +kernel
theorem dX12_ranks_73 : decode cX12_ranks 73 = .ok (.iload 4, 2) := by decide +kernel
theorem dX12_ranks_75 : decode cX12_ranks 75 = .ok (.aload_n 0, 1) := by decide +kernel
theorem dX12_ranks_76 : decode cX12_ranks 76 = .ok (.getfield 134, 3) := by decide +kernel
theorem dX12_ranks_79 : decode cX12_ranks 79 = .ok (.iload 4, 2) := by decide +kernel
theorem dX12_ranks_81 : decode cX12_ranks 81 = .ok (.iconst 1, 1) := by decide +kernel
theorem dX12_ranks_82 : decode cX12_ranks 82 = .ok (.isub, 1) := by decide +kernel
theorem dX12_ranks_83 : decode cX12_ranks 83 = .ok (.iaload, 1) := by decide +kernel
theorem dX12_ranks_84 : decode cX12_ranks 84 = .ok (.iastore, 1) := by decide +kernel
theorem dX12_ranks_85 : decode cX12_ranks 85 = .ok (.iinc 4 (-1), 3) := by decide +kernel
theorem dX12_ranks_88 : decode cX12_ranks 88 = .ok (.goto (-42), 3) := by decide +kernel
theorem dX12_ranks_91 : decode cX12_ranks 91 = .ok (.aload_n 0, 1) := by decide +kernel
theorem dX12_ranks_92 : decode cX12_ranks 92 = .ok (.getfield 134, 3) := by decide +kernel
theorem dX12_ranks_95 : decode cX12_ranks 95 = .ok (.iload 4, 2) := by decide +kernel
theorem dX12_ranks_97 : decode cX12_ranks 97 = .ok (.iload_n 3, 1) := by decide +kernel
theorem dX12_ranks_98 : decode cX12_ranks 98 = .ok (.iastore, 1) := by decide +kernel
theorem dX12_ranks_99 : decode cX12_ranks 99 = .ok (.aload_n 0, 1) := by decide +kernel
theorem dX12_ranks_100 : decode cX12_ranks 100 = .ok (.dup, 1) := by decide +kernel
theorem dX12_ranks_101 : decode cX12_ranks 101 = .ok (.getfield 496, 3) := by decide +kernel
theorem dX12_ranks_104 : decode cX12_ranks 104 = .ok (.iconst 1, 1) := by decide +kernel
theorem dX12_ranks_105 : decode cX12_ranks 105 = .ok (.iadd, 1) := by decide +kernel
theorem dX12_ranks_106 : decode cX12_ranks 106 = .ok (.putfield 496, 3) := by decide +kernel
theorem dX12_ranks_109 : decode cX12_ranks 109 = .ok (.iinc 3 1, 3) := by decide +kernel
theorem dX12_ranks_112 : decode cX12_ranks 112 = .ok (.goto (-105), 3) := by decide +kernel
theorem dX12_ranks_115 : decode cX12_ranks 115 = .ok (.return_, 1) := by decide +kernel
theorem dX12_open_0 : decode cX12_open 0 = .ok (.aload_n 0, 1) := by decide +kernel
theorem dX12_open_1 : decode cX12_open 1 = .ok (.getfield 463, 3) := by decide +kernel
theorem dX12_open_4 : decode cX12_open 4 = .ok (.ifCond .ne 11, 3) := by decide +kernel
theorem dX12_open_7 : decode cX12_open 7 = .ok (.aload_n 0, 1) := by decide +kernel
theorem dX12_open_8 : decode cX12_open 8 = .ok (.getfield 469, 3) := by decide +kernel
theorem dX12_open_11 : decode cX12_open 11 = .ok (.iconst 2, 1) := by decide +kernel
theorem dX12_open_12 : decode cX12_open 12 = .ok (.if_icmp .ne 5, 3) := by decide +kernel
theorem dX12_open_15 : decode cX12_open 15 = .ok (.iconst (-1), 1) := by decide +kernel
theorem dX12_open_16 : decode cX12_open 16 = .ok (.ireturn, 1) := by decide +kernel
theorem dX12_open_17 : decode cX12_open 17 = .ok (.aload_n 0, 1) := by decide +kernel
theorem dX12_open_18 : decode cX12_open 18 = .ok (.getfield 469, 3) := by decide +kernel
theorem dX12_open_21 : decode cX12_open 21 = .ok (.iconst 1, 1) := by decide +kernel
theorem dX12_open_22 : decode cX12_open 22 = .ok (.if_icmp .ne 10, 3) := by decide +kernel
theorem dX12_open_25 : decode cX12_open 25 = .ok (.aload_n 0, 1) := by decide +kernel
theorem dX12_open_26 : decode cX12_open 26 = .ok (.getfield 505, 3) := by decide +kernel
theorem dX12_open_29 : decode cX12_open 29 = .ok (.goto 4, 3) := by decide +kernel
theorem dX12_open_32 : decode cX12_open 32 = .ok (.iconst 0, 1) := by decide +kernel
theorem dX12_open_33 : decode cX12_open 33 = .ok (.istore_n 1, 1) := by decide +kernel
theorem dX12_open_34 : decode cX12_open 34 = .ok (.iconst 0, 1) := by decide +kernel
theorem dX12_open_35 : decode cX12_open 35 = .ok (.istore_n 2, 1) := by decide +kernel
theorem dX12_open_36 : decode cX12_open 36 = .ok (.iload_n 2, 1) := by decide +kernel
theorem dX12_open_37 : decode cX12_open 37 = .ok (.aload_n 0, 1) := by decide +kernel
theorem dX12_open_38 : decode cX12_open 38 = .ok (.getfield 137, 3) := by decide +kernel
theorem dX12_open_41 : decode cX12_open 41 = .ok (.if_icmp .ge 41, 3) := by decide +kernel
theorem dX12_open_44 : decode cX12_open 44 = .ok (.aload_n 0, 1) := by decide +kernel
theorem dX12_open_45 : decode cX12_open 45 = .ok (.getfield 469, 3) := by decide +kernel
theorem dX12_open_48 : decode cX12_open 48 = .ok (.ifCond .ne 34, 3) := by decide +kernel
theorem dX12_open_51 : decode cX12_open 51 = .ok (.aload_n 0, 1) := by decide +kernel
theorem dX12_open_52 : decode cX12_open 52 = .ok (.getfield 20, 3) := by decide +kernel
theorem dX12_open_55 : decode cX12_open 55 = .ok (.iload_n 2, 1) := by decide +kernel
theorem dX12_open_56 : decode cX12_open 56 = .ok (.iaload, 1) := by decide +kernel
theorem dX12_open_57 : decode cX12_open 57 = .ok (.iconst (-1), 1) := by decide +kernel
theorem dX12_open_58 : decode cX12_open 58 = .ok (.if_icmp .eq 18, 3) := by decide +kernel
theorem dX12_open_61 : decode cX12_open 61 = .ok (.aload_n 0, 1) := by decide +kernel
theorem dX12_open_62 : decode cX12_open 62 = .ok (.iload_n 2, 1) := by decide +kernel
theorem dX12_open_63 : decode cX12_open 63 = .ok (.invokevirtual 229, 3) := by decide +kernel
theorem dX12_open_66 : decode cX12_open 66 = .ok (.iconst (-1), 1) := by decide +kernel
theorem dX12_open_67 : decode cX12_open 67 = .ok (.if_icmp .ne 9, 3) := by decide +kernel
theorem dX12_open_70 : decode cX12_open 70 = .ok (.iload_n 1, 1) := by decide +kernel
theorem dX12_open_71 : decode cX12_open 71 = .ok (.iconst 1, 1) := by decide +kernel
theorem dX12_open_72 : decode cX12_open 72 = .ok (.iload_n 2, 1) := by decide +kernel
theorem dX12_open_73 : decode cX12_open 73 = .ok (.ishl, 1) := by decide +kernel
theorem dX12_open_74 : decode cX12_open 74 = .ok (.ior, 1) := by decide +kernel
theorem dX12_open_75 : decode cX12_open 75 = .ok (.istore_n 1, 1) := by decide +kernel
theorem dX12_open_76 : decode cX12_open 76 = .ok (.iinc 2 1, 3) := by decide +kernel
theorem dX12_open_79 : decode cX12_open 79 = .ok (.goto (-43), 3) := by decide +kernel
theorem dX12_open_82 : decode cX12_open 82 = .ok (.iload_n 1, 1) := by decide +kernel
theorem dX12_open_83 : decode cX12_open 83 = .ok (.ifCond .ne 5, 3) := by decide +kernel
theorem dX12_open_86 : decode cX12_open 86 = .ok (.iconst (-1), 1) := by decide +kernel
theorem dX12_open_87 : decode cX12_open 87 = .ok (.ireturn, 1) := by decide +kernel
theorem dX12_open_88 : decode cX12_open 88 = .ok (.aload_n 0, 1) := by decide +kernel
theorem dX12_open_89 : decode cX12_open 89 = .ok (.getfield 119, 3) := by decide +kernel
theorem dX12_open_92 : decode cX12_open 92 = .ok (.aload_n 0, 1) := by decide +kernel
theorem dX12_open_93 : decode cX12_open 93 = .ok (.getfield 469, 3) := by decide +kernel
theorem dX12_open_96 : decode cX12_open 96 = .ok (.iload_n 1, 1) := by decide +kernel
theorem dX12_open_97 : decode cX12_open 97 = .ok (.iastore, 1) := by decide +kernel
theorem dX12_open_98 : decode cX12_open 98 = .ok (.aload_n 0, 1) := by decide +kernel
theorem dX12_open_99 : decode cX12_open 99 = .ok (.dup, 1) := by decide +kernel
theorem dX12_open_100 : decode cX12_open 100 = .ok (.getfield 469, 3) := by decide +kernel
theorem dX12_open_103 : decode cX12_open 103 = .ok (.iconst 1, 1) := by decide +kernel
theorem dX12_open_104 : decode cX12_open 104 = .ok (.iadd, 1) := by decide +kernel
theorem dX12_open_105 : decode cX12_open 105 = .ok (.putfield 469, 3) := by decide +kernel
theorem dX12_open_108 : decode cX12_open 108 = .ok (.aload_n 0, 1) := by decide +kernel
theorem dX12_open_109 : decode cX12_open 109 = .ok (.iconst 1, 1) := by decide +kernel
theorem dX12_open_110 : decode cX12_open 110 = .ok (.putfield 463, 3) := by decide +kernel
theorem dX12_open_113 : decode cX12_open 113 = .ok (.iload_n 1, 1) := by decide +kernel
theorem dX12_open_114 : decode cX12_open 114 = .ok (.invokestatic 490, 3) := by decide +kernel
theorem dX12_open_117 : decode cX12_open 117 = .ok (.ireturn, 1) := by decide +kernel
theorem dX12_close_0 : decode cX12_close 0 = .ok (.aload_n 0, 1) := by decide +kernel
theorem dX12_close_1 : decode cX12_close 1 = .ok (.getfield 463, 3) := by decide +kernel
theorem dX12_close_4 : decode cX12_close 4 = .ok (.ifCond .ne 5, 3) := by decide +kernel
theorem dX12_close_7 : decode cX12_close 7 = .ok (.iconst (-1), 1) := by decide +kernel
theorem dX12_close_8 : decode cX12_close 8 = .ok (.ireturn, 1) := by decide +kernel
theorem dX12_close_9 : decode cX12_close 9 = .ok (.aload_n 0, 1) := by decide +kernel
theorem dX12_close_10 : decode cX12_close 10 = .ok (.getfield 469, 3) := by decide +kernel
theorem dX12_close_13 : decode cX12_close 13 = .ok (.iconst 1, 1) := by decide +kernel
theorem dX12_close_14 : decode cX12_close 14 = .ok (.isub, 1) := by decide +kernel
theorem dX12_close_15 : decode cX12_close 15 = .ok (.istore_n 1, 1) := by decide +kernel
theorem dX12_close_16 : decode cX12_close 16 = .ok (.aload_n 0, 1) := by decide +kernel
theorem dX12_close_17 : decode cX12_close 17 = .ok (.aload_n 0, 1) := by decide +kernel
theorem dX12_close_18 : decode cX12_close 18 = .ok (.getfield 144, 3) := by decide +kernel
theorem dX12_close_21 : decode cX12_close 21 = .ok (.invokevirtual 209, 3) := by decide +kernel
theorem dX12_close_24 : decode cX12_close 24 = .ok (.istore_n 2, 1) := by decide +kernel
theorem dX12_close_25 : decode cX12_close 25 = .ok (.aload_n 0, 1) := by decide +kernel
theorem dX12_close_26 : decode cX12_close 26 = .ok (.getfield 125, 3) := by decide +kernel
theorem dX12_close_29 : decode cX12_close 29 = .ok (.iload_n 1, 1) := by decide +kernel
theorem dX12_close_30 : decode cX12_close 30 = .ok (.aload_n 0, 1) := by decide +kernel
theorem dX12_close_31 : decode cX12_close 31 = .ok (.iload_n 2, 1) := by decide +kernel
theorem dX12_close_32 : decode cX12_close 32 = .ok (.bipush 6, 2) := by decide +kernel
theorem dX12_close_34 : decode cX12_close 34 = .ok (.invokevirtual 200, 3) := by decide +kernel
theorem dX12_close_37 : decode cX12_close 37 = .ok (.iastore, 1) := by decide +kernel
theorem dX12_close_38 : decode cX12_close 38 = .ok (.aload_n 0, 1) := by decide +kernel
theorem dX12_close_39 : decode cX12_close 39 = .ok (.getfield 128, 3) := by decide +kernel
theorem dX12_close_42 : decode cX12_close 42 = .ok (.iload_n 1, 1) := by decide +kernel
theorem dX12_close_43 : decode cX12_close 43 = .ok (.aload_n 0, 1) := by decide +kernel
theorem dX12_close_44 : decode cX12_close 44 = .ok (.iload_n 2, 1) := by decide +kernel
theorem dX12_close_45 : decode cX12_close 45 = .ok (.bipush 7, 2) := by decide +kernel
theorem dX12_close_47 : decode cX12_close 47 = .ok (.invokevirtual 200, 3) := by decide +kernel
theorem dX12_close_50 : decode cX12_close 50 = .ok (.iastore, 1) := by decide +kernel
theorem dX12_close_51 : decode cX12_close 51 = .ok (.aload_n 0, 1) := by decide +kernel
theorem dX12_close_52 : decode cX12_close 52 = .ok (.getfield 122, 3) := by decide +kernel
theorem dX12_close_55 : decode cX12_close 55 = .ok (.iload_n 1, 1) := by decide +kernel
theorem dX12_close_56 : decode cX12_close 56 = .ok (.iconst 0, 1) := by decide +kernel
theorem dX12_close_57 : decode cX12_close 57 = .ok (.iastore, 1) := by decide +kernel
theorem dX12_close_58 : decode cX12_close 58 = .ok (.iconst 0, 1) := by decide +kernel
theorem dX12_close_59 : decode cX12_close 59 = .ok (.istore_n 3, 1) := by decide +kernel
theorem dX12_close_60 : decode cX12_close 60 = .ok (.iload_n 3, 1) := by decide +kernel
theorem dX12_close_61 : decode cX12_close 61 = .ok (.aload_n 0, 1) := by decide +kernel
theorem dX12_close_62 : decode cX12_close 62 = .ok (.getfield 457, 3) := by decide +kernel
theorem dX12_close_65 : decode cX12_close 65 = .ok (.if_icmp .ge 34, 3) := by decide +kernel
theorem dX12_close_68 : decode cX12_close 68 = .ok (.aload_n 0, 1) := by decide +kernel
theorem dX12_close_69 : decode cX12_close 69 = .ok (.getfield 122, 3) := by decide +kernel
theorem dX12_close_72 : decode cX12_close 72 = .ok (.iload_n 1, 1) := by decide +kernel
theorem dX12_close_73 : decode cX12_close 73 = .ok (.dup2, 1) := by decide +kernel
theorem dX12_close_74 : decode cX12_close 74 = .ok (.iaload, 1) := by decide +kernel
theorem dX12_close_75 : decode cX12_close 75 = .ok (.aload_n 0, 1) := by decide +kernel
theorem dX12_close_76 : decode cX12_close 76 = .ok (.iload_n 1, 1) := by decide +kernel
theorem dX12_close_77 : decode cX12_close 77 = .ok (.iload_n 3, 1) := by decide +kernel
theorem dX12_close_78 : decode cX12_close 78 = .ok (.invokevirtual 481, 3) := by decide +kernel
theorem dX12_close_81 : decode cX12_close 81 = .ok (.ifCond .eq 9, 3) := by decide +kernel
theorem dX12_close_84 : decode cX12_close 84 = .ok (.iconst 1, 1) := by decide +kernel
theorem dX12_close_85 : decode cX12_close 85 = .ok (.iload_n 3, 1) := by decide +kernel
theorem dX12_close_86 : decode cX12_close 86 = .ok (.ishl, 1) := by decide +kernel
theorem dX12_close_87 : decode cX12_close 87 = .ok (.goto 4, 3) := by decide +kernel
theorem dX12_close_90 : decode cX12_close 90 = .ok (.iconst 0, 1) := by decide +kernel
theorem dX12_close_91 : decode cX12_close 91 = .ok (.ior, 1) := by decide +kernel
theorem dX12_close_92 : decode cX12_close 92 = .ok (.iastore, 1) := by decide +kernel
theorem dX12_close_93 : decode cX12_close 93 = .ok (.iinc 3 1, 3) := by decide +kernel
theorem dX12_close_96 : decode cX12_close 96 = .ok (.goto (-36), 3) := by decide +kernel
theorem dX12_close_99 : decode cX12_close 99 = .ok (.aload_n 0, 1) := by decide +kernel
theorem dX12_close_100 : decode cX12_close 100 = .ok (.iconst 0, 1) := by decide +kernel
theorem dX12_close_101 : decode cX12_close 101 = .ok (.putfield 463, 3) := by decide +kernel
theorem dX12_close_104 : decode cX12_close 104 = .ok (.aload_n 0, 1) := by decide +kernel
theorem dX12_close_105 : decode cX12_close 105 = .ok (.dup, 1) := by decide +kernel
theorem dX12_close_106 : decode cX12_close 106 = .ok (.getfield 478, 3) := by decide +kernel
theorem dX12_close_109 : decode cX12_close 109 = .ok (.iconst 1, 1) := by decide +kernel
theorem dX12_close_110 : decode cX12_close 110 = .ok (.iadd, 1) := by decide +kernel
theorem dX12_close_111 : decode cX12_close 111 = .ok (.putfield 478, 3) := by decide +kernel
theorem dX12_close_114 : decode cX12_close 114 = .ok (.aload_n 0, 1) := by decide +kernel
theorem dX12_close_115 : decode cX12_close 115 = .ok (.iload_n 1, 1) := by decide +kernel
theorem dX12_close_116 : decode cX12_close 116 = .ok (.aload_n 0, 1) := by decide +kernel
theorem dX12_close_117 : decode cX12_close 117 = .ok (.getfield 125, 3) := by decide +kernel
theorem dX12_close_120 : decode cX12_close 120 = .ok (.iload_n 1, 1) := by decide +kernel
theorem dX12_close_121 : decode cX12_close 121 = .ok (.iaload, 1) := by decide +kernel
theorem dX12_close_122 : decode cX12_close 122 = .ok (.invokevirtual 508, 3) := by decide +kernel
theorem dX12_close_125 : decode cX12_close 125 = .ok (.iload_n 1, 1) := by decide +kernel
theorem dX12_close_126 : decode cX12_close 126 = .ok (.iconst 1, 1) := by decide +kernel
theorem dX12_close_127 : decode cX12_close 127 = .ok (.if_icmp .ne 8, 3) := by decide +kernel
theorem dX12_close_130 : decode cX12_close 130 = .ok (.aload_n 0, 1) := by decide +kernel
theorem dX12_close_131 : decode cX12_close 131 = .ok (.getfield 496, 3) := by decide +kernel
theorem dX12_close_134 : decode cX12_close 134 = .ok (.ireturn, 1) := by decide +kernel
theorem dX12_close_135 : decode cX12_close 135 = .ok (.aload_n 0, 1) := by decide +kernel
theorem dX12_close_136 : decode cX12_close 136 = .ok (.getfield 496, 3) := by decide +kernel
theorem dX12_close_139 : decode cX12_close 139 = .ok (.aload_n 0, 1) := by decide +kernel
theorem dX12_close_140 : decode cX12_close 140 = .ok (.iload_n 2, 1) := by decide +kernel
theorem dX12_close_141 : decode cX12_close 141 = .ok (.iconst 5, 1) := by decide +kernel
theorem dX12_close_142 : decode cX12_close 142 = .ok (.invokevirtual 200, 3) := by decide +kernel
theorem dX12_close_145 : decode cX12_close 145 = .ok (.invokestatic 236, 3) := by decide +kernel
theorem dX12_close_148 : decode cX12_close 148 = .ok (.istore_n 3, 1) := by decide +kernel
theorem dX12_close_149 : decode cX12_close 149 = .ok (.aload_n 0, 1) := by decide +kernel
theorem dX12_close_150 : decode cX12_close 150 = .ok (.iconst 0, 1) := by decide +kernel
theorem dX12_close_151 : decode cX12_close 151 = .ok (.putfield 505, 3) := by decide +kernel
theorem dX12_close_154 : decode cX12_close 154 = .ok (.iconst 0, 1) := by decide +kernel
theorem dX12_close_155 : decode cX12_close 155 = .ok (.istore 4, 2) := by decide +kernel
theorem dX12_close_157 : decode cX12_close 157 = .ok (.iload 4, 2) := by decide +kernel
theorem dX12_close_159 : decode cX12_close 159 = .ok (.aload_n 0, 1) := by decide +kernel
theorem dX12_close_160 : decode cX12_close 160 = .ok (.getfield 496, 3) := by decide +kernel
theorem dX12_close_163 : decode cX12_close 163 = .ok (.if_icmp .ge 61, 3) := by decide +kernel
theorem dX12_close_166 : decode cX12_close 166 = .ok (.iload 4, 2) := by decide +kernel
theorem dX12_close_168 : decode cX12_close 168 = .ok (.iload_n 3, 1) := by decide +kernel
theorem dX12_close_169 : decode cX12_close 169 = .ok (.if_icmp .lt 31, 3) := by decide +kernel
theorem dX12_close_172 : decode cX12_close 172 = .ok (.aload_n 0, 1) := by decide +kernel
theorem dX12_close_173 : decode cX12_close 173 = .ok (.getfield 131, 3) := by decide +kernel
theorem dX12_close_176 : decode cX12_close 176 = .ok (.aload_n 0, 1) := by decide +kernel
theorem dX12_close_177 : decode cX12_close 177 = .ok (.getfield 134, 3) := by decide +kernel
theorem dX12_close_180 : decode cX12_close 180 = .ok (.iload 4, 2) := by decide +kernel
theorem dX12_close_182 : decode cX12_close 182 = .ok (.iaload, 1) := by decide +kernel
theorem dX12_close_183 : decode cX12_close 183 = .ok (.iaload, 1) := by decide +kernel
theorem dX12_close_184 : decode cX12_close 184 = .ok (.aload_n 0, 1) := by decide +kernel
theorem dX12_close_185 : decode cX12_close 185 = .ok (.getfield 131, 3) := by decide +kernel
theorem dX12_close_188 : decode cX12_close 188 = .ok (.aload_n 0, 1) := by decide +kernel
theorem dX12_close_189 : decode cX12_close 189 = .ok (.getfield 134, 3) := by decide +kernel
theorem dX12_close_192 : decode cX12_close 192 = .ok (.iload_n 3, 1) := by decide +kernel
theorem dX12_close_193 : decode cX12_close 193 = .ok (.iconst 1, 1) := by decide +kernel
theorem dX12_close_194 : decode cX12_close 194 = .ok (.isub, 1) := by decide +kernel
theorem dX12_close_195 : decode cX12_close 195 = .ok (.iaload, 1) := by decide +kernel
theorem dX12_close_196 : decode cX12_close 196 = .ok (.iaload, 1) := by decide +kernel
theorem dX12_close_197 : decode cX12_close 197 = .ok (.if_icmp .ne 21, 3) := by decide +kernel
theorem dX12_close_200 : decode cX12_close 200 = .ok (.aload_n 0, 1) := by decide +kernel
theorem dX12_close_201 : decode cX12_close 201 = .ok (.dup, 1) := by decide +kernel
theorem dX12_close_202 : decode cX12_close 202 = .ok (.getfield 505, 3) := by decide +kernel
theorem dX12_close_205 : decode cX12_close 205 = .ok (.iconst 1, 1) := by decide +kernel
theorem dX12_close_206 : decode cX12_close 206 = .ok (.aload_n 0, 1) := by decide +kernel
theorem dX12_close_207 : decode cX12_close 207 = .ok (.getfield 134, 3) := by decide +kernel
theorem dX12_close_210 : decode cX12_close 210 = .ok (.iload 4, 2) := by decide +kernel
theorem dX12_close_212 : decode cX12_close 212 = .ok (.iaload, 1) := by decide +kernel
theorem dX12_close_213 : decode cX12_close 213 = .ok (.ishl, 1) := by decide +kernel
theorem dX12_close_214 : decode cX12_close 214 = .ok (.ior, 1) := by decide +kernel
theorem dX12_close_215 : decode cX12_close 215 = .ok (.putfield 505, 3) := by decide +kernel
theorem dX12_close_218 : decode cX12_close 218 = .ok (.iinc 4 1, 3) := by decide +kernel
theorem dX12_close_221 : decode cX12_close 221 = .ok (.goto (-64), 3) := by decide +kernel
theorem dX12_close_224 : decode cX12_close 224 = .ok (.aload_n 0, 1) := by decide +kernel
theorem dX12_close_225 : decode cX12_close 225 = .ok (.getfield 505, 3) := by decide +kernel
theorem dX12_close_228 : decode cX12_close 228 = .ok (.invokestatic 490, 3) := by decide +kernel
theorem dX12_close_231 : decode cX12_close 231 = .ok (.ireturn, 1) := by decide +kernel
theorem dX12_points_0 : decode cX12_points 0 = .ok (.iload_n 1, 1) := by decide +kernel
theorem dX12_points_1 : decode cX12_points 1 = .ok (.iconst 1, 1) := by decide +kernel
theorem dX12_points_2 : decode cX12_points 2 = .ok (.aload_n 0, 1) := by decide +kernel
theorem dX12_points_3 : decode cX12_points 3 = .ok (.getfield 469, 3) := by decide +kernel
theorem dX12_points_6 : decode cX12_points 6 = .ok (.invokestatic 140, 3) := by decide +kernel
theorem dX12_points_9 : decode cX12_points 9 = .ok (.ifCond .eq 43, 3) := by decide +kernel
theorem dX12_points_12 : decode cX12_points 12 = .ok (.iload_n 2, 1) := by decide +kernel
theorem dX12_points_13 : decode cX12_points 13 = .ok (.iconst 0, 1) := by decide +kernel
theorem dX12_points_14 : decode cX12_points 14 = .ok (.iconst 2, 1) := by decide +kernel
theorem dX12_points_15 : decode cX12_points 15 = .ok (.invokestatic 140, 3) := by decide +kernel
theorem dX12_points_18 : decode cX12_points 18 = .ok (.ifCond .eq 34, 3) := by decide +kernel
theorem dX12_points_21 : decode cX12_points 21 = .ok (.aload_n 0, 1) := by decide +kernel
theorem dX12_points_22 : decode cX12_points 22 = .ok (.iload_n 3, 1) := by decide +kernel
theorem dX12_points_23 : decode cX12_points 23 = .ok (.invokevirtual 147, 3) := by decide +kernel
theorem dX12_points_26 : decode cX12_points 26 = .ok (.ifCond .eq 26, 3) := by decide +kernel
theorem dX12_points_29 : decode cX12_points 29 = .ok (.aload_n 0, 1) := by decide +kernel
theorem dX12_points_30 : decode cX12_points 30 = .ok (.iload_n 1, 1) := by decide +kernel
theorem dX12_points_31 : decode cX12_points 31 = .ok (.iconst 1, 1) := by decide +kernel
theorem dX12_points_32 : decode cX12_points 32 = .ok (.isub, 1) := by decide +kernel
theorem dX12_points_33 : decode cX12_points 33 = .ok (.iload_n 3, 1) := by decide +kernel
theorem dX12_points_34 : decode cX12_points 34 = .ok (.invokevirtual 475, 3) := by decide +kernel
theorem dX12_points_37 : decode cX12_points 37 = .ok (.ifCond .eq 15, 3) := by decide +kernel
theorem dX12_points_40 : decode cX12_points 40 = .ok (.aload_n 0, 1) := by decide +kernel
theorem dX12_points_41 : decode cX12_points 41 = .ok (.iload_n 1, 1) := by decide +kernel
theorem dX12_points_42 : decode cX12_points 42 = .ok (.iconst 1, 1) := by decide +kernel
theorem dX12_points_43 : decode cX12_points 43 = .ok (.isub, 1) := by decide +kernel
theorem dX12_points_44 : decode cX12_points 44 = .ok (.iload_n 2, 1) := by decide +kernel
theorem dX12_points_45 : decode cX12_points 45 = .ok (.iload_n 3, 1) := by decide +kernel
theorem dX12_points_46 : decode cX12_points 46 = .ok (.invokevirtual 499, 3) := by decide +kernel
theorem dX12_points_49 : decode cX12_points 49 = .ok (.goto 4, 3) := by decide +kernel
theorem dX12_points_52 : decode cX12_points 52 = .ok (.iconst (-1), 1) := by decide +kernel
theorem dX12_points_53 : decode cX12_points 53 = .ok (.ireturn, 1) := by decide +kernel
theorem dX12_voice_0 : decode cX12_voice 0 = .ok (.iload_n 1, 1) := by decide +kernel
theorem dX12_voice_1 : decode cX12_voice 1 = .ok (.iconst 1, 1) := by decide +kernel
theorem dX12_voice_2 : decode cX12_voice 2 = .ok (.aload_n 0, 1) := by decide +kernel
theorem dX12_voice_3 : decode cX12_voice 3 = .ok (.getfield 469, 3) := by decide +kernel
theorem dX12_voice_6 : decode cX12_voice 6 = .ok (.invokestatic 140, 3) := by decide +kernel
theorem dX12_voice_9 : decode cX12_voice 9 = .ok (.ifCond .eq 25, 3) := by decide +kernel
theorem dX12_voice_12 : decode cX12_voice 12 = .ok (.aload_n 0, 1) := by decide +kernel
theorem dX12_voice_13 : decode cX12_voice 13 = .ok (.iload_n 2, 1) := by decide +kernel
theorem dX12_voice_14 : decode cX12_voice 14 = .ok (.invokevirtual 460, 3) := by decide +kernel
theorem dX12_voice_17 : decode cX12_voice 17 = .ok (.ifCond .eq 17, 3) := by decide +kernel
theorem dX12_voice_20 : decode cX12_voice 20 = .ok (.aload_n 0, 1) := by decide +kernel
theorem dX12_voice_21 : decode cX12_voice 21 = .ok (.iload_n 1, 1) := by decide +kernel
theorem dX12_voice_22 : decode cX12_voice 22 = .ok (.iconst 1, 1) := by decide +kernel
theorem dX12_voice_23 : decode cX12_voice 23 = .ok (.isub, 1) := by decide +kernel
theorem dX12_voice_24 : decode cX12_voice 24 = .ok (.iload_n 2, 1) := by decide +kernel
theorem dX12_voice_25 : decode cX12_voice 25 = .ok (.invokevirtual 484, 3) := by decide +kernel
theorem dX12_voice_28 : decode cX12_voice 28 = .ok (.invokestatic 162, 3) := by decide +kernel
theorem dX12_voice_31 : decode cX12_voice 31 = .ok (.goto 4, 3) := by decide +kernel
theorem dX12_voice_34 : decode cX12_voice 34 = .ok (.iconst (-1), 1) := by decide +kernel
theorem dX12_voice_35 : decode cX12_voice 35 = .ok (.ireturn, 1) := by decide +kernel
theorem dX12_order_0 : decode cX12_order 0 = .ok (.iload_n 1, 1) := by decide +kernel
theorem dX12_order_1 : decode cX12_order 1 = .ok (.iconst 1, 1) := by decide +kernel
theorem dX12_order_2 : decode cX12_order 2 = .ok (.aload_n 0, 1) := by decide +kernel
theorem dX12_order_3 : decode cX12_order 3 = .ok (.getfield 478, 3) := by decide +kernel
theorem dX12_order_6 : decode cX12_order 6 = .ok (.invokestatic 140, 3) := by decide +kernel
theorem dX12_order_9 : decode cX12_order 9 = .ok (.ifCond .eq 16, 3) := by decide +kernel
theorem dX12_order_12 : decode cX12_order 12 = .ok (.iload_n 2, 1) := by decide +kernel
theorem dX12_order_13 : decode cX12_order 13 = .ok (.iconst (-1), 1) := by decide +kernel
theorem dX12_order_14 : decode cX12_order 14 = .ok (.iconst 2, 1) := by decide +kernel
theorem dX12_order_15 : decode cX12_order 15 = .ok (.invokestatic 140, 3) := by decide +kernel
theorem dX12_order_18 : decode cX12_order 18 = .ok (.ifCond .eq 7, 3) := by decide +kernel
theorem dX12_order_21 : decode cX12_order 21 = .ok (.iload_n 3, 1) := by decide +kernel
theorem dX12_order_22 : decode cX12_order 22 = .ok (.ifCond .ge 5, 3) := by decide +kernel
theorem dX12_order_25 : decode cX12_order 25 = .ok (.iconst (-1), 1) := by decide +kernel
theorem dX12_order_26 : decode cX12_order 26 = .ok (.ireturn, 1) := by decide +kernel
theorem dX12_order_27 : decode cX12_order 27 = .ok (.aload_n 0, 1) := by decide +kernel
theorem dX12_order_28 : decode cX12_order 28 = .ok (.iload_n 1, 1) := by decide +kernel
theorem dX12_order_29 : decode cX12_order 29 = .ok (.iconst 1, 1) := by decide +kernel
theorem dX12_order_30 : decode cX12_order 30 = .ok (.isub, 1) := by decide +kernel
theorem dX12_order_31 : decode cX12_order 31 = .ok (.iload_n 2, 1) := by decide +kernel
theorem dX12_order_32 : decode cX12_order 32 = .ok (.iconst (-1), 1) := by decide +kernel
theorem dX12_order_33 : decode cX12_order 33 = .ok (.if_icmp .ne 14, 3) := by decide +kernel
theorem dX12_order_36 : decode cX12_order 36 = .ok (.aload_n 0, 1) := by decide +kernel
theorem dX12_order_37 : decode cX12_order 37 = .ok (.getfield 125, 3) := by decide +kernel
theorem dX12_order_40 : decode cX12_order 40 = .ok (.iload_n 1, 1) := by decide +kernel
