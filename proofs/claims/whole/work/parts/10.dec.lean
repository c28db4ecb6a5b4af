theorem dJ6_compare_7cf53_0 : decode cJ6_compare_7cf53 0 = .ok (.iload_n 0, 1) := by decide +kernel
theorem dJ6_compare_7cf53_1 : decode cJ6_compare_7cf53 1 = .ok (.iload_n 1, 1) := by decide +kernel
theorem dJ6_compare_7cf53_2 : decode cJ6_compare_7cf53 2 = .ok (.if_icmp .ge 7, 3) := by decide +kernel
theorem dJ6_compare_7cf53_5 : decode cJ6_compare_7cf53 5 = .ok (.iconst (-1), 1) := by decide +kernel
theorem dJ6_compare_7cf53_6 : decode cJ6_compare_7cf53 6 = .ok (.goto 13, 3) := by decide +kernel
theorem dJ6_compare_7cf53_9 : decode cJ6_compare_7cf53 9 = .ok (.iload_n 0, 1) := by decide +kernel
theorem dJ6_compare_7cf53_10 : decode cJ6_compare_7cf53 10 = .ok (.iload_n 1, 1) := by decide +kernel
theorem dJ6_compare_7cf53_11 : decode cJ6_compare_7cf53 11 = .ok (.if_icmp .ne 7, 3) := by decide +kernel
theorem dJ6_compare_7cf53_14 : decode cJ6_compare_7cf53 14 = .ok (.iconst 0, 1) := by decide +kernel
theorem dJ6_compare_7cf53_15 : decode cJ6_compare_7cf53 15 = .ok (.goto 4, 3) := by decide +kernel
theorem dJ6_compare_7cf53_18 : decode cJ6_compare_7cf53 18 = .ok (.iconst 1, 1) := by decide +kernel
theorem dJ6_compare_7cf53_19 : decode cJ6_compare_7cf53 19 = .ok (.ireturn, 1) := by decide +kernel
theorem dX12_isIn_0 : decode cX12_isIn 0 = .ok (.iload_n 0, 1) := by decide +kernel
theorem dX12_isIn_1 : decode cX12_isIn 1 = .ok (.iload_n 1, 1) := by decide +kernel
theorem dX12_isIn_2 : decode cX12_isIn 2 = .ok (.if_icmp .lt 12, 3) := by decide +kernel
theorem dX12_isIn_5 : decode cX12_isIn 5 = .ok (.iload_n 0, 1) := by decide +kernel
theorem dX12_isIn_6 : decode cX12_isIn 6 = .ok (.iload_n 2, 1) := by decide +kernel
theorem dX12_isIn_7 : decode cX12_isIn 7 = .ok (.if_icmp .gt 7, 3) := by decide +kernel
theorem dX12_isIn_10 : decode cX12_isIn 10 = .ok (.iconst 1, 1) := by decide +kernel
theorem dX12_isIn_11 : decode cX12_isIn 11 = .ok (.goto 4, 3) := by decide +kernel
theorem dX12_isIn_14 : decode cX12_isIn 14 = .ok (.iconst 0, 1) := by decide +kernel
theorem dX12_isIn_15 : decode cX12_isIn 15 = .ok (.ireturn, 1) := by decide +kernel
theorem dX12_one_0 : decode cX12_one 0 = .ok (.iload_n 0, 1) := by decide +kernel
theorem dX12_one_1 : decode cX12_one 1 = .ok (.ifCond .eq 7, 3) := by decide +kernel
theorem dX12_one_4 : decode cX12_one 4 = .ok (.iconst 1, 1) := by decide +kernel
theorem dX12_one_5 : decode cX12_one 5 = .ok (.goto 4, 3) := by decide +kernel
theorem dX12_one_8 : decode cX12_one 8 = .ok (.iconst 0, 1) := by decide +kernel
theorem dX12_one_9 : decode cX12_one 9 = .ok (.ireturn, 1) := by decide +kernel
theorem dX12_isScheme_0 : decode cX12_isScheme 0 = .ok (.iload_n 1, 1) := by decide +kernel
theorem dX12_isScheme_1 : decode cX12_isScheme 1 = .ok (.iconst 0, 1) := by decide +kernel
theorem dX12_isScheme_2 : decode cX12_isScheme 2 = .ok (.aload_n 0, 1) := by decide +kernel
theorem dX12_isScheme_3 : decode cX12_isScheme 3 = .ok (.getfield 137, 3) := by decide +kernel
theorem dX12_isScheme_6 : decode cX12_isScheme 6 = .ok (.iconst 1, 1) := by decide +kernel
theorem dX12_isScheme_7 : decode cX12_isScheme 7 = .ok (.isub, 1) := by decide +kernel
theorem dX12_isScheme_8 : decode cX12_isScheme 8 = .ok (.invokestatic 140, 3) := by decide +kernel
theorem dX12_isScheme_11 : decode cX12_isScheme 11 = .ok (.ireturn, 1) := by decide +kernel
theorem dX12_isDay_0 : decode cX12_isDay 0 = .ok (.iload_n 0, 1) := by decide +kernel
theorem dX12_isDay_1 : decode cX12_isDay 1 = .ok (.iconst 0, 1) := by decide +kernel
theorem dX12_isDay_2 : decode cX12_isDay 2 = .ok (.sipush 1000, 3) := by decide +kernel
theorem dX12_isDay_5 : decode cX12_isDay 5 = .ok (.invokestatic 140, 3) := by decide +kernel
theorem dX12_isDay_8 : decode cX12_isDay 8 = .ok (.ireturn, 1) := by decide +kernel
theorem dX12_isSpot_0 : decode cX12_isSpot 0 = .ok (.iload_n 0, 1) := by decide +kernel
theorem dX12_isSpot_1 : decode cX12_isSpot 1 = .ok (.iconst 0, 1) := by decide +kernel
theorem dX12_isSpot_2 : decode cX12_isSpot 2 = .ok (.iconst 1, 1) := by decide +kernel
theorem dX12_isSpot_3 : decode cX12_isSpot 3 = .ok (.invokestatic 140, 3) := by decide +kernel
theorem dX12_isSpot_6 : decode cX12_isSpot 6 = .ok (.ifCond .eq 27, 3) := by decide +kernel
theorem dX12_isSpot_9 : decode cX12_isSpot 9 = .ok (.iload_n 1, 1) := by decide +kernel
theorem dX12_isSpot_10 : decode cX12_isSpot 10 = .ok (.iconst 0, 1) := by decide +kernel
theorem dX12_isSpot_11 : decode cX12_isSpot 11 = .ok (.bipush 9, 2) := by decide +kernel
theorem dX12_isSpot_13 : decode cX12_isSpot 13 = .ok (.invokestatic 140, 3) := by decide +kernel
theorem dX12_isSpot_16 : decode cX12_isSpot 16 = .ok (.ifCond .eq 17, 3) := by decide +kernel
theorem dX12_isSpot_19 : decode cX12_isSpot 19 = .ok (.iload_n 2, 1) := by decide +kernel
theorem dX12_isSpot_20 : decode cX12_isSpot 20 = .ok (.iconst 0, 1) := by decide +kernel
theorem dX12_isSpot_21 : decode cX12_isSpot 21 = .ok (.bipush 7, 2) := by decide +kernel
theorem dX12_isSpot_23 : decode cX12_isSpot 23 = .ok (.invokestatic 140, 3) := by decide +kernel
theorem dX12_isSpot_26 : decode cX12_isSpot 26 = .ok (.ifCond .eq 7, 3) := by decide +kernel
theorem dX12_isSpot_29 : decode cX12_isSpot 29 = .ok (.iconst 1, 1) := by decide +kernel
theorem dX12_isSpot_30 : decode cX12_isSpot 30 = .ok (.goto 4, 3) := by decide +kernel
theorem dX12_isSpot_33 : decode cX12_isSpot 33 = .ok (.iconst 0, 1) := by decide +kernel
theorem dX12_isSpot_34 : decode cX12_isSpot 34 = .ok (.ireturn, 1) := by decide +kernel
theorem dX12_spot_0 : decode cX12_spot 0 = .ok (.bipush 80, 2) := by decide +kernel
theorem dX12_spot_2 : decode cX12_spot 2 = .ok (.iload_n 0, 1) := by decide +kernel
theorem dX12_spot_3 : decode cX12_spot 3 = .ok (.imul, 1) := by decide +kernel
theorem dX12_spot_4 : decode cX12_spot 4 = .ok (.bipush 10, 2) := by decide +kernel
theorem dX12_spot_6 : decode cX12_spot 6 = .ok (.iload_n 2, 1) := by decide +kernel
theorem dX12_spot_7 : decode cX12_spot 7 = .ok (.imul, 1) := by decide +kernel
theorem dX12_spot_8 : decode cX12_spot 8 = .ok (.iadd, 1) := by decide +kernel
theorem dX12_spot_9 : decode cX12_spot 9 = .ok (.iload_n 1, 1) := by decide +kernel
theorem dX12_spot_10 : decode cX12_spot 10 = .ok (.iadd, 1) := by decide +kernel
theorem dX12_spot_11 : decode cX12_spot 11 = .ok (.ireturn, 1) := by decide +kernel
theorem dX12_day_0 : decode cX12_day 0 = .ok (.iload_n 1, 1) := by decide +kernel
theorem dX12_day_1 : decode cX12_day 1 = .ok (.aload_n 0, 1) := by decide +kernel
theorem dX12_day_2 : decode cX12_day 2 = .ok (.getfield 144, 3) := by decide +kernel
theorem dX12_day_5 : decode cX12_day 5 = .ok (.if_icmp .le 10, 3) := by decide +kernel
theorem dX12_day_8 : decode cX12_day 8 = .ok (.iload_n 1, 1) := by decide +kernel
theorem dX12_day_9 : decode cX12_day 9 = .ok (.sipush 1000, 3) := by decide +kernel
theorem dX12_day_12 : decode cX12_day 12 = .ok (.if_icmp .le 5, 3) := by decide +kernel
theorem dX12_day_15 : decode cX12_day 15 = .ok (.iconst 0, 1) := by decide +kernel
theorem dX12_day_16 : decode cX12_day 16 = .ok (.ireturn, 1) := by decide +kernel
theorem dX12_day_17 : decode cX12_day 17 = .ok (.aload_n 0, 1) := by decide +kernel
theorem dX12_day_18 : decode cX12_day 18 = .ok (.iload_n 1, 1) := by decide +kernel
theorem dX12_day_19 : decode cX12_day 19 = .ok (.putfield 144, 3) := by decide +kernel
theorem dX12_day_22 : decode cX12_day 22 = .ok (.aload_n 0, 1) := by decide +kernel
theorem dX12_day_23 : decode cX12_day 23 = .ok (.dup, 1) := by decide +kernel
theorem dX12_day_24 : decode cX12_day 24 = .ok (.getfield 7, 3) := by decide +kernel
theorem dX12_day_27 : decode cX12_day 27 = .ok (.iconst 1, 1) := by decide +kernel
theorem dX12_day_28 : decode cX12_day 28 = .ok (.iadd, 1) := by decide +kernel
theorem dX12_day_29 : decode cX12_day 29 = .ok (.putfield 7, 3) := by decide +kernel
theorem dX12_day_32 : decode cX12_day 32 = .ok (.iconst 1, 1) := by decide +kernel
theorem dX12_day_33 : decode cX12_day 33 = .ok (.ireturn, 1) := by decide +kernel
theorem dX12_sun_0 : decode cX12_sun 0 = .ok (.iload_n 1, 1) := by decide +kernel
theorem dX12_sun_1 : decode cX12_sun 1 = .ok (.iconst 0, 1) := by decide +kernel
theorem dX12_sun_2 : decode cX12_sun 2 = .ok (.iconst 3, 1) := by decide +kernel
theorem dX12_sun_3 : decode cX12_sun 3 = .ok (.invokestatic 140, 3) := by decide +kernel
theorem dX12_sun_6 : decode cX12_sun 6 = .ok (.ifCond .eq 13, 3) := by decide +kernel
theorem dX12_sun_9 : decode cX12_sun 9 = .ok (.iload_n 2, 1) := by decide +kernel
theorem dX12_sun_10 : decode cX12_sun 10 = .ok (.iconst 0, 1) := by decide +kernel
theorem dX12_sun_11 : decode cX12_sun 11 = .ok (.bipush 12, 2) := by decide +kernel
theorem dX12_sun_13 : decode cX12_sun 13 = .ok (.invokestatic 140, 3) := by decide +kernel
theorem dX12_sun_16 : decode cX12_sun 16 = .ok (.ifCond .ne 5, 3) := by decide +kernel
theorem dX12_sun_19 : decode cX12_sun 19 = .ok (.iconst 0, 1) := by decide +kernel
theorem dX12_sun_20 : decode cX12_sun 20 = .ok (.ireturn, 1) := by decide +kernel
theorem dX12_sun_21 : decode cX12_sun 21 = .ok (.aload_n 0, 1) := by decide +kernel
theorem dX12_sun_22 : decode cX12_sun 22 = .ok (.getfield 23, 3) := by decide +kernel
theorem dX12_sun_25 : decode cX12_sun 25 = .ok (.iload_n 1, 1) := by decide +kernel
theorem dX12_sun_26 : decode cX12_sun 26 = .ok (.iload_n 2, 1) := by decide +kernel
theorem dX12_sun_27 : decode cX12_sun 27 = .ok (.iastore, 1) := by decide +kernel
theorem dX12_sun_28 : decode cX12_sun 28 = .ok (.aload_n 0, 1) := by decide +kernel
theorem dX12_sun_29 : decode cX12_sun 29 = .ok (.dup, 1) := by decide +kernel
theorem dX12_sun_30 : decode cX12_sun 30 = .ok (.getfield 7, 3) := by decide +kernel
theorem dX12_sun_33 : decode cX12_sun 33 = .ok (.iconst 1, 1) := by decide +kernel
theorem dX12_sun_34 : decode cX12_sun 34 = .ok (.iadd, 1) := by decide +kernel
theorem dX12_sun_35 : decode cX12_sun 35 = .ok (.putfield 7, 3) := by decide +kernel
theorem dX12_sun_38 : decode cX12_sun 38 = .ok (.iconst 1, 1) := by decide +kernel
theorem dX12_sun_39 : decode cX12_sun 39 = .ok (.ireturn, 1) := by decide +kernel
theorem dX12_scheme_0 : decode cX12_scheme 0 = .ok (.iload_n 1, 1) := by decide +kernel
theorem dX12_scheme_1 : decode cX12_scheme 1 = .ok (.iconst 0, 1) := by decide +kernel
theorem dX12_scheme_2 : decode cX12_scheme 2 = .ok (.bipush 39, 2) := by decide +kernel
theorem dX12_scheme_4 : decode cX12_scheme 4 = .ok (.invokestatic 140, 3) := by decide +kernel
theorem dX12_scheme_7 : decode cX12_scheme 7 = .ok (.ifCond .eq 12, 3) := by decide +kernel
theorem dX12_scheme_10 : decode cX12_scheme 10 = .ok (.aload_n 0, 1) := by decide +kernel
theorem dX12_scheme_11 : decode cX12_scheme 11 = .ok (.getfield 137, 3) := by decide +kernel
theorem dX12_scheme_14 : decode cX12_scheme 14 = .ok (.bipush 10, 2) := by decide +kernel
theorem dX12_scheme_16 : decode cX12_scheme 16 = .ok (.if_icmp .ne 5, 3) := by decide +kernel
theorem dX12_scheme_19 : decode cX12_scheme 19 = .ok (.iconst (-1), 1) := by decide +kernel
theorem dX12_scheme_20 : decode cX12_scheme 20 = .ok (.ireturn, 1) := by decide +kernel
theorem dX12_scheme_21 : decode cX12_scheme 21 = .ok (.aload_n 0, 1) := by decide +kernel
theorem dX12_scheme_22 : decode cX12_scheme 22 = .ok (.getfield 17, 3) := by decide +kernel
theorem dX12_scheme_25 : decode cX12_scheme 25 = .ok (.aload_n 0, 1) := by decide +kernel
theorem dX12_scheme_26 : decode cX12_scheme 26 = .ok (.getfield 137, 3) := by decide +kernel
theorem dX12_scheme_29 : decode cX12_scheme 29 = .ok (.iload_n 1, 1) := by decide +kernel
theorem dX12_scheme_30 : decode cX12_scheme 30 = .ok (.iastore, 1) := by decide +kernel
theorem dX12_scheme_31 : decode cX12_scheme 31 = .ok (.aload_n 0, 1) := by decide +kernel
theorem dX12_scheme_32 : decode cX12_scheme 32 = .ok (.getfield 20, 3) := by decide +kernel
theorem dX12_scheme_35 : decode cX12_scheme 35 = .ok (.aload_n 0, 1) := by decide +kernel
theorem dX12_scheme_36 : decode cX12_scheme 36 = .ok (.getfield 137, 3) := by decide +kernel
theorem dX12_scheme_39 : decode cX12_scheme 39 = .ok (.iconst (-1), 1) := by decide +kernel
theorem dX12_scheme_40 : decode cX12_scheme 40 = .ok (.iastore, 1) := by decide +kernel
theorem dX12_scheme_41 : decode cX12_scheme 41 = .ok (.aload_n 0, 1) := by decide +kernel
theorem dX12_scheme_42 : decode cX12_scheme 42 = .ok (.dup, 1) := by decide +kernel
theorem dX12_scheme_43 : decode cX12_scheme 43 = .ok (.getfield 137, 3) := by decide +kernel
theorem dX12_scheme_46 : decode cX12_scheme 46 = .ok (.iconst 1, 1) := by decide +kernel
theorem dX12_scheme_47 : decode cX12_scheme 47 = .ok (.iadd, 1) := by decide +kernel
theorem dX12_scheme_48 : decode cX12_scheme 48 = .ok (.putfield 137, 3) := by decide +kernel
theorem dX12_scheme_51 : decode cX12_scheme 51 = .ok (.aload_n 0, 1) := by decide +kernel
theorem dX12_scheme_52 : decode cX12_scheme 52 = .ok (.getfield 137, 3) := by decide +kernel
theorem dX12_scheme_55 : decode cX12_scheme 55 = .ok (.iconst 1, 1) := by decide +kernel
theorem dX12_scheme_56 : decode cX12_scheme 56 = .ok (.isub, 1) := by decide +kernel
theorem dX12_scheme_57 : decode cX12_scheme 57 = .ok (.ireturn, 1) := by decide +kernel
theorem dX12_cell_0 : decode cX12_cell 0 = .ok (.aload_n 0, 1) := by decide +kernel
theorem dX12_cell_1 : decode cX12_cell 1 = .ok (.iload_n 1, 1) := by decide +kernel
theorem dX12_cell_2 : decode cX12_cell 2 = .ok (.invokevirtual 147, 3) := by decide +kernel
theorem dX12_cell_5 : decode cX12_cell 5 = .ok (.ifCond .eq 34, 3) := by decide +kernel
theorem dX12_cell_8 : decode cX12_cell 8 = .ok (.iload_n 2, 1) := by decide +kernel
theorem dX12_cell_9 : decode cX12_cell 9 = .ok (.iload_n 3, 1) := by decide +kernel
theorem dX12_cell_10 : decode cX12_cell 10 = .ok (.iload 4, 2) := by decide +kernel
theorem dX12_cell_12 : decode cX12_cell 12 = .ok (.invokestatic 151, 3) := by decide +kernel
theorem dX12_cell_15 : decode cX12_cell 15 = .ok (.ifCond .eq 24, 3) := by decide +kernel
theorem dX12_cell_18 : decode cX12_cell 18 = .ok (.aload_n 0, 1) := by decide +kernel
theorem dX12_cell_19 : decode cX12_cell 19 = .ok (.getfield 13, 3) := by decide +kernel
theorem dX12_cell_22 : decode cX12_cell 22 = .ok (.sipush 160, 3) := by decide +kernel
theorem dX12_cell_25 : decode cX12_cell 25 = .ok (.iload_n 1, 1) := by decide +kernel
theorem dX12_cell_26 : decode cX12_cell 26 = .ok (.imul, 1) := by decide +kernel
theorem dX12_cell_27 : decode cX12_cell 27 = .ok (.iload_n 2, 1) := by decide +kernel
theorem dX12_cell_28 : decode cX12_cell 28 = .ok (.iload_n 3, 1) := by decide +kernel
theorem dX12_cell_29 : decode cX12_cell 29 = .ok (.iload 4, 2) := by decide +kernel
theorem dX12_cell_31 : decode cX12_cell 31 = .ok (.invokestatic 154, 3) := by decide +kernel
theorem dX12_cell_34 : decode cX12_cell 34 = .ok (.iadd, 1) := by decide +kernel
theorem dX12_cell_35 : decode cX12_cell 35 = .ok (.iaload, 1) := by decide +kernel
theorem dX12_cell_36 : decode cX12_cell 36 = .ok (.goto 4, 3) := by decide +kernel
theorem dX12_cell_39 : decode cX12_cell 39 = .ok (.iconst (-1), 1) := by decide +kernel
theorem dX12_cell_40 : decode cX12_cell 40 = .ok (.ireturn, 1) := by decide +kernel
theorem dX12_hand_0 : decode cX12_hand 0 = .ok (.aload_n 0, 1) := by decide +kernel
theorem dX12_hand_1 : decode cX12_hand 1 = .ok (.iload_n 1, 1) := by decide +kernel
theorem dX12_hand_2 : decode cX12_hand 2 = .ok (.invokevirtual 147, 3) := by decide +kernel
theorem dX12_hand_5 : decode cX12_hand 5 = .ok (.ifCond .eq 13, 3) := by decide +kernel
theorem dX12_hand_8 : decode cX12_hand 8 = .ok (.aload_n 0, 1) := by decide +kernel
theorem dX12_hand_9 : decode cX12_hand 9 = .ok (.getfield 20, 3) := by decide +kernel
theorem dX12_hand_12 : decode cX12_hand 12 = .ok (.iload_n 1, 1) := by decide +kernel
theorem dX12_hand_13 : decode cX12_hand 13 = .ok (.iaload, 1) := by decide +kernel
theorem dX12_hand_14 : decode cX12_hand 14 = .ok (.iconst (-1), 1) := by decide +kernel
theorem dX12_hand_15 : decode cX12_hand 15 = .ok (.if_icmp .eq 5, 3) := by decide +kernel
theorem dX12_hand_18 : decode cX12_hand 18 = .ok (.iconst 0, 1) := by decide +kernel
theorem dX12_hand_19 : decode cX12_hand 19 = .ok (.ireturn, 1) := by decide +kernel
theorem dX12_hand_20 : decode cX12_hand 20 = .ok (.aload_n 0, 1) := by decide +kernel
theorem dX12_hand_21 : decode cX12_hand 21 = .ok (.getfield 20, 3) := by decide +kernel
theorem dX12_hand_24 : decode cX12_hand 24 = .ok (.iload_n 1, 1) := by decide +kernel
theorem dX12_hand_25 : decode cX12_hand 25 = .ok (.aload_n 0, 1) := by decide +kernel
theorem dX12_hand_26 : decode cX12_hand 26 = .ok (.getfield 144, 3) := by decide +kernel
theorem dX12_hand_29 : decode cX12_hand 29 = .ok (.iastore, 1) := by decide +kernel
theorem dX12_hand_30 : decode cX12_hand 30 = .ok (.aload_n 0, 1) := by decide +kernel
theorem dX12_hand_31 : decode cX12_hand 31 = .ok (.dup, 1) := by decide +kernel
theorem dX12_hand_32 : decode cX12_hand 32 = .ok (.getfield 7, 3) := by decide +kernel
theorem dX12_hand_35 : decode cX12_hand 35 = .ok (.iconst 1, 1) := by decide +kernel
theorem dX12_hand_36 : decode cX12_hand 36 = .ok (.iadd, 1) := by decide +kernel
theorem dX12_hand_37 : decode cX12_hand 37 = .ok (.putfield 7, 3) := by decide +kernel
theorem dX12_hand_40 : decode cX12_hand 40 = .ok (.iconst 1, 1) := by decide +kernel
theorem dX12_hand_41 : decode cX12_hand 41 = .ok (.ireturn, 1) := by decide +kernel
theorem dX12_beside_0 : decode cX12_beside 0 = .ok (.iload_n 0, 1) := by decide +kernel
theorem dX12_beside_1 : decode cX12_beside 1 = .ok (.bipush 10, 2) := by decide +kernel
theorem dX12_beside_3 : decode cX12_beside 3 = .ok (.irem, 1) := by decide +kernel
theorem dX12_beside_4 : decode cX12_beside 4 = .ok (.iload_n 1, 1) := by decide +kernel
theorem dX12_beside_5 : decode cX12_beside 5 = .ok (.iconst 1, 1) := by decide +kernel
theorem dX12_beside_6 : decode cX12_beside 6 = .ok (.if_icmp .ne 7, 3) := by decide +kernel
theorem dX12_beside_9 : decode cX12_beside 9 = .ok (.iconst 1, 1) := by decide +kernel
theorem dX12_beside_10 : decode cX12_beside 10 = .ok (.goto 13, 3) := by decide +kernel
theorem dX12_beside_13 : decode cX12_beside 13 = .ok (.iload_n 1, 1) := by decide +kernel
theorem dX12_beside_14 : decode cX12_beside 14 = .ok (.iconst 3, 1) := by decide +kernel
theorem dX12_beside_15 : decode cX12_beside 15 = .ok (.if_icmp .ne 7, 3) := by decide +kernel
theorem dX12_beside_18 : decode cX12_beside 18 = .ok (.iconst (-1), 1) := by decide +kernel
theorem dX12_beside_19 : decode cX12_beside 19 = .ok (.goto 4, 3) := by decide +kernel
theorem dX12_beside_22 : decode cX12_beside 22 = .ok (.iconst 0, 1) := by decide +kernel
theorem dX12_beside_23 : decode cX12_beside 23 = .ok (.iadd, 1) := by decide +kernel
theorem dX12_beside_24 : decode cX12_beside 24 = .ok (.istore_n 2, 1) := by decide +kernel
theorem dX12_beside_25 : decode cX12_beside 25 = .ok (.iload_n 0, 1) := by decide +kernel
theorem dX12_beside_26 : decode cX12_beside 26 = .ok (.bipush 80, 2) := by decide +kernel
theorem dX12_beside_28 : decode cX12_beside 28 = .ok (.irem, 1) := by decide +kernel
theorem dX12_beside_29 : decode cX12_beside 29 = .ok (.bipush 10, 2) := by decide +kernel
theorem dX12_beside_31 : decode cX12_beside 31 = .ok (.idiv, 1) := by decide +kernel
theorem dX12_beside_32 : decode cX12_beside 32 = .ok (.iload_n 1, 1) := by decide +kernel
theorem dX12_beside_33 : decode cX12_beside 33 = .ok (.ifCond .ne 7, 3) := by decide +kernel
theorem dX12_beside_36 : decode cX12_beside 36 = .ok (.iconst (-1), 1) := by decide +kernel
theorem dX12_beside_37 : decode cX12_beside 37 = .ok (.goto 13, 3) := by decide +kernel
theorem dX12_beside_40 : decode cX12_beside 40 = .ok (.iload_n 1, 1) := by decide +kernel
theorem dX12_beside_41 : decode cX12_beside 41 = .ok (.iconst 2, 1) := by decide +kernel
theorem dX12_beside_42 : decode cX12_beside 42 = .ok (.if_icmp .ne 7, 3) := by decide +kernel
theorem dX12_beside_45 : decode cX12_beside 45 = .ok (.iconst 1, 1) := by decide +kernel
theorem dX12_beside_46 : decode cX12_beside 46 = .ok (.goto 4, 3) := by decide +kernel
theorem dX12_beside_49 : decode cX12_beside 49 = .ok (.iconst 0, 1) := by decide +kernel
theorem dX12_beside_50 : decode cX12_beside 50 = .ok (.iadd, 1) := by decide +kernel
theorem dX12_beside_51 : decode cX12_beside 51 = .ok (.istore_n 3, 1) := by decide +kernel
theorem dX12_beside_52 : decode cX12_beside 52 = .ok (.iload_n 2, 1) := by decide +kernel
theorem dX12_beside_53 : decode cX12_beside 53 = .ok (.iconst 0, 1) := by decide +kernel
theorem dX12_beside_54 : decode cX12_beside 54 = .ok (.bipush 9, 2) := by decide +kernel
theorem dX12_beside_56 : decode cX12_beside 56 = .ok (.invokestatic 140, 3) := by decide +kernel
theorem dX12_beside_59 : decode cX12_beside 59 = .ok (.ifCond .eq 25, 3) := by decide +kernel
theorem dX12_beside_62 : decode cX12_beside 62 = .ok (.iload_n 3, 1) := by decide +kernel
theorem dX12_beside_63 : decode cX12_beside 63 = .ok (.iconst 0, 1) := by decide +kernel
theorem dX12_beside_64 : decode cX12_beside 64 = .ok (.bipush 7, 2) := by decide +kernel
theorem dX12_beside_66 : decode cX12_beside 66 = .ok (.invokestatic 140, 3) := by decide +kernel
theorem dX12_beside_69 : decode cX12_beside 69 = .ok (.ifCond .eq 15, 3) := by decide +kernel
theorem dX12_beside_72 : decode cX12_beside 72 = .ok (.iload_n 0, 1) := by decide +kernel
theorem dX12_beside_73 : decode cX12_beside 73 = .ok (.bipush 80, 2) := by decide +kernel
theorem dX12_beside_75 : decode cX12_beside 75 = .ok (.idiv, 1) := by decide +kernel
theorem dX12_beside_76 : decode cX12_beside 76 = .ok (.iload_n 2, 1) := by decide +kernel
theorem dX12_beside_77 : decode cX12_beside 77 = .ok (.iload_n 3, 1) := by decide +kernel
theorem dX12_beside_78 : decode cX12_beside 78 = .ok (.invokestatic 154, 3) := by decide +kernel
theorem dX12_beside_81 : decode cX12_beside 81 = .ok (.goto 4, 3) := by decide +kernel
theorem dX12_beside_84 : decode cX12_beside 84 = .ok (.iconst (-1), 1) := by decide +kernel
theorem dX12_beside_85 : decode cX12_beside 85 = .ok (.ireturn, 1) := by decide +kernel
theorem dX12_at_0 : decode cX12_at 0 = .ok (.aload_n 0, 1) := by decide +kernel
theorem dX12_at_1 : decode cX12_at 1 = .ok (.getfield 13, 3) := by decide +kernel
theorem dX12_at_4 : decode cX12_at 4 = .ok (.sipush 160, 3) := by decide +kernel
theorem dX12_at_7 : decode cX12_at 7 = .ok (.iload_n 1, 1) := by decide +kernel
theorem dX12_at_8 : decode cX12_at 8 = .ok (.imul, 1) := by decide +kernel
theorem dX12_at_9 : decode cX12_at 9 = .ok (.iload_n 2, 1) := by decide +kernel
theorem dX12_at_10 : decode cX12_at 10 = .ok (.iadd, 1) := by decide +kernel
theorem dX12_at_11 : decode cX12_at 11 = .ok (.iaload, 1) := by decide +kernel
theorem dX12_at_12 : decode cX12_at 12 = .ok (.ireturn, 1) := by decide +kernel
theorem dX12_manyOf_0 : decode cX12_manyOf 0 = .ok (.iconst 0, 1) := by decide +kernel
theorem dX12_manyOf_1 : decode cX12_manyOf 1 = .ok (.istore_n 3, 1) := by decide +kernel
theorem dX12_manyOf_2 : decode cX12_manyOf 2 = .ok (.iconst 0, 1) := by decide +kernel
theorem dX12_manyOf_3 : decode cX12_manyOf 3 = .ok (.istore 4, 2) := by decide +kernel
theorem dX12_manyOf_5 : decode cX12_manyOf 5 = .ok (.iload 4, 2) := by decide +kernel
theorem dX12_manyOf_7 : decode cX12_manyOf 7 = .ok (.sipush 160, 3) := by decide +kernel
theorem dX12_manyOf_10 : decode cX12_manyOf 10 = .ok (.if_icmp .ge 31, 3) := by decide +kernel
theorem dX12_manyOf_13 : decode cX12_manyOf 13 = .ok (.iload_n 3, 1) := by decide +kernel
theorem dX12_manyOf_14 : decode cX12_manyOf 14 = .ok (.aload_n 0, 1) := by decide +kernel
theorem dX12_manyOf_15 : decode cX12_manyOf 15 = .ok (.iload_n 1, 1) := by decide +kernel
theorem dX12_manyOf_16 : decode cX12_manyOf 16 = .ok (.iload 4, 2) := by decide +kernel
theorem dX12_manyOf_18 : decode cX12_manyOf 18 = .ok (.invokevirtual 158, 3) := by decide +kernel
theorem dX12_manyOf_21 : decode cX12_manyOf 21 = .ok (.iload_n 2, 1) := by decide +kernel
theorem dX12_manyOf_22 : decode cX12_manyOf 22 = .ok (.if_icmp .ne 7, 3) := by decide +kernel
theorem dX12_manyOf_25 : decode cX12_manyOf 25 = .ok (.iconst 1, 1) := by decide +kernel
theorem dX12_manyOf_26 : decode cX12_manyOf 26 = .ok (.goto 4, 3) := by decide +kernel
theorem dX12_manyOf_29 : decode cX12_manyOf 29 = .ok (.iconst 0, 1) := by decide +kernel
theorem dX12_manyOf_30 : decode cX12_manyOf 30 = .ok (.invokestatic 162, 3) := by decide +kernel
theorem dX12_manyOf_33 : decode cX12_manyOf 33 = .ok (.iadd, 1) := by decide +kernel
theorem dX12_manyOf_34 : decode cX12_manyOf 34 = .ok (.istore_n 3, 1) := by decide +kernel
theorem dX12_manyOf_35 : decode cX12_manyOf 35 = .ok (.iinc 4 1, 3) := by decide +kernel
theorem dX12_manyOf_38 : decode cX12_manyOf 38 = .ok (.goto (-33), 3) := by decide +kernel
theorem dX12_manyOf_41 : decode cX12_manyOf 41 = .ok (.iload_n 3, 1) := by decide +kernel
theorem dX12_manyOf_42 : decode cX12_manyOf 42 = .ok (.ireturn, 1) := by decide +kernel
theorem dX12_lightOf_0 : decode cX12_lightOf 0 = .ok (.iconst 0, 1) := by decide +kernel
theorem dX12_lightOf_1 : decode cX12_lightOf 1 = .ok (.istore_n 3, 1) := by decide +kernel
theorem dX12_lightOf_2 : decode cX12_lightOf 2 = .ok (.iconst 0, 1) := by decide +kernel
theorem dX12_lightOf_3 : decode cX12_lightOf 3 = .ok (.istore 4, 2) := by decide +kernel
theorem dX12_lightOf_5 : decode cX12_lightOf 5 = .ok (.iload 4, 2) := by decide +kernel
theorem dX12_lightOf_7 : decode cX12_lightOf 7 = .ok (.sipush 160, 3) := by decide +kernel
theorem dX12_lightOf_10 : decode cX12_lightOf 10 = .ok (.if_icmp .ge 76, 3) := by decide +kernel
theorem dX12_lightOf_13 : decode cX12_lightOf 13 = .ok (.aload_n 0, 1) := by decide +kernel
theorem dX12_lightOf_14 : decode cX12_lightOf 14 = .ok (.iload_n 1, 1) := by decide +kernel
theorem dX12_lightOf_15 : decode cX12_lightOf 15 = .ok (.iload 4, 2) := by decide +kernel
theorem dX12_lightOf_17 : decode cX12_lightOf 17 = .ok (.invokevirtual 158, 3) := by decide +kernel
theorem dX12_lightOf_20 : decode cX12_lightOf 20 = .ok (.iload_n 2, 1) := by decide +kernel
theorem dX12_lightOf_21 : decode cX12_lightOf 21 = .ok (.if_icmp .eq 6, 3) := by decide +kernel
theorem dX12_lightOf_24 : decode cX12_lightOf 24 = .ok (.goto 56, 3) := by decide +kernel
theorem dX12_lightOf_27 : decode cX12_lightOf 27 = .ok (.iconst 0, 1) := by decide +kernel
theorem dX12_lightOf_28 : decode cX12_lightOf 28 = .ok (.istore 5, 2) := by decide +kernel
theorem dX12_lightOf_30 : decode cX12_lightOf 30 = .ok (.iload 5, 2) := by decide +kernel
theorem dX12_lightOf_32 : decode cX12_lightOf 32 = .ok (.iconst 4, 1) := by decide +kernel
theorem dX12_lightOf_33 : decode cX12_lightOf 33 = .ok (.if_icmp .ge 47, 3) := by decide +kernel
theorem dX12_lightOf_36 : decode cX12_lightOf 36 = .ok (.iload 4, 2) := by decide +kernel
theorem dX12_lightOf_38 : decode cX12_lightOf 38 = .ok (.iload 5, 2) := by decide +kernel
theorem dX12_lightOf_40 : decode cX12_lightOf 40 = .ok (.invokestatic 166, 3) := by decide +kernel
theorem dX12_lightOf_43 : decode cX12_lightOf 43 = .ok (.iconst (-1), 1) := by decide +kernel
theorem dX12_lightOf_44 : decode cX12_lightOf 44 = .ok (.if_icmp .eq 18, 3) := by decide +kernel
theorem dX12_lightOf_47 : decode cX12_lightOf 47 = .ok (.aload_n 0, 1) := by decide +kernel
theorem dX12_lightOf_48 : decode cX12_lightOf 48 = .ok (.iload_n 1, 1) := by decide +kernel
theorem dX12_lightOf_49 : decode cX12_lightOf 49 = .ok (.iload 4, 2) := by decide +kernel
theorem dX12_lightOf_51 : decode cX12_lightOf 51 = .ok (.iload 5, 2) := by decide +kernel
theorem dX12_lightOf_53 : decode cX12_lightOf 53 = .ok (.invokestatic 166, 3) := by decide +kernel
theorem dX12_lightOf_56 : decode cX12_lightOf 56 = .ok (.invokevirtual 158, 3) := by decide +kernel
theorem dX12_lightOf_59 : decode cX12_lightOf 59 = .ok (.ifCond .ne 15, 3) := by decide +kernel
theorem dX12_lightOf_62 : decode cX12_lightOf 62 = .ok (.iload_n 3, 1) := by decide +kernel
theorem dX12_lightOf_63 : decode cX12_lightOf 63 = .ok (.aload_n 0, 1) := by decide +kernel
theorem dX12_lightOf_64 : decode cX12_lightOf 64 = .ok (.getfield 23, 3) := by decide +kernel
theorem dX12_lightOf_67 : decode cX12_lightOf 67 = .ok (.iload 5, 2) := by decide +kernel
theorem dX12_lightOf_69 : decode cX12_lightOf 69 = .ok (.iaload, 1) := by decide +kernel
theorem dX12_lightOf_70 : decode cX12_lightOf 70 = .ok (.invokestatic 169, 3) := by decide +kernel
theorem dX12_lightOf_73 : decode cX12_lightOf 73 = .ok (.istore_n 3, 1) := by decide +kernel
theorem dX12_lightOf_74 : decode cX12_lightOf 74 = .ok (.iinc 5 1, 3) := by decide +kernel
theorem dX12_lightOf_77 : decode cX12_lightOf 77 = .ok (.goto (-47), 3) := by decide +kernel
theorem dX12_lightOf_80 : decode cX12_lightOf 80 = .ok (.iinc 4 1, 3) := by decide +kernel
theorem dX12_lightOf_83 : decode cX12_lightOf 83 = .ok (.goto (-78), 3) := by decide +kernel
theorem dX12_lightOf_86 : decode cX12_lightOf 86 = .ok (.iload_n 3, 1) := by decide +kernel
theorem dX12_lightOf_87 : decode cX12_lightOf 87 = .ok (.ireturn, 1) := by decide +kernel
theorem dX12_isRoom_0 : decode cX12_isRoom 0 = .ok (.iload_n 0, 1) := by decide +kernel
theorem dX12_isRoom_1 : decode cX12_isRoom 1 = .ok (.iconst 1, 1) := by decide +kernel
theorem dX12_isRoom_2 : decode cX12_isRoom 2 = .ok (.bipush 12, 2) := by decide +kernel
theorem dX12_isRoom_4 : decode cX12_isRoom 4 = .ok (.invokestatic 140, 3) := by decide +kernel
theorem dX12_isRoom_7 : decode cX12_isRoom 7 = .ok (.ireturn, 1) := by decide +kernel
