theorem dX7_isIn_0 : decode cX7_isIn 0 = .ok (.lload_n 0, 1) := by decide +kernel
theorem dX7_isIn_1 : decode cX7_isIn 1 = .ok (.lload_n 2, 1) := by decide +kernel
theorem dX7_isIn_2 : decode cX7_isIn 2 = .ok (.lcmp, 1) := by decide +kernel
theorem dX7_isIn_3 : decode cX7_isIn 3 = .ok (.ifCond .lt 14, 3) := by decide +kernel
theorem dX7_isIn_6 : decode cX7_isIn 6 = .ok (.lload_n 0, 1) := by decide +kernel
theorem dX7_isIn_7 : decode cX7_isIn 7 = .ok (.lload 4, 2) := by decide +kernel
theorem dX7_isIn_9 : decode cX7_isIn 9 = .ok (.lcmp, 1) := by decide +kernel
theorem dX7_isIn_10 : decode cX7_isIn 10 = .ok (.ifCond .gt 7, 3) := by decide +kernel
theorem dX7_isIn_13 : decode cX7_isIn 13 = .ok (.iconst 1, 1) := by decide +kernel
theorem dX7_isIn_14 : decode cX7_isIn 14 = .ok (.goto 4, 3) := by decide +kernel
theorem dX7_isIn_17 : decode cX7_isIn 17 = .ok (.iconst 0, 1) := by decide +kernel
theorem dX7_isIn_18 : decode cX7_isIn 18 = .ok (.ireturn, 1) := by decide +kernel
theorem dX7_isCell_0 : decode cX7_isCell 0 = .ok (.iload_n 1, 1) := by decide +kernel
theorem dX7_isCell_1 : decode cX7_isCell 1 = .ok (.i2l, 1) := by decide +kernel
theorem dX7_isCell_2 : decode cX7_isCell 2 = .ok (.lconst 0, 1) := by decide +kernel
theorem dX7_isCell_3 : decode cX7_isCell 3 = .ok (.aload_n 0, 1) := by decide +kernel
theorem dX7_isCell_4 : decode cX7_isCell 4 = .ok (.getfield 129, 3) := by decide +kernel
theorem dX7_isCell_7 : decode cX7_isCell 7 = .ok (.iconst 1, 1) := by decide +kernel
theorem dX7_isCell_8 : decode cX7_isCell 8 = .ok (.isub, 1) := by decide +kernel
theorem dX7_isCell_9 : decode cX7_isCell 9 = .ok (.i2l, 1) := by decide +kernel
theorem dX7_isCell_10 : decode cX7_isCell 10 = .ok (.invokestatic 133, 3) := by decide +kernel
theorem dX7_isCell_13 : decode cX7_isCell 13 = .ok (.ireturn, 1) := by decide +kernel
theorem dX7_divisor_0 : decode cX7_divisor 0 = .ok (.lload_n 0, 1) := by decide +kernel
theorem dX7_divisor_1 : decode cX7_divisor 1 = .ok (.invokestatic 137, 3) := by decide +kernel
theorem dX7_divisor_4 : decode cX7_divisor 4 = .ok (.lstore 4, 2) := by decide +kernel
theorem dX7_divisor_6 : decode cX7_divisor 6 = .ok (.lload_n 2, 1) := by decide +kernel
theorem dX7_divisor_7 : decode cX7_divisor 7 = .ok (.invokestatic 137, 3) := by decide +kernel
theorem dX7_divisor_10 : decode cX7_divisor 10 = .ok (.lstore 6, 2) := by decide +kernel
theorem dX7_divisor_12 : decode cX7_divisor 12 = .ok (.lload 6, 2) := by decide +kernel
theorem dX7_divisor_14 : decode cX7_divisor 14 = .ok (.lconst 0, 1) := by decide +kernel
theorem dX7_divisor_15 : decode cX7_divisor 15 = .ok (.lcmp, 1) := by decide +kernel
theorem dX7_divisor_16 : decode cX7_divisor 16 = .ok (.ifCond .eq 21, 3) := by decide +kernel
theorem dX7_divisor_19 : decode cX7_divisor 19 = .ok (.lload 4, 2) := by decide +kernel
theorem dX7_divisor_21 : decode cX7_divisor 21 = .ok (.lload 6, 2) := by decide +kernel
theorem dX7_divisor_23 : decode cX7_divisor 23 = .ok (.lrem, 1) := by decide +kernel
theorem dX7_divisor_24 : decode cX7_divisor 24 = .ok (.lstore 8, 2) := by decide +kernel
theorem dX7_divisor_26 : decode cX7_divisor 26 = .ok (.lload 6, 2) := by decide +kernel
theorem dX7_divisor_28 : decode cX7_divisor 28 = .ok (.lstore 4, 2) := by decide +kernel
theorem dX7_divisor_30 : decode cX7_divisor 30 = .ok (.lload 8, 2) := by decide +kernel
theorem dX7_divisor_32 : decode cX7_divisor 32 = .ok (.lstore 6, 2) := by decide +kernel
theorem dX7_divisor_34 : decode cX7_divisor 34 = .ok (.goto (-22), 3) := by decide +kernel
theorem dX7_divisor_37 : decode cX7_divisor 37 = .ok (.lload 4, 2) := by decide +kernel
theorem dX7_divisor_39 : decode cX7_divisor 39 = .ok (.lreturn, 1) := by decide +kernel
theorem dX7_part_0 : decode cX7_part 0 = .ok (.lload_n 0, 1) := by decide +kernel
theorem dX7_part_1 : decode cX7_part 1 = .ok (.lload_n 2, 1) := by decide +kernel
theorem dX7_part_2 : decode cX7_part 2 = .ok (.invokestatic 143, 3) := by decide +kernel
theorem dX7_part_5 : decode cX7_part 5 = .ok (.lstore 5, 2) := by decide +kernel
theorem dX7_part_7 : decode cX7_part 7 = .ok (.iload 4, 2) := by decide +kernel
theorem dX7_part_9 : decode cX7_part 9 = .ok (.ifCond .ne 10, 3) := by decide +kernel
theorem dX7_part_12 : decode cX7_part 12 = .ok (.lload_n 0, 1) := by decide +kernel
theorem dX7_part_13 : decode cX7_part 13 = .ok (.lload 5, 2) := by decide +kernel
theorem dX7_part_15 : decode cX7_part 15 = .ok (.ldiv, 1) := by decide +kernel
theorem dX7_part_16 : decode cX7_part 16 = .ok (.goto 7, 3) := by decide +kernel
theorem dX7_part_19 : decode cX7_part 19 = .ok (.lload_n 2, 1) := by decide +kernel
theorem dX7_part_20 : decode cX7_part 20 = .ok (.lload 5, 2) := by decide +kernel
theorem dX7_part_22 : decode cX7_part 22 = .ok (.ldiv, 1) := by decide +kernel
theorem dX7_part_23 : decode cX7_part 23 = .ok (.lreturn, 1) := by decide +kernel
theorem dX7_lesser_0 : decode cX7_lesser 0 = .ok (.lload_n 0, 1) := by decide +kernel
theorem dX7_lesser_1 : decode cX7_lesser 1 = .ok (.lload_n 2, 1) := by decide +kernel
theorem dX7_lesser_2 : decode cX7_lesser 2 = .ok (.lcmp, 1) := by decide +kernel
theorem dX7_lesser_3 : decode cX7_lesser 3 = .ok (.ifCond .ge 7, 3) := by decide +kernel
theorem dX7_lesser_6 : decode cX7_lesser 6 = .ok (.lload_n 0, 1) := by decide +kernel
theorem dX7_lesser_7 : decode cX7_lesser 7 = .ok (.goto 4, 3) := by decide +kernel
theorem dX7_lesser_10 : decode cX7_lesser 10 = .ok (.lload_n 2, 1) := by decide +kernel
theorem dX7_lesser_11 : decode cX7_lesser 11 = .ok (.lreturn, 1) := by decide +kernel
theorem dX7_above_0 : decode cX7_above 0 = .ok (.iload_n 0, 1) := by decide +kernel
theorem dX7_above_1 : decode cX7_above 1 = .ok (.ifCond .ne 7, 3) := by decide +kernel
theorem dX7_above_4 : decode cX7_above 4 = .ok (.iconst (-1), 1) := by decide +kernel
theorem dX7_above_5 : decode cX7_above 5 = .ok (.goto 22, 3) := by decide +kernel
theorem dX7_above_8 : decode cX7_above 8 = .ok (.iload_n 0, 1) := by decide +kernel
theorem dX7_above_9 : decode cX7_above 9 = .ok (.iconst 3, 1) := by decide +kernel
theorem dX7_above_10 : decode cX7_above 10 = .ok (.if_icmp .ge 7, 3) := by decide +kernel
theorem dX7_above_13 : decode cX7_above 13 = .ok (.iconst 0, 1) := by decide +kernel
theorem dX7_above_14 : decode cX7_above 14 = .ok (.goto 13, 3) := by decide +kernel
theorem dX7_above_17 : decode cX7_above 17 = .ok (.iload_n 0, 1) := by decide +kernel
theorem dX7_above_18 : decode cX7_above 18 = .ok (.iconst 4, 1) := by decide +kernel
theorem dX7_above_19 : decode cX7_above 19 = .ok (.if_icmp .ne 7, 3) := by decide +kernel
theorem dX7_above_22 : decode cX7_above 22 = .ok (.iconst 2, 1) := by decide +kernel
theorem dX7_above_23 : decode cX7_above 23 = .ok (.goto 4, 3) := by decide +kernel
theorem dX7_above_26 : decode cX7_above 26 = .ok (.iconst 1, 1) := by decide +kernel
theorem dX7_above_27 : decode cX7_above 27 = .ok (.ireturn, 1) := by decide +kernel
theorem dX7_isUnder_0 : decode cX7_isUnder 0 = .ok (.iload_n 0, 1) := by decide +kernel
theorem dX7_isUnder_1 : decode cX7_isUnder 1 = .ok (.istore_n 2, 1) := by decide +kernel
theorem dX7_isUnder_2 : decode cX7_isUnder 2 = .ok (.iload_n 2, 1) := by decide +kernel
theorem dX7_isUnder_3 : decode cX7_isUnder 3 = .ok (.iconst (-1), 1) := by decide +kernel
theorem dX7_isUnder_4 : decode cX7_isUnder 4 = .ok (.if_icmp .eq 16, 3) := by decide +kernel
theorem dX7_isUnder_7 : decode cX7_isUnder 7 = .ok (.iload_n 2, 1) := by decide +kernel
theorem dX7_isUnder_8 : decode cX7_isUnder 8 = .ok (.iload_n 1, 1) := by decide +kernel
theorem dX7_isUnder_9 : decode cX7_isUnder 9 = .ok (.if_icmp .eq 11, 3) := by decide +kernel
theorem dX7_isUnder_12 : decode cX7_isUnder 12 = .ok (.iload_n 2, 1) := by decide +kernel
theorem dX7_isUnder_13 : decode cX7_isUnder 13 = .ok (.invokestatic 147, 3) := by decide +kernel
theorem dX7_isUnder_16 : decode cX7_isUnder 16 = .ok (.istore_n 2, 1) := by decide +kernel
theorem dX7_isUnder_17 : decode cX7_isUnder 17 = .ok (.goto (-15), 3) := by decide +kernel
theorem dX7_isUnder_20 : decode cX7_isUnder 20 = .ok (.iload_n 2, 1) := by decide +kernel
theorem dX7_isUnder_21 : decode cX7_isUnder 21 = .ok (.iload_n 1, 1) := by decide +kernel
theorem dX7_isUnder_22 : decode cX7_isUnder 22 = .ok (.if_icmp .ne 7, 3) := by decide +kernel
theorem dX7_isUnder_25 : decode cX7_isUnder 25 = .ok (.iconst 1, 1) := by decide +kernel
theorem dX7_isUnder_26 : decode cX7_isUnder 26 = .ok (.goto 4, 3) := by decide +kernel
theorem dX7_isUnder_29 : decode cX7_isUnder 29 = .ok (.iconst 0, 1) := by decide +kernel
theorem dX7_isUnder_30 : decode cX7_isUnder 30 = .ok (.ireturn, 1) := by decide +kernel
theorem dX7_side_0 : decode cX7_side 0 = .ok (.aload_n 0, 1) := by decide +kernel
theorem dX7_side_1 : decode cX7_side 1 = .ok (.getfield 15, 3) := by decide +kernel
theorem dX7_side_4 : decode cX7_side 4 = .ok (.iload_n 1, 1) := by decide +kernel
theorem dX7_side_5 : decode cX7_side 5 = .ok (.iaload, 1) := by decide +kernel
theorem dX7_side_6 : decode cX7_side 6 = .ok (.istore_n 2, 1) := by decide +kernel
theorem dX7_side_7 : decode cX7_side 7 = .ok (.aload_n 0, 1) := by decide +kernel
theorem dX7_side_8 : decode cX7_side 8 = .ok (.getfield 11, 3) := by decide +kernel
theorem dX7_side_11 : decode cX7_side 11 = .ok (.iload_n 1, 1) := by decide +kernel
theorem dX7_side_12 : decode cX7_side 12 = .ok (.iaload, 1) := by decide +kernel
theorem dX7_side_13 : decode cX7_side 13 = .ok (.tableswitch 56 1 5 #[35, 56, 35, 41, 46], 35) := by decide +kernel
theorem dX7_side_48 : decode cX7_side 48 = .ok (.iload_n 2, 1) := by decide +kernel
theorem dX7_side_49 : decode cX7_side 49 = .ok (.iconst 1, 1) := by decide +kernel
theorem dX7_side_50 : decode cX7_side 50 = .ok (.iadd, 1) := by decide +kernel
theorem dX7_side_51 : decode cX7_side 51 = .ok (.iconst 2, 1) := by decide +kernel
theorem dX7_side_52 : decode cX7_side 52 = .ok (.idiv, 1) := by decide +kernel
theorem dX7_side_53 : decode cX7_side 53 = .ok (.ireturn, 1) := by decide +kernel
theorem dX7_side_54 : decode cX7_side 54 = .ok (.bipush 10, 2) := by decide +kernel
theorem dX7_side_56 : decode cX7_side 56 = .ok (.iload_n 2, 1) := by decide +kernel
theorem dX7_side_57 : decode cX7_side 57 = .ok (.isub, 1) := by decide +kernel
theorem dX7_side_58 : decode cX7_side 58 = .ok (.ireturn, 1) := by decide +kernel
theorem dX7_side_59 : decode cX7_side 59 = .ok (.iconst 2, 1) := by decide +kernel
theorem dX7_side_60 : decode cX7_side 60 = .ok (.iload_n 2, 1) := by decide +kernel
theorem dX7_side_61 : decode cX7_side 61 = .ok (.iconst 1, 1) := by decide +kernel
theorem dX7_side_62 : decode cX7_side 62 = .ok (.iadd, 1) := by decide +kernel
theorem dX7_side_63 : decode cX7_side 63 = .ok (.iconst 2, 1) := by decide +kernel
theorem dX7_side_64 : decode cX7_side 64 = .ok (.idiv, 1) := by decide +kernel
theorem dX7_side_65 : decode cX7_side 65 = .ok (.invokestatic 151, 3) := by decide +kernel
theorem dX7_side_68 : decode cX7_side 68 = .ok (.ireturn, 1) := by decide +kernel
theorem dX7_side_69 : decode cX7_side 69 = .ok (.iload_n 2, 1) := by decide +kernel
theorem dX7_side_70 : decode cX7_side 70 = .ok (.ireturn, 1) := by decide +kernel
theorem dX7_holds_0 : decode cX7_holds 0 = .ok (.aload_n 0, 1) := by decide +kernel
theorem dX7_holds_1 : decode cX7_holds 1 = .ok (.getfield 11, 3) := by decide +kernel
theorem dX7_holds_4 : decode cX7_holds 4 = .ok (.iload_n 1, 1) := by decide +kernel
theorem dX7_holds_5 : decode cX7_holds 5 = .ok (.iaload, 1) := by decide +kernel
theorem dX7_holds_6 : decode cX7_holds 6 = .ok (.iconst 2, 1) := by decide +kernel
theorem dX7_holds_7 : decode cX7_holds 7 = .ok (.invokestatic 155, 3) := by decide +kernel
theorem dX7_holds_10 : decode cX7_holds 10 = .ok (.ifCond .eq 14, 3) := by decide +kernel
theorem dX7_holds_13 : decode cX7_holds 13 = .ok (.iconst 2, 1) := by decide +kernel
theorem dX7_holds_14 : decode cX7_holds 14 = .ok (.aload_n 0, 1) := by decide +kernel
theorem dX7_holds_15 : decode cX7_holds 15 = .ok (.getfield 18, 3) := by decide +kernel
theorem dX7_holds_18 : decode cX7_holds 18 = .ok (.iload_n 1, 1) := by decide +kernel
theorem dX7_holds_19 : decode cX7_holds 19 = .ok (.iaload, 1) := by decide +kernel
theorem dX7_holds_20 : decode cX7_holds 20 = .ok (.imul, 1) := by decide +kernel
theorem dX7_holds_21 : decode cX7_holds 21 = .ok (.goto 9, 3) := by decide +kernel
theorem dX7_holds_24 : decode cX7_holds 24 = .ok (.aload_n 0, 1) := by decide +kernel
theorem dX7_holds_25 : decode cX7_holds 25 = .ok (.getfield 18, 3) := by decide +kernel
theorem dX7_holds_28 : decode cX7_holds 28 = .ok (.iload_n 1, 1) := by decide +kernel
theorem dX7_holds_29 : decode cX7_holds 29 = .ok (.iaload, 1) := by decide +kernel
theorem dX7_holds_30 : decode cX7_holds 30 = .ok (.ireturn, 1) := by decide +kernel
theorem dX7_fin_0 : decode cX7_fin 0 = .ok (.aload_n 0, 1) := by decide +kernel
theorem dX7_fin_1 : decode cX7_fin 1 = .ok (.getfield 11, 3) := by decide +kernel
theorem dX7_fin_4 : decode cX7_fin 4 = .ok (.iload_n 1, 1) := by decide +kernel
theorem dX7_fin_5 : decode cX7_fin 5 = .ok (.iaload, 1) := by decide +kernel
theorem dX7_fin_6 : decode cX7_fin 6 = .ok (.iconst 3, 1) := by decide +kernel
theorem dX7_fin_7 : decode cX7_fin 7 = .ok (.if_icmp .ne 7, 3) := by decide +kernel
theorem dX7_fin_10 : decode cX7_fin 10 = .ok (.iconst 1, 1) := by decide +kernel
theorem dX7_fin_11 : decode cX7_fin 11 = .ok (.goto 4, 3) := by decide +kernel
theorem dX7_fin_14 : decode cX7_fin 14 = .ok (.iconst 0, 1) := by decide +kernel
theorem dX7_fin_15 : decode cX7_fin 15 = .ok (.ireturn, 1) := by decide +kernel
theorem dX7_made_0 : decode cX7_made 0 = .ok (.aload_n 0, 1) := by decide +kernel
theorem dX7_made_1 : decode cX7_made 1 = .ok (.getfield 11, 3) := by decide +kernel
theorem dX7_made_4 : decode cX7_made 4 = .ok (.iload_n 1, 1) := by decide +kernel
theorem dX7_made_5 : decode cX7_made 5 = .ok (.iaload, 1) := by decide +kernel
theorem dX7_made_6 : decode cX7_made 6 = .ok (.istore_n 2, 1) := by decide +kernel
theorem dX7_made_7 : decode cX7_made 7 = .ok (.aload_n 0, 1) := by decide +kernel
theorem dX7_made_8 : decode cX7_made 8 = .ok (.getfield 18, 3) := by decide +kernel
theorem dX7_made_11 : decode cX7_made 11 = .ok (.iload_n 1, 1) := by decide +kernel
theorem dX7_made_12 : decode cX7_made 12 = .ok (.iaload, 1) := by decide +kernel
theorem dX7_made_13 : decode cX7_made 13 = .ok (.iconst 1, 1) := by decide +kernel
theorem dX7_made_14 : decode cX7_made 14 = .ok (.if_icmp .ne 9, 3) := by decide +kernel
theorem dX7_made_17 : decode cX7_made 17 = .ok (.sipush 132, 3) := by decide +kernel
theorem dX7_made_20 : decode cX7_made 20 = .ok (.goto 5, 3) := by decide +kernel
theorem dX7_made_23 : decode cX7_made 23 = .ok (.bipush 13, 2) := by decide +kernel
theorem dX7_made_25 : decode cX7_made 25 = .ok (.istore_n 3, 1) := by decide +kernel
theorem dX7_made_26 : decode cX7_made 26 = .ok (.iload_n 2, 1) := by decide +kernel
theorem dX7_made_27 : decode cX7_made 27 = .ok (.iconst 1, 1) := by decide +kernel
theorem dX7_made_28 : decode cX7_made 28 = .ok (.invokestatic 155, 3) := by decide +kernel
theorem dX7_made_31 : decode cX7_made 31 = .ok (.ifCond .eq 12, 3) := by decide +kernel
theorem dX7_made_34 : decode cX7_made 34 = .ok (.bipush 10, 2) := by decide +kernel
theorem dX7_made_36 : decode cX7_made 36 = .ok (.iload_n 3, 1) := by decide +kernel
theorem dX7_made_37 : decode cX7_made 37 = .ok (.imul, 1) := by decide +kernel
theorem dX7_made_38 : decode cX7_made 38 = .ok (.iconst 4, 1) := by decide +kernel
theorem dX7_made_39 : decode cX7_made 39 = .ok (.iadd, 1) := by decide +kernel
theorem dX7_made_40 : decode cX7_made 40 = .ok (.goto 21, 3) := by decide +kernel
theorem dX7_made_43 : decode cX7_made 43 = .ok (.iload_n 2, 1) := by decide +kernel
theorem dX7_made_44 : decode cX7_made 44 = .ok (.iconst 2, 1) := by decide +kernel
theorem dX7_made_45 : decode cX7_made 45 = .ok (.invokestatic 155, 3) := by decide +kernel
theorem dX7_made_48 : decode cX7_made 48 = .ok (.ifCond .eq 12, 3) := by decide +kernel
theorem dX7_made_51 : decode cX7_made 51 = .ok (.bipush 10, 2) := by decide +kernel
theorem dX7_made_53 : decode cX7_made 53 = .ok (.iload_n 3, 1) := by decide +kernel
theorem dX7_made_54 : decode cX7_made 54 = .ok (.imul, 1) := by decide +kernel
theorem dX7_made_55 : decode cX7_made 55 = .ok (.iconst 5, 1) := by decide +kernel
theorem dX7_made_56 : decode cX7_made 56 = .ok (.iadd, 1) := by decide +kernel
theorem dX7_made_57 : decode cX7_made 57 = .ok (.goto 4, 3) := by decide +kernel
theorem dX7_made_60 : decode cX7_made 60 = .ok (.iload_n 3, 1) := by decide +kernel
theorem dX7_made_61 : decode cX7_made 61 = .ok (.istore_n 3, 1) := by decide +kernel
theorem dX7_made_62 : decode cX7_made 62 = .ok (.iload_n 2, 1) := by decide +kernel
theorem dX7_made_63 : decode cX7_made 63 = .ok (.iconst 2, 1) := by decide +kernel
theorem dX7_made_64 : decode cX7_made 64 = .ok (.if_icmp .le 14, 3) := by decide +kernel
theorem dX7_made_67 : decode cX7_made 67 = .ok (.bipush 10, 2) := by decide +kernel
theorem dX7_made_69 : decode cX7_made 69 = .ok (.iload_n 3, 1) := by decide +kernel
theorem dX7_made_70 : decode cX7_made 70 = .ok (.imul, 1) := by decide +kernel
theorem dX7_made_71 : decode cX7_made 71 = .ok (.iload_n 2, 1) := by decide +kernel
theorem dX7_made_72 : decode cX7_made 72 = .ok (.iadd, 1) := by decide +kernel
theorem dX7_made_73 : decode cX7_made 73 = .ok (.iconst 3, 1) := by decide +kernel
theorem dX7_made_74 : decode cX7_made 74 = .ok (.iadd, 1) := by decide +kernel
theorem dX7_made_75 : decode cX7_made 75 = .ok (.goto 4, 3) := by decide +kernel
theorem dX7_made_78 : decode cX7_made 78 = .ok (.iload_n 3, 1) := by decide +kernel
theorem dX7_made_79 : decode cX7_made 79 = .ok (.ireturn, 1) := by decide +kernel
theorem dX7_shorten_0 : decode cX7_shorten 0 = .ok (.aload_n 0, 1) := by decide +kernel
theorem dX7_shorten_1 : decode cX7_shorten 1 = .ok (.getfield 28, 3) := by decide +kernel
theorem dX7_shorten_4 : decode cX7_shorten 4 = .ok (.lstore_n 1, 1) := by decide +kernel
theorem dX7_shorten_5 : decode cX7_shorten 5 = .ok (.iconst 0, 1) := by decide +kernel
theorem dX7_shorten_6 : decode cX7_shorten 6 = .ok (.istore_n 3, 1) := by decide +kernel
theorem dX7_shorten_7 : decode cX7_shorten 7 = .ok (.iload_n 3, 1) := by decide +kernel
theorem dX7_shorten_8 : decode cX7_shorten 8 = .ok (.aload_n 0, 1) := by decide +kernel
theorem dX7_shorten_9 : decode cX7_shorten 9 = .ok (.getfield 129, 3) := by decide +kernel
theorem dX7_shorten_12 : decode cX7_shorten 12 = .ok (.if_icmp .ge 20, 3) := by decide +kernel
theorem dX7_shorten_15 : decode cX7_shorten 15 = .ok (.aload_n 0, 1) := by decide +kernel
theorem dX7_shorten_16 : decode cX7_shorten 16 = .ok (.getfield 24, 3) := by decide +kernel
theorem dX7_shorten_19 : decode cX7_shorten 19 = .ok (.iload_n 3, 1) := by decide +kernel
theorem dX7_shorten_20 : decode cX7_shorten 20 = .ok (.laload, 1) := by decide +kernel
theorem dX7_shorten_21 : decode cX7_shorten 21 = .ok (.lload_n 1, 1) := by decide +kernel
theorem dX7_shorten_22 : decode cX7_shorten 22 = .ok (.invokestatic 143, 3) := by decide +kernel
theorem dX7_shorten_25 : decode cX7_shorten 25 = .ok (.lstore_n 1, 1) := by decide +kernel
theorem dX7_shorten_26 : decode cX7_shorten 26 = .ok (.iinc 3 1, 3) := by decide +kernel
theorem dX7_shorten_29 : decode cX7_shorten 29 = .ok (.goto (-22), 3) := by decide +kernel
theorem dX7_shorten_32 : decode cX7_shorten 32 = .ok (.aload_n 0, 1) := by decide +kernel
theorem dX7_shorten_33 : decode cX7_shorten 33 = .ok (.dup, 1) := by decide +kernel
theorem dX7_shorten_34 : decode cX7_shorten 34 = .ok (.getfield 28, 3) := by decide +kernel
theorem dX7_shorten_37 : decode cX7_shorten 37 = .ok (.lload_n 1, 1) := by decide +kernel
theorem dX7_shorten_38 : decode cX7_shorten 38 = .ok (.ldiv, 1) := by decide +kernel
theorem dX7_shorten_39 : decode cX7_shorten 39 = .ok (.putfield 28, 3) := by decide +kernel
theorem dX7_shorten_42 : decode cX7_shorten 42 = .ok (.iconst 0, 1) := by decide +kernel
theorem dX7_shorten_43 : decode cX7_shorten 43 = .ok (.istore_n 3, 1) := by decide +kernel
theorem dX7_shorten_44 : decode cX7_shorten 44 = .ok (.iload_n 3, 1) := by decide +kernel
theorem dX7_shorten_45 : decode cX7_shorten 45 = .ok (.aload_n 0, 1) := by decide +kernel
theorem dX7_shorten_46 : decode cX7_shorten 46 = .ok (.getfield 129, 3) := by decide +kernel
theorem dX7_shorten_49 : decode cX7_shorten 49 = .ok (.if_icmp .ge 19, 3) := by decide +kernel
theorem dX7_shorten_52 : decode cX7_shorten 52 = .ok (.aload_n 0, 1) := by decide +kernel
theorem dX7_shorten_53 : decode cX7_shorten 53 = .ok (.getfield 24, 3) := by decide +kernel
theorem dX7_shorten_56 : decode cX7_shorten 56 = .ok (.iload_n 3, 1) := by decide +kernel
theorem dX7_shorten_57 : decode cX7_shorten 57 = .ok (.dup2, 1) := by decide +kernel
theorem dX7_shorten_58 : decode cX7_shorten 58 = .ok (.laload, 1) := by decide +kernel
theorem dX7_shorten_59 : decode cX7_shorten 59 = .ok (.lload_n 1, 1) := by decide +kernel
theorem dX7_shorten_60 : decode cX7_shorten 60 = .ok (.ldiv, 1) := by decide +kernel
theorem dX7_shorten_61 : decode cX7_shorten 61 = .ok (.lastore, 1) := by decide +kernel
theorem dX7_shorten_62 : decode cX7_shorten 62 = .ok (.iinc 3 1, 3) := by decide +kernel
theorem dX7_shorten_65 : decode cX7_shorten 65 = .ok (.goto (-21), 3) := by decide +kernel
theorem dX7_shorten_68 : decode cX7_shorten 68 = .ok (.return_, 1) := by decide +kernel
theorem dX7_isMade_0 : decode cX7_isMade 0 = .ok (.iload_n 0, 1) := by decide +kernel
theorem dX7_isMade_1 : decode cX7_isMade 1 = .ok (.i2l, 1) := by decide +kernel
theorem dX7_isMade_2 : decode cX7_isMade 2 = .ok (.lconst 0, 1) := by decide +kernel
theorem dX7_isMade_3 : decode cX7_isMade 3 = .ok (.ldc2_w 159, 3) := by decide +kernel
theorem dX7_isMade_6 : decode cX7_isMade 6 = .ok (.invokestatic 133, 3) := by decide +kernel
theorem dX7_isMade_9 : decode cX7_isMade 9 = .ok (.ifCond .eq 31, 3) := by decide +kernel
theorem dX7_isMade_12 : decode cX7_isMade 12 = .ok (.iload_n 1, 1) := by decide +kernel
theorem dX7_isMade_13 : decode cX7_isMade 13 = .ok (.i2l, 1) := by decide +kernel
theorem dX7_isMade_14 : decode cX7_isMade 14 = .ok (.lconst 1, 1) := by decide +kernel
theorem dX7_isMade_15 : decode cX7_isMade 15 = .ok (.ldc2_w 161, 3) := by decide +kernel
theorem dX7_isMade_18 : decode cX7_isMade 18 = .ok (.invokestatic 133, 3) := by decide +kernel
theorem dX7_isMade_21 : decode cX7_isMade 21 = .ok (.ifCond .eq 19, 3) := by decide +kernel
theorem dX7_isMade_24 : decode cX7_isMade 24 = .ok (.iload_n 2, 1) := by decide +kernel
theorem dX7_isMade_25 : decode cX7_isMade 25 = .ok (.i2l, 1) := by decide +kernel
theorem dX7_isMade_26 : decode cX7_isMade 26 = .ok (.lconst 1, 1) := by decide +kernel
theorem dX7_isMade_27 : decode cX7_isMade 27 = .ok (.ldc2_w 163, 3) := by decide +kernel
theorem dX7_isMade_30 : decode cX7_isMade 30 = .ok (.invokestatic 133, 3) := by decide +kernel
theorem dX7_isMade_33 : decode cX7_isMade 33 = .ok (.ifCond .eq 7, 3) := by decide +kernel
theorem dX7_isMade_36 : decode cX7_isMade 36 = .ok (.iconst 1, 1) := by decide +kernel
theorem dX7_isMade_37 : decode cX7_isMade 37 = .ok (.goto 4, 3) := by decide +kernel
theorem dX7_isMade_40 : decode cX7_isMade 40 = .ok (.iconst 0, 1) := by decide +kernel
theorem dX7_isMade_41 : decode cX7_isMade 41 = .ok (.ireturn, 1) := by decide +kernel
theorem dX7_cell_0 : decode cX7_cell 0 = .ok (.iload_n 1, 1) := by decide +kernel
theorem dX7_cell_1 : decode cX7_cell 1 = .ok (.iload_n 2, 1) := by decide +kernel
theorem dX7_cell_2 : decode cX7_cell 2 = .ok (.iload_n 3, 1) := by decide +kernel
theorem dX7_cell_3 : decode cX7_cell 3 = .ok (.invokestatic 165, 3) := by decide +kernel
theorem dX7_cell_6 : decode cX7_cell 6 = .ok (.ifCond .eq 16, 3) := by decide +kernel
theorem dX7_cell_9 : decode cX7_cell 9 = .ok (.iload 4, 2) := by decide +kernel
theorem dX7_cell_11 : decode cX7_cell 11 = .ok (.i2l, 1) := by decide +kernel
theorem dX7_cell_12 : decode cX7_cell 12 = .ok (.lconst 0, 1) := by decide +kernel
theorem dX7_cell_13 : decode cX7_cell 13 = .ok (.ldc2_w 169, 3) := by decide +kernel
theorem dX7_cell_16 : decode cX7_cell 16 = .ok (.invokestatic 133, 3) := by decide +kernel
theorem dX7_cell_19 : decode cX7_cell 19 = .ok (.ifCond .ne 6, 3) := by decide +kernel
theorem dX7_cell_22 : decode cX7_cell 22 = .ok (.bipush (-2), 2) := by decide +kernel
theorem dX7_cell_24 : decode cX7_cell 24 = .ok (.ireturn, 1) := by decide +kernel
theorem dX7_cell_25 : decode cX7_cell 25 = .ok (.aload_n 0, 1) := by decide +kernel
theorem dX7_cell_26 : decode cX7_cell 26 = .ok (.getfield 129, 3) := by decide +kernel
theorem dX7_cell_29 : decode cX7_cell 29 = .ok (.bipush 8, 2) := by decide +kernel
theorem dX7_cell_31 : decode cX7_cell 31 = .ok (.if_icmp .ne 6, 3) := by decide +kernel
theorem dX7_cell_34 : decode cX7_cell 34 = .ok (.bipush (-4), 2) := by decide +kernel
theorem dX7_cell_36 : decode cX7_cell 36 = .ok (.ireturn, 1) := by decide +kernel
theorem dX7_cell_37 : decode cX7_cell 37 = .ok (.aload_n 0, 1) := by decide +kernel
theorem dX7_cell_38 : decode cX7_cell 38 = .ok (.getfield 11, 3) := by decide +kernel
theorem dX7_cell_41 : decode cX7_cell 41 = .ok (.aload_n 0, 1) := by decide +kernel
theorem dX7_cell_42 : decode cX7_cell 42 = .ok (.getfield 129, 3) := by decide +kernel
theorem dX7_cell_45 : decode cX7_cell 45 = .ok (.iload_n 1, 1) := by decide +kernel
theorem dX7_cell_46 : decode cX7_cell 46 = .ok (.iastore, 1) := by decide +kernel
theorem dX7_cell_47 : decode cX7_cell 47 = .ok (.aload_n 0, 1) := by decide +kernel
theorem dX7_cell_48 : decode cX7_cell 48 = .ok (.getfield 15, 3) := by decide +kernel
theorem dX7_cell_51 : decode cX7_cell 51 = .ok (.aload_n 0, 1) := by decide +kernel
theorem dX7_cell_52 : decode cX7_cell 52 = .ok (.getfield 129, 3) := by decide +kernel
theorem dX7_cell_55 : decode cX7_cell 55 = .ok (.iload_n 2, 1) := by decide +kernel
theorem dX7_cell_56 : decode cX7_cell 56 = .ok (.iastore, 1) := by decide +kernel
theorem dX7_cell_57 : decode cX7_cell 57 = .ok (.aload_n 0, 1) := by decide +kernel
theorem dX7_cell_58 : decode cX7_cell 58 = .ok (.getfield 18, 3) := by decide +kernel
theorem dX7_cell_61 : decode cX7_cell 61 = .ok (.aload_n 0, 1) := by decide +kernel
theorem dX7_cell_62 : decode cX7_cell 62 = .ok (.getfield 129, 3) := by decide +kernel
theorem dX7_cell_65 : decode cX7_cell 65 = .ok (.iload_n 3, 1) := by decide +kernel
theorem dX7_cell_66 : decode cX7_cell 66 = .ok (.iastore, 1) := by decide +kernel
theorem dX7_cell_67 : decode cX7_cell 67 = .ok (.aload_n 0, 1) := by decide +kernel
theorem dX7_cell_68 : decode cX7_cell 68 = .ok (.getfield 21, 3) := by decide +kernel
theorem dX7_cell_71 : decode cX7_cell 71 = .ok (.aload_n 0, 1) := by decide +kernel
theorem dX7_cell_72 : decode cX7_cell 72 = .ok (.getfield 129, 3) := by decide +kernel
theorem dX7_cell_75 : decode cX7_cell 75 = .ok (.iconst 0, 1) := by decide +kernel
theorem dX7_cell_76 : decode cX7_cell 76 = .ok (.iastore, 1) := by decide +kernel
theorem dX7_cell_77 : decode cX7_cell 77 = .ok (.aload_n 0, 1) := by decide +kernel
theorem dX7_cell_78 : decode cX7_cell 78 = .ok (.getfield 24, 3) := by decide +kernel
theorem dX7_cell_81 : decode cX7_cell 81 = .ok (.aload_n 0, 1) := by decide +kernel
theorem dX7_cell_82 : decode cX7_cell 82 = .ok (.getfield 129, 3) := by decide +kernel
theorem dX7_cell_85 : decode cX7_cell 85 = .ok (.iload 4, 2) := by decide +kernel
theorem dX7_cell_87 : decode cX7_cell 87 = .ok (.i2l, 1) := by decide +kernel
theorem dX7_cell_88 : decode cX7_cell 88 = .ok (.aload_n 0, 1) := by decide +kernel
theorem dX7_cell_89 : decode cX7_cell 89 = .ok (.getfield 28, 3) := by decide +kernel
theorem dX7_cell_92 : decode cX7_cell 92 = .ok (.lmul, 1) := by decide +kernel
theorem dX7_cell_93 : decode cX7_cell 93 = .ok (.lastore, 1) := by decide +kernel
theorem dX7_cell_94 : decode cX7_cell 94 = .ok (.aload_n 0, 1) := by decide +kernel
theorem dX7_cell_95 : decode cX7_cell 95 = .ok (.dup, 1) := by decide +kernel
theorem dX7_cell_96 : decode cX7_cell 96 = .ok (.getfield 129, 3) := by decide +kernel
theorem dX7_cell_99 : decode cX7_cell 99 = .ok (.iconst 1, 1) := by decide +kernel
theorem dX7_cell_100 : decode cX7_cell 100 = .ok (.iadd, 1) := by decide +kernel
theorem dX7_cell_101 : decode cX7_cell 101 = .ok (.putfield 129, 3) := by decide +kernel
theorem dX7_cell_104 : decode cX7_cell 104 = .ok (.aload_n 0, 1) := by decide +kernel
theorem dX7_cell_105 : decode cX7_cell 105 = .ok (.getfield 129, 3) := by decide +kernel
theorem dX7_cell_108 : decode cX7_cell 108 = .ok (.iconst 1, 1) := by decide +kernel
theorem dX7_cell_109 : decode cX7_cell 109 = .ok (.isub, 1) := by decide +kernel
theorem dX7_cell_110 : decode cX7_cell 110 = .ok (.ireturn, 1) := by decide +kernel
theorem dX7_drop_0 : decode cX7_drop 0 = .ok (.aload_n 0, 1) := by decide +kernel
theorem dX7_drop_1 : decode cX7_drop 1 = .ok (.getfield 129, 3) := by decide +kernel
theorem dX7_drop_4 : decode cX7_drop 4 = .ok (.ifCond .ne 6, 3) := by decide +kernel
theorem dX7_drop_7 : decode cX7_drop 7 = .ok (.bipush (-3), 2) := by decide +kernel
theorem dX7_drop_9 : decode cX7_drop 9 = .ok (.ireturn, 1) := by decide +kernel
theorem dX7_drop_10 : decode cX7_drop 10 = .ok (.aload_n 0, 1) := by decide +kernel
theorem dX7_drop_11 : decode cX7_drop 11 = .ok (.aload_n 0, 1) := by decide +kernel
theorem dX7_drop_12 : decode cX7_drop 12 = .ok (.getfield 129, 3) := by decide +kernel
theorem dX7_drop_15 : decode cX7_drop 15 = .ok (.iconst 1, 1) := by decide +kernel
theorem dX7_drop_16 : decode cX7_drop 16 = .ok (.isub, 1) := by decide +kernel
theorem dX7_drop_17 : decode cX7_drop 17 = .ok (.invokevirtual 171, 3) := by decide +kernel
theorem dX7_drop_20 : decode cX7_drop 20 = .ok (.pop, 1) := by decide +kernel
theorem dX7_drop_21 : decode cX7_drop 21 = .ok (.aload_n 0, 1) := by decide +kernel
theorem dX7_drop_22 : decode cX7_drop 22 = .ok (.dup, 1) := by decide +kernel
theorem dX7_drop_23 : decode cX7_drop 23 = .ok (.getfield 129, 3) := by decide +kernel
theorem dX7_drop_26 : decode cX7_drop 26 = .ok (.iconst 1, 1) := by decide +kernel
theorem dX7_drop_27 : decode cX7_drop 27 = .ok (.isub, 1) := by decide +kernel
theorem dX7_drop_28 : decode cX7_drop 28 = .ok (.putfield 129, 3) := by decide +kernel
theorem dX7_drop_31 : decode cX7_drop 31 = .ok (.aload_n 0, 1) := by decide +kernel
theorem dX7_drop_32 : decode cX7_drop 32 = .ok (.invokevirtual 174, 3) := by decide +kernel
theorem dX7_drop_35 : decode cX7_drop 35 = .ok (.aload_n 0, 1) := by decide +kernel
theorem dX7_drop_36 : decode cX7_drop 36 = .ok (.getfield 129, 3) := by decide +kernel
theorem dX7_drop_39 : decode cX7_drop 39 = .ok (.ireturn, 1) := by decide +kernel
theorem dX7_set_0 : decode cX7_set 0 = .ok (.aload_n 0, 1) := by decide +kernel
theorem dX7_set_1 : decode cX7_set 1 = .ok (.iload_n 1, 1) := by decide +kernel
theorem dX7_set_2 : decode cX7_set 2 = .ok (.invokevirtual 177, 3) := by decide +kernel
theorem dX7_set_5 : decode cX7_set 5 = .ok (.ifCond .eq 15, 3) := by decide +kernel
theorem dX7_set_8 : decode cX7_set 8 = .ok (.iload_n 2, 1) := by decide +kernel
theorem dX7_set_9 : decode cX7_set 9 = .ok (.i2l, 1) := by decide +kernel
theorem dX7_set_10 : decode cX7_set 10 = .ok (.lconst 0, 1) := by decide +kernel
theorem dX7_set_11 : decode cX7_set 11 = .ok (.ldc2_w 181, 3) := by decide +kernel
theorem dX7_set_14 : decode cX7_set 14 = .ok (.invokestatic 133, 3) := by decide +kernel
theorem dX7_set_17 : decode cX7_set 17 = .ok (.ifCond .ne 7, 3) := by decide +kernel
theorem dX7_set_20 : decode cX7_set 20 = .ok (.sipush (-1000), 3) := by decide +kernel
theorem dX7_set_23 : decode cX7_set 23 = .ok (.ireturn, 1) := by decide +kernel
theorem dX7_set_24 : decode cX7_set 24 = .ok (.iload_n 2, 1) := by decide +kernel
theorem dX7_set_25 : decode cX7_set 25 = .ok (.ifCond .ne 15, 3) := by decide +kernel
theorem dX7_set_28 : decode cX7_set 28 = .ok (.iload_n 3, 1) := by decide +kernel
theorem dX7_set_29 : decode cX7_set 29 = .ok (.i2l, 1) := by decide +kernel
theorem dX7_set_30 : decode cX7_set 30 = .ok (.lconst 1, 1) := by decide +kernel
theorem dX7_set_31 : decode cX7_set 31 = .ok (.ldc2_w 161, 3) := by decide +kernel
theorem dX7_set_34 : decode cX7_set 34 = .ok (.invokestatic 133, 3) := by decide +kernel
theorem dX7_set_37 : decode cX7_set 37 = .ok (.goto 48, 3) := by decide +kernel
theorem dX7_set_40 : decode cX7_set 40 = .ok (.iload_n 2, 1) := by decide +kernel
theorem dX7_set_41 : decode cX7_set 41 = .ok (.iconst 1, 1) := by decide +kernel
theorem dX7_set_42 : decode cX7_set 42 = .ok (.if_icmp .ne 15, 3) := by decide +kernel
theorem dX7_set_45 : decode cX7_set 45 = .ok (.iload_n 3, 1) := by decide +kernel
theorem dX7_set_46 : decode cX7_set 46 = .ok (.i2l, 1) := by decide +kernel
theorem dX7_set_47 : decode cX7_set 47 = .ok (.lconst 1, 1) := by decide +kernel
theorem dX7_set_48 : decode cX7_set 48 = .ok (.ldc2_w 163, 3) := by decide +kernel
theorem dX7_set_51 : decode cX7_set 51 = .ok (.invokestatic 133, 3) := by decide +kernel
theorem dX7_set_54 : decode cX7_set 54 = .ok (.goto 31, 3) := by decide +kernel
theorem dX7_set_57 : decode cX7_set 57 = .ok (.iload_n 2, 1) := by decide +kernel
theorem dX7_set_58 : decode cX7_set 58 = .ok (.iconst 2, 1) := by decide +kernel
theorem dX7_set_59 : decode cX7_set 59 = .ok (.if_icmp .ne 15, 3) := by decide +kernel
theorem dX7_set_62 : decode cX7_set 62 = .ok (.iload_n 3, 1) := by decide +kernel
theorem dX7_set_63 : decode cX7_set 63 = .ok (.i2l, 1) := by decide +kernel
theorem dX7_set_64 : decode cX7_set 64 = .ok (.lconst 0, 1) := by decide +kernel
theorem dX7_set_65 : decode cX7_set 65 = .ok (.ldc2_w 159, 3) := by decide +kernel
theorem dX7_set_68 : decode cX7_set 68 = .ok (.invokestatic 133, 3) := by decide +kernel
theorem dX7_set_71 : decode cX7_set 71 = .ok (.goto 14, 3) := by decide +kernel
theorem dX7_set_74 : decode cX7_set 74 = .ok (.iload_n 3, 1) := by decide +kernel
theorem dX7_set_75 : decode cX7_set 75 = .ok (.i2l, 1) := by decide +kernel
theorem dX7_set_76 : decode cX7_set 76 = .ok (.ldc2_w 183, 3) := by decide +kernel
theorem dX7_set_79 : decode cX7_set 79 = .ok (.ldc2_w 161, 3) := by decide +kernel
theorem dX7_set_82 : decode cX7_set 82 = .ok (.invokestatic 133, 3) := by decide +kernel
theorem dX7_set_85 : decode cX7_set 85 = .ok (.istore 4, 2) := by decide +kernel
theorem dX7_set_87 : decode cX7_set 87 = .ok (.iload 4, 2) := by decide +kernel
theorem dX7_set_89 : decode cX7_set 89 = .ok (.ifCond .ne 7, 3) := by decide +kernel
theorem dX7_set_92 : decode cX7_set 92 = .ok (.sipush (-1000), 3) := by decide +kernel
theorem dX7_set_95 : decode cX7_set 95 = .ok (.ireturn, 1) := by decide +kernel
theorem dX7_set_96 : decode cX7_set 96 = .ok (.iload_n 2, 1) := by decide +kernel
theorem dX7_set_97 : decode cX7_set 97 = .ok (.ifCond .ne 12, 3) := by decide +kernel
theorem dX7_set_100 : decode cX7_set 100 = .ok (.aload_n 0, 1) := by decide +kernel
theorem dX7_set_101 : decode cX7_set 101 = .ok (.getfield 15, 3) := by decide +kernel
theorem dX7_set_104 : decode cX7_set 104 = .ok (.iload_n 1, 1) := by decide +kernel
theorem dX7_set_105 : decode cX7_set 105 = .ok (.iaload, 1) := by decide +kernel
theorem dX7_set_106 : decode cX7_set 106 = .ok (.goto 37, 3) := by decide +kernel
theorem dX7_set_109 : decode cX7_set 109 = .ok (.iload_n 2, 1) := by decide +kernel
theorem dX7_set_110 : decode cX7_set 110 = .ok (.iconst 1, 1) := by decide +kernel
theorem dX7_set_111 : decode cX7_set 111 = .ok (.if_icmp .ne 12, 3) := by decide +kernel
theorem dX7_set_114 : decode cX7_set 114 = .ok (.aload_n 0, 1) := by decide +kernel
theorem dX7_set_115 : decode cX7_set 115 = .ok (.getfield 18, 3) := by decide +kernel
theorem dX7_set_118 : decode cX7_set 118 = .ok (.iload_n 1, 1) := by decide +kernel
theorem dX7_set_119 : decode cX7_set 119 = .ok (.iaload, 1) := by decide +kernel
theorem dX7_set_120 : decode cX7_set 120 = .ok (.goto 23, 3) := by decide +kernel
theorem dX7_set_123 : decode cX7_set 123 = .ok (.iload_n 2, 1) := by decide +kernel
theorem dX7_set_124 : decode cX7_set 124 = .ok (.iconst 2, 1) := by decide +kernel
theorem dX7_set_125 : decode cX7_set 125 = .ok (.if_icmp .ne 12, 3) := by decide +kernel
theorem dX7_set_128 : decode cX7_set 128 = .ok (.aload_n 0, 1) := by decide +kernel
theorem dX7_set_129 : decode cX7_set 129 = .ok (.getfield 11, 3) := by decide +kernel
theorem dX7_set_132 : decode cX7_set 132 = .ok (.iload_n 1, 1) := by decide +kernel
theorem dX7_set_133 : decode cX7_set 133 = .ok (.iaload, 1) := by decide +kernel
theorem dX7_set_134 : decode cX7_set 134 = .ok (.goto 9, 3) := by decide +kernel
theorem dX7_set_137 : decode cX7_set 137 = .ok (.aload_n 0, 1) := by decide +kernel
theorem dX7_set_138 : decode cX7_set 138 = .ok (.getfield 21, 3) := by decide +kernel
theorem dX7_set_141 : decode cX7_set 141 = .ok (.iload_n 1, 1) := by decide +kernel
theorem dX7_set_142 : decode cX7_set 142 = .ok (.iaload, 1) := by decide +kernel
theorem dX7_set_143 : decode cX7_set 143 = .ok (.istore 5, 2) := by decide +kernel
theorem dX7_set_145 : decode cX7_set 145 = .ok (.iload_n 2, 1) := by decide +kernel
theorem dX7_set_146 : decode cX7_set 146 = .ok (.ifCond .ne 13, 3) := by decide +kernel
theorem dX7_set_149 : decode cX7_set 149 = .ok (.aload_n 0, 1) := by decide +kernel
theorem dX7_set_150 : decode cX7_set 150 = .ok (.getfield 15, 3) := by decide +kernel
theorem dX7_set_153 : decode cX7_set 153 = .ok (.iload_n 1, 1) := by decide +kernel
theorem dX7_set_154 : decode cX7_set 154 = .ok (.iload_n 3, 1) := by decide +kernel
theorem dX7_set_155 : decode cX7_set 155 = .ok (.iastore, 1) := by decide +kernel
theorem dX7_set_156 : decode cX7_set 156 = .ok (.goto 40, 3) := by decide +kernel
theorem dX7_set_159 : decode cX7_set 159 = .ok (.iload_n 2, 1) := by decide +kernel
theorem dX7_set_160 : decode cX7_set 160 = .ok (.iconst 1, 1) := by decide +kernel
theorem dX7_set_161 : decode cX7_set 161 = .ok (.if_icmp .ne 13, 3) := by decide +kernel
theorem dX7_set_164 : decode cX7_set 164 = .ok (.aload_n 0, 1) := by decide +kernel
theorem dX7_set_165 : decode cX7_set 165 = .ok (.getfield 18, 3) := by decide +kernel
theorem dX7_set_168 : decode cX7_set 168 = .ok (.iload_n 1, 1) := by decide +kernel
theorem dX7_set_169 : decode cX7_set 169 = .ok (.iload_n 3, 1) := by decide +kernel
theorem dX7_set_170 : decode cX7_set 170 = .ok (.iastore, 1) := by decide +kernel
theorem dX7_set_171 : decode cX7_set 171 = .ok (.goto 25, 3) := by decide +kernel
theorem dX7_set_174 : decode cX7_set 174 = .ok (.iload_n 2, 1) := by decide +kernel
theorem dX7_set_175 : decode cX7_set 175 = .ok (.iconst 2, 1) := by decide +kernel
theorem dX7_set_176 : decode cX7_set 176 = .ok (.if_icmp .ne 13, 3) := by decide +kernel
theorem dX7_set_179 : decode cX7_set 179 = .ok (.aload_n 0, 1) := by decide +kernel
theorem dX7_set_180 : decode cX7_set 180 = .ok (.getfield 11, 3) := by decide +kernel
theorem dX7_set_183 : decode cX7_set 183 = .ok (.iload_n 1, 1) := by decide +kernel
theorem dX7_set_184 : decode cX7_set 184 = .ok (.iload_n 3, 1) := by decide +kernel
theorem dX7_set_185 : decode cX7_set 185 = .ok (.iastore, 1) := by decide +kernel
theorem dX7_set_186 : decode cX7_set 186 = .ok (.goto 10, 3) := by decide +kernel
theorem dX7_set_189 : decode cX7_set 189 = .ok (.aload_n 0, 1) := by decide +kernel
theorem dX7_set_190 : decode cX7_set 190 = .ok (.getfield 21, 3) := by decide +kernel
theorem dX7_set_193 : decode cX7_set 193 = .ok (.iload_n 1, 1) := by decide +kernel
theorem dX7_set_194 : decode cX7_set 194 = .ok (.iload_n 3, 1) := by decide +kernel
theorem dX7_set_195 : decode cX7_set 195 = .ok (.iastore, 1) := by decide +kernel
theorem dX7_set_196 : decode cX7_set 196 = .ok (.iload 5, 2) := by decide +kernel
theorem dX7_set_198 : decode cX7_set 198 = .ok (.ireturn, 1) := by decide +kernel
theorem dX7_heat_0 : decode cX7_heat 0 = .ok (.aload_n 0, 1) := by decide +kernel
theorem dX7_heat_1 : decode cX7_heat 1 = .ok (.iload_n 1, 1) := by decide +kernel
theorem dX7_heat_2 : decode cX7_heat 2 = .ok (.invokevirtual 177, 3) := by decide +kernel
theorem dX7_heat_5 : decode cX7_heat 5 = .ok (.ifCond .eq 15, 3) := by decide +kernel
theorem dX7_heat_8 : decode cX7_heat 8 = .ok (.iload_n 2, 1) := by decide +kernel
theorem dX7_heat_9 : decode cX7_heat 9 = .ok (.i2l, 1) := by decide +kernel
theorem dX7_heat_10 : decode cX7_heat 10 = .ok (.lconst 0, 1) := by decide +kernel
theorem dX7_heat_11 : decode cX7_heat 11 = .ok (.ldc2_w 169, 3) := by decide +kernel
theorem dX7_heat_14 : decode cX7_heat 14 = .ok (.invokestatic 133, 3) := by decide +kernel
theorem dX7_heat_17 : decode cX7_heat 17 = .ok (.ifCond .ne 6, 3) := by decide +kernel
theorem dX7_heat_20 : decode cX7_heat 20 = .ok (.bipush (-2), 2) := by decide +kernel
theorem dX7_heat_22 : decode cX7_heat 22 = .ok (.ireturn, 1) := by decide +kernel
theorem dX7_heat_23 : decode cX7_heat 23 = .ok (.aload_n 0, 1) := by decide +kernel
theorem dX7_heat_24 : decode cX7_heat 24 = .ok (.getfield 24, 3) := by decide +kernel
theorem dX7_heat_27 : decode cX7_heat 27 = .ok (.iload_n 1, 1) := by decide +kernel
theorem dX7_heat_28 : decode cX7_heat 28 = .ok (.iload_n 2, 1) := by decide +kernel
theorem dX7_heat_29 : decode cX7_heat 29 = .ok (.i2l, 1) := by decide +kernel
theorem dX7_heat_30 : decode cX7_heat 30 = .ok (.aload_n 0, 1) := by decide +kernel
theorem dX7_heat_31 : decode cX7_heat 31 = .ok (.getfield 28, 3) := by decide +kernel
theorem dX7_heat_34 : decode cX7_heat 34 = .ok (.lmul, 1) := by decide +kernel
theorem dX7_heat_35 : decode cX7_heat 35 = .ok (.lastore, 1) := by decide +kernel
theorem dX7_heat_36 : decode cX7_heat 36 = .ok (.aload_n 0, 1) := by decide +kernel
theorem dX7_heat_37 : decode cX7_heat 37 = .ok (.invokevirtual 174, 3) := by decide +kernel
theorem dX7_heat_40 : decode cX7_heat 40 = .ok (.iconst 1, 1) := by decide +kernel
theorem dX7_heat_41 : decode cX7_heat 41 = .ok (.ireturn, 1) := by decide +kernel
theorem dX7_of_0 : decode cX7_of 0 = .ok (.aload_n 0, 1) := by decide +kernel
theorem dX7_of_1 : decode cX7_of 1 = .ok (.iload_n 1, 1) := by decide +kernel
theorem dX7_of_2 : decode cX7_of 2 = .ok (.invokevirtual 177, 3) := by decide +kernel
theorem dX7_of_5 : decode cX7_of 5 = .ok (.ifCond .ne 7, 3) := by decide +kernel
theorem dX7_of_8 : decode cX7_of 8 = .ok (.sipush (-1000), 3) := by decide +kernel
theorem dX7_of_11 : decode cX7_of 11 = .ok (.ireturn, 1) := by decide +kernel
theorem dX7_of_12 : decode cX7_of 12 = .ok (.iload_n 2, 1) := by decide +kernel
theorem dX7_of_13 : decode cX7_of 13 = .ok (.tableswitch 99 0 7 #[47, 54, 61, 68, 75, 81, 87, 93], 47) := by decide +kernel
theorem dX7_of_60 : decode cX7_of 60 = .ok (.aload_n 0, 1) := by decide +kernel
theorem dX7_of_61 : decode cX7_of 61 = .ok (.getfield 11, 3) := by decide +kernel
theorem dX7_of_64 : decode cX7_of 64 = .ok (.iload_n 1, 1) := by decide +kernel
theorem dX7_of_65 : decode cX7_of 65 = .ok (.iaload, 1) := by decide +kernel
theorem dX7_of_66 : decode cX7_of 66 = .ok (.ireturn, 1) := by decide +kernel
theorem dX7_of_67 : decode cX7_of 67 = .ok (.aload_n 0, 1) := by decide +kernel
theorem dX7_of_68 : decode cX7_of 68 = .ok (.getfield 15, 3) := by decide +kernel
theorem dX7_of_71 : decode cX7_of 71 = .ok (.iload_n 1, 1) := by decide +kernel
theorem dX7_of_72 : decode cX7_of 72 = .ok (.iaload, 1) := by decide +kernel
theorem dX7_of_73 : decode cX7_of 73 = .ok (.ireturn, 1) := by decide +kernel
theorem dX7_of_74 : decode cX7_of 74 = .ok (.aload_n 0, 1) := by decide +kernel
theorem dX7_of_75 : decode cX7_of 75 = .ok (.getfield 18, 3) := by decide +kernel
theorem dX7_of_78 : decode cX7_of 78 = .ok (.iload_n 1, 1) := by decide +kernel
theorem dX7_of_79 : decode cX7_of 79 = .ok (.iaload, 1) := by decide +kernel
theorem dX7_of_80 : decode cX7_of 80 = .ok (.ireturn, 1) := by decide +kernel
theorem dX7_of_81 : decode cX7_of 81 = .ok (.aload_n 0, 1) := by decide +kernel
theorem dX7_of_82 : decode cX7_of 82 = .ok (.getfield 21, 3) := by decide +kernel
theorem dX7_of_85 : decode cX7_of 85 = .ok (.iload_n 1, 1) := by decide +kernel
theorem dX7_of_86 : decode cX7_of 86 = .ok (.iaload, 1) := by decide +kernel
theorem dX7_of_87 : decode cX7_of 87 = .ok (.ireturn, 1) := by decide +kernel
theorem dX7_of_88 : decode cX7_of 88 = .ok (.aload_n 0, 1) := by decide +kernel
theorem dX7_of_89 : decode cX7_of 89 = .ok (.iload_n 1, 1) := by decide +kernel
theorem dX7_of_90 : decode cX7_of 90 = .ok (.invokevirtual 185, 3) := by decide +kernel
theorem dX7_of_93 : decode cX7_of 93 = .ok (.ireturn, 1) := by decide +kernel
theorem dX7_of_94 : decode cX7_of 94 = .ok (.aload_n 0, 1) := by decide +kernel
theorem dX7_of_95 : decode cX7_of 95 = .ok (.iload_n 1, 1) := by decide +kernel
theorem dX7_of_96 : decode cX7_of 96 = .ok (.invokevirtual 188, 3) := by decide +kernel
theorem dX7_of_99 : decode cX7_of 99 = .ok (.ireturn, 1) := by decide +kernel
theorem dX7_of_100 : decode cX7_of 100 = .ok (.aload_n 0, 1) := by decide +kernel
theorem dX7_of_101 : decode cX7_of 101 = .ok (.iload_n 1, 1) := by decide +kernel
theorem dX7_of_102 : decode cX7_of 102 = .ok (.invokevirtual 191, 3) := by decide +kernel
theorem dX7_of_105 : decode cX7_of 105 = .ok (.ireturn, 1) := by decide +kernel
theorem dX7_of_106 : decode cX7_of 106 = .ok (.aload_n 0, 1) := by decide +kernel
theorem dX7_of_107 : decode cX7_of 107 = .ok (.iload_n 1, 1) := by decide +kernel
theorem dX7_of_108 : decode cX7_of 108 = .ok (.invokevirtual 194, 3) := by decide +kernel
theorem dX7_of_111 : decode cX7_of 111 = .ok (.ireturn, 1) := by decide +kernel
theorem dX7_of_112 : decode cX7_of 112 = .ok (.sipush (-1000), 3) := by decide +kernel
theorem dX7_of_115 : decode cX7_of 115 = .ok (.ireturn, 1) := by decide +kernel
theorem dX7_taken_0 : decode cX7_taken 0 = .ok (.aload_n 0, 1) := by decide +kernel
theorem dX7_taken_1 : decode cX7_taken 1 = .ok (.iload_n 1, 1) := by decide +kernel
theorem dX7_taken_2 : decode cX7_taken 2 = .ok (.invokevirtual 177, 3) := by decide +kernel
theorem dX7_taken_5 : decode cX7_taken 5 = .ok (.ifCond .eq 15, 3) := by decide +kernel
theorem dX7_taken_8 : decode cX7_taken 8 = .ok (.iload_n 2, 1) := by decide +kernel
theorem dX7_taken_9 : decode cX7_taken 9 = .ok (.i2l, 1) := by decide +kernel
theorem dX7_taken_10 : decode cX7_taken 10 = .ok (.lconst 0, 1) := by decide +kernel
theorem dX7_taken_11 : decode cX7_taken 11 = .ok (.ldc2_w 159, 3) := by decide +kernel
theorem dX7_taken_14 : decode cX7_taken 14 = .ok (.invokestatic 133, 3) := by decide +kernel
theorem dX7_taken_17 : decode cX7_taken 17 = .ok (.ifCond .ne 6, 3) := by decide +kernel
theorem dX7_taken_20 : decode cX7_taken 20 = .ok (.bipush (-2), 2) := by decide +kernel
theorem dX7_taken_22 : decode cX7_taken 22 = .ok (.ireturn, 1) := by decide +kernel
theorem dX7_taken_23 : decode cX7_taken 23 = .ok (.aload_n 0, 1) := by decide +kernel
theorem dX7_taken_24 : decode cX7_taken 24 = .ok (.getfield 11, 3) := by decide +kernel
theorem dX7_taken_27 : decode cX7_taken 27 = .ok (.iload_n 1, 1) := by decide +kernel
theorem dX7_taken_28 : decode cX7_taken 28 = .ok (.iaload, 1) := by decide +kernel
theorem dX7_taken_29 : decode cX7_taken 29 = .ok (.iload_n 2, 1) := by decide +kernel
theorem dX7_taken_30 : decode cX7_taken 30 = .ok (.invokestatic 155, 3) := by decide +kernel
theorem dX7_taken_33 : decode cX7_taken 33 = .ok (.ifCond .eq 12, 3) := by decide +kernel
theorem dX7_taken_36 : decode cX7_taken 36 = .ok (.aload_n 0, 1) := by decide +kernel
theorem dX7_taken_37 : decode cX7_taken 37 = .ok (.getfield 15, 3) := by decide +kernel
theorem dX7_taken_40 : decode cX7_taken 40 = .ok (.iload_n 1, 1) := by decide +kernel
theorem dX7_taken_41 : decode cX7_taken 41 = .ok (.iaload, 1) := by decide +kernel
theorem dX7_taken_42 : decode cX7_taken 42 = .ok (.goto 5, 3) := by decide +kernel
theorem dX7_taken_45 : decode cX7_taken 45 = .ok (.bipush (-13), 2) := by decide +kernel
theorem dX7_taken_47 : decode cX7_taken 47 = .ok (.ireturn, 1) := by decide +kernel
theorem dX7_kin_0 : decode cX7_kin 0 = .ok (.iload_n 1, 1) := by decide +kernel
theorem dX7_kin_1 : decode cX7_kin 1 = .ok (.i2l, 1) := by decide +kernel
theorem dX7_kin_2 : decode cX7_kin 2 = .ok (.lconst 0, 1) := by decide +kernel
theorem dX7_kin_3 : decode cX7_kin 3 = .ok (.ldc2_w 159, 3) := by decide +kernel
theorem dX7_kin_6 : decode cX7_kin 6 = .ok (.invokestatic 133, 3) := by decide +kernel
theorem dX7_kin_9 : decode cX7_kin 9 = .ok (.ifCond .ne 6, 3) := by decide +kernel
theorem dX7_kin_12 : decode cX7_kin 12 = .ok (.bipush (-2), 2) := by decide +kernel
theorem dX7_kin_14 : decode cX7_kin 14 = .ok (.ireturn, 1) := by decide +kernel
theorem dX7_kin_15 : decode cX7_kin 15 = .ok (.iconst 0, 1) := by decide +kernel
theorem dX7_kin_16 : decode cX7_kin 16 = .ok (.istore_n 2, 1) := by decide +kernel
theorem dX7_kin_17 : decode cX7_kin 17 = .ok (.iconst 0, 1) := by decide +kernel
theorem dX7_kin_18 : decode cX7_kin 18 = .ok (.istore_n 3, 1) := by decide +kernel
theorem dX7_kin_19 : decode cX7_kin 19 = .ok (.iload_n 3, 1) := by decide +kernel
theorem dX7_kin_20 : decode cX7_kin 20 = .ok (.bipush 6, 2) := by decide +kernel
theorem dX7_kin_22 : decode cX7_kin 22 = .ok (.if_icmp .ge 27, 3) := by decide +kernel
theorem dX7_kin_25 : decode cX7_kin 25 = .ok (.iload_n 2, 1) := by decide +kernel
theorem dX7_kin_26 : decode cX7_kin 26 = .ok (.iload_n 1, 1) := by decide +kernel
theorem dX7_kin_27 : decode cX7_kin 27 = .ok (.iload_n 3, 1) := by decide +kernel
theorem dX7_kin_28 : decode cX7_kin 28 = .ok (.invokestatic 155, 3) := by decide +kernel
theorem dX7_kin_31 : decode cX7_kin 31 = .ok (.ifCond .eq 9, 3) := by decide +kernel
theorem dX7_kin_34 : decode cX7_kin 34 = .ok (.iconst 1, 1) := by decide +kernel
theorem dX7_kin_35 : decode cX7_kin 35 = .ok (.iload_n 3, 1) := by decide +kernel
theorem dX7_kin_36 : decode cX7_kin 36 = .ok (.ishl, 1) := by decide +kernel
theorem dX7_kin_37 : decode cX7_kin 37 = .ok (.goto 4, 3) := by decide +kernel
theorem dX7_kin_40 : decode cX7_kin 40 = .ok (.iconst 0, 1) := by decide +kernel
theorem dX7_kin_41 : decode cX7_kin 41 = .ok (.ior, 1) := by decide +kernel
theorem dX7_kin_42 : decode cX7_kin 42 = .ok (.istore_n 2, 1) := by decide +kernel
theorem dX7_kin_43 : decode cX7_kin 43 = .ok (.iinc 3 1, 3) := by decide +kernel
theorem dX7_kin_46 : decode cX7_kin 46 = .ok (.goto (-27), 3) := by decide +kernel
theorem dX7_kin_49 : decode cX7_kin 49 = .ok (.iload_n 2, 1) := by decide +kernel
theorem dX7_kin_50 : decode cX7_kin 50 = .ok (.ireturn, 1) := by decide +kernel
theorem dX7_end_0 : decode cX7_end 0 = .ok (.iload_n 1, 1) := by decide +kernel
theorem dX7_end_1 : decode cX7_end 1 = .ok (.i2l, 1) := by decide +kernel
theorem dX7_end_2 : decode cX7_end 2 = .ok (.lconst 0, 1) := by decide +kernel
theorem dX7_end_3 : decode cX7_end 3 = .ok (.lconst 1, 1) := by decide +kernel
theorem dX7_end_4 : decode cX7_end 4 = .ok (.invokestatic 133, 3) := by decide +kernel
theorem dX7_end_7 : decode cX7_end 7 = .ok (.ifCond .eq 17, 3) := by decide +kernel
theorem dX7_end_10 : decode cX7_end 10 = .ok (.iload_n 2, 1) := by decide +kernel
theorem dX7_end_11 : decode cX7_end 11 = .ok (.i2l, 1) := by decide +kernel
theorem dX7_end_12 : decode cX7_end 12 = .ok (.ldc2_w 197, 3) := by decide +kernel
theorem dX7_end_15 : decode cX7_end 15 = .ok (.ldc2_w 169, 3) := by decide +kernel
theorem dX7_end_18 : decode cX7_end 18 = .ok (.invokestatic 133, 3) := by decide +kernel
theorem dX7_end_21 : decode cX7_end 21 = .ok (.ifCond .ne 7, 3) := by decide +kernel
theorem dX7_end_24 : decode cX7_end 24 = .ok (.sipush (-1000), 3) := by decide +kernel
theorem dX7_end_27 : decode cX7_end 27 = .ok (.ireturn, 1) := by decide +kernel
theorem dX7_end_28 : decode cX7_end 28 = .ok (.aload_n 0, 1) := by decide +kernel
theorem dX7_end_29 : decode cX7_end 29 = .ok (.getfield 32, 3) := by decide +kernel
theorem dX7_end_32 : decode cX7_end 32 = .ok (.iload_n 1, 1) := by decide +kernel
theorem dX7_end_33 : decode cX7_end 33 = .ok (.iaload, 1) := by decide +kernel
theorem dX7_end_34 : decode cX7_end 34 = .ok (.istore_n 3, 1) := by decide +kernel
theorem dX7_end_35 : decode cX7_end 35 = .ok (.aload_n 0, 1) := by decide +kernel
theorem dX7_end_36 : decode cX7_end 36 = .ok (.getfield 32, 3) := by decide +kernel
theorem dX7_end_39 : decode cX7_end 39 = .ok (.iload_n 1, 1) := by decide +kernel
theorem dX7_end_40 : decode cX7_end 40 = .ok (.iload_n 2, 1) := by decide +kernel
theorem dX7_end_41 : decode cX7_end 41 = .ok (.iastore, 1) := by decide +kernel
theorem dX7_end_42 : decode cX7_end 42 = .ok (.iload_n 3, 1) := by decide +kernel
theorem dX7_end_43 : decode cX7_end 43 = .ok (.ireturn, 1) := by decide +kernel
theorem dX7_rule_0 : decode cX7_rule 0 = .ok (.iload_n 1, 1) := by decide +kernel
theorem dX7_rule_1 : decode cX7_rule 1 = .ok (.i2l, 1) := by decide +kernel
theorem dX7_rule_2 : decode cX7_rule 2 = .ok (.lconst 0, 1) := by decide +kernel
theorem dX7_rule_3 : decode cX7_rule 3 = .ok (.lconst 1, 1) := by decide +kernel
theorem dX7_rule_4 : decode cX7_rule 4 = .ok (.invokestatic 133, 3) := by decide +kernel
theorem dX7_rule_7 : decode cX7_rule 7 = .ok (.ifCond .eq 34, 3) := by decide +kernel
theorem dX7_rule_10 : decode cX7_rule 10 = .ok (.iload_n 1, 1) := by decide +kernel
theorem dX7_rule_11 : decode cX7_rule 11 = .ok (.ifCond .ne 18, 3) := by decide +kernel
theorem dX7_rule_14 : decode cX7_rule 14 = .ok (.iload_n 2, 1) := by decide +kernel
theorem dX7_rule_15 : decode cX7_rule 15 = .ok (.i2l, 1) := by decide +kernel
theorem dX7_rule_16 : decode cX7_rule 16 = .ok (.lconst 1, 1) := by decide +kernel
theorem dX7_rule_17 : decode cX7_rule 17 = .ok (.ldc2_w 199, 3) := by decide +kernel
theorem dX7_rule_20 : decode cX7_rule 20 = .ok (.invokestatic 133, 3) := by decide +kernel
theorem dX7_rule_23 : decode cX7_rule 23 = .ok (.ifCond .eq 18, 3) := by decide +kernel
theorem dX7_rule_26 : decode cX7_rule 26 = .ok (.goto 19, 3) := by decide +kernel
theorem dX7_rule_29 : decode cX7_rule 29 = .ok (.iload_n 2, 1) := by decide +kernel
theorem dX7_rule_30 : decode cX7_rule 30 = .ok (.i2l, 1) := by decide +kernel
theorem dX7_rule_31 : decode cX7_rule 31 = .ok (.lconst 0, 1) := by decide +kernel
theorem dX7_rule_32 : decode cX7_rule 32 = .ok (.ldc2_w 169, 3) := by decide +kernel
theorem dX7_rule_35 : decode cX7_rule 35 = .ok (.invokestatic 133, 3) := by decide +kernel
theorem dX7_rule_38 : decode cX7_rule 38 = .ok (.ifCond .ne 7, 3) := by decide +kernel
theorem dX7_rule_41 : decode cX7_rule 41 = .ok (.sipush (-1000), 3) := by decide +kernel
theorem dX7_rule_44 : decode cX7_rule 44 = .ok (.ireturn, 1) := by decide +kernel
theorem dX7_rule_45 : decode cX7_rule 45 = .ok (.aload_n 0, 1) := by decide +kernel
theorem dX7_rule_46 : decode cX7_rule 46 = .ok (.getfield 35, 3) := by decide +kernel
theorem dX7_rule_49 : decode cX7_rule 49 = .ok (.iload_n 1, 1) := by decide +kernel
theorem dX7_rule_50 : decode cX7_rule 50 = .ok (.iaload, 1) := by decide +kernel
theorem dX7_rule_51 : decode cX7_rule 51 = .ok (.istore_n 3, 1) := by decide +kernel
theorem dX7_rule_52 : decode cX7_rule 52 = .ok (.aload_n 0, 1) := by decide +kernel
theorem dX7_rule_53 : decode cX7_rule 53 = .ok (.getfield 35, 3) := by decide +kernel
theorem dX7_rule_56 : decode cX7_rule 56 = .ok (.iload_n 1, 1) := by decide +kernel
theorem dX7_rule_57 : decode cX7_rule 57 = .ok (.iload_n 2, 1) := by decide +kernel
theorem dX7_rule_58 : decode cX7_rule 58 = .ok (.iastore, 1) := by decide +kernel
theorem dX7_rule_59 : decode cX7_rule 59 = .ok (.iload_n 3, 1) := by decide +kernel
theorem dX7_rule_60 : decode cX7_rule 60 = .ok (.ireturn, 1) := by decide +kernel
theorem dX7_isJoint_0 : decode cX7_isJoint 0 = .ok (.aload_n 0, 1) := by decide +kernel
theorem dX7_isJoint_1 : decode cX7_isJoint 1 = .ok (.getfield 129, 3) := by decide +kernel
theorem dX7_isJoint_4 : decode cX7_isJoint 4 = .ok (.ifCond .le 25, 3) := by decide +kernel
theorem dX7_isJoint_7 : decode cX7_isJoint 7 = .ok (.iload_n 1, 1) := by decide +kernel
theorem dX7_isJoint_8 : decode cX7_isJoint 8 = .ok (.i2l, 1) := by decide +kernel
theorem dX7_isJoint_9 : decode cX7_isJoint 9 = .ok (.ldc2_w 197, 3) := by decide +kernel
theorem dX7_isJoint_12 : decode cX7_isJoint 12 = .ok (.aload_n 0, 1) := by decide +kernel
theorem dX7_isJoint_13 : decode cX7_isJoint 13 = .ok (.getfield 129, 3) := by decide +kernel
theorem dX7_isJoint_16 : decode cX7_isJoint 16 = .ok (.iconst 1, 1) := by decide +kernel
theorem dX7_isJoint_17 : decode cX7_isJoint 17 = .ok (.isub, 1) := by decide +kernel
theorem dX7_isJoint_18 : decode cX7_isJoint 18 = .ok (.i2l, 1) := by decide +kernel
theorem dX7_isJoint_19 : decode cX7_isJoint 19 = .ok (.invokestatic 133, 3) := by decide +kernel
theorem dX7_isJoint_22 : decode cX7_isJoint 22 = .ok (.ifCond .eq 7, 3) := by decide +kernel
theorem dX7_isJoint_25 : decode cX7_isJoint 25 = .ok (.iconst 1, 1) := by decide +kernel
theorem dX7_isJoint_26 : decode cX7_isJoint 26 = .ok (.goto 4, 3) := by decide +kernel
theorem dX7_isJoint_29 : decode cX7_isJoint 29 = .ok (.iconst 0, 1) := by decide +kernel
theorem dX7_isJoint_30 : decode cX7_isJoint 30 = .ok (.ireturn, 1) := by decide +kernel
theorem dX7_leads_0 : decode cX7_leads 0 = .ok (.iload_n 1, 1) := by decide +kernel
theorem dX7_leads_1 : decode cX7_leads 1 = .ok (.iconst (-1), 1) := by decide +kernel
theorem dX7_leads_2 : decode cX7_leads 2 = .ok (.if_icmp .ne 23, 3) := by decide +kernel
theorem dX7_leads_5 : decode cX7_leads 5 = .ok (.aload_n 0, 1) := by decide +kernel
theorem dX7_leads_6 : decode cX7_leads 6 = .ok (.getfield 32, 3) := by decide +kernel
theorem dX7_leads_9 : decode cX7_leads 9 = .ok (.iconst 0, 1) := by decide +kernel
theorem dX7_leads_10 : decode cX7_leads 10 = .ok (.iaload, 1) := by decide +kernel
theorem dX7_leads_11 : decode cX7_leads 11 = .ok (.iconst (-1), 1) := by decide +kernel
theorem dX7_leads_12 : decode cX7_leads 12 = .ok (.if_icmp .ne 7, 3) := by decide +kernel
theorem dX7_leads_15 : decode cX7_leads 15 = .ok (.iconst 0, 1) := by decide +kernel
theorem dX7_leads_16 : decode cX7_leads 16 = .ok (.goto 8, 3) := by decide +kernel
theorem dX7_leads_19 : decode cX7_leads 19 = .ok (.aload_n 0, 1) := by decide +kernel
theorem dX7_leads_20 : decode cX7_leads 20 = .ok (.iconst 0, 1) := by decide +kernel
theorem dX7_leads_21 : decode cX7_leads 21 = .ok (.invokevirtual 185, 3) := by decide +kernel
theorem dX7_leads_24 : decode cX7_leads 24 = .ok (.ireturn, 1) := by decide +kernel
theorem dX7_leads_25 : decode cX7_leads 25 = .ok (.iload_n 1, 1) := by decide +kernel
theorem dX7_leads_26 : decode cX7_leads 26 = .ok (.aload_n 0, 1) := by decide +kernel
theorem dX7_leads_27 : decode cX7_leads 27 = .ok (.getfield 129, 3) := by decide +kernel
theorem dX7_leads_30 : decode cX7_leads 30 = .ok (.iconst 1, 1) := by decide +kernel
theorem dX7_leads_31 : decode cX7_leads 31 = .ok (.isub, 1) := by decide +kernel
theorem dX7_leads_32 : decode cX7_leads 32 = .ok (.if_icmp .ne 23, 3) := by decide +kernel
theorem dX7_leads_35 : decode cX7_leads 35 = .ok (.aload_n 0, 1) := by decide +kernel
theorem dX7_leads_36 : decode cX7_leads 36 = .ok (.getfield 32, 3) := by decide +kernel
theorem dX7_leads_39 : decode cX7_leads 39 = .ok (.iconst 1, 1) := by decide +kernel
theorem dX7_leads_40 : decode cX7_leads 40 = .ok (.iaload, 1) := by decide +kernel
theorem dX7_leads_41 : decode cX7_leads 41 = .ok (.iconst (-1), 1) := by decide +kernel
theorem dX7_leads_42 : decode cX7_leads 42 = .ok (.if_icmp .ne 7, 3) := by decide +kernel
theorem dX7_leads_45 : decode cX7_leads 45 = .ok (.iconst 0, 1) := by decide +kernel
theorem dX7_leads_46 : decode cX7_leads 46 = .ok (.goto 8, 3) := by decide +kernel
theorem dX7_leads_49 : decode cX7_leads 49 = .ok (.aload_n 0, 1) := by decide +kernel
theorem dX7_leads_50 : decode cX7_leads 50 = .ok (.iload_n 1, 1) := by decide +kernel
theorem dX7_leads_51 : decode cX7_leads 51 = .ok (.invokevirtual 185, 3) := by decide +kernel
theorem dX7_leads_54 : decode cX7_leads 54 = .ok (.ireturn, 1) := by decide +kernel
theorem dX7_leads_55 : decode cX7_leads 55 = .ok (.aload_n 0, 1) := by decide +kernel
theorem dX7_leads_56 : decode cX7_leads 56 = .ok (.iload_n 1, 1) := by decide +kernel
theorem dX7_leads_57 : decode cX7_leads 57 = .ok (.invokevirtual 185, 3) := by decide +kernel
theorem dX7_leads_60 : decode cX7_leads 60 = .ok (.aload_n 0, 1) := by decide +kernel
theorem dX7_leads_61 : decode cX7_leads 61 = .ok (.iload_n 1, 1) := by decide +kernel
theorem dX7_leads_62 : decode cX7_leads 62 = .ok (.iconst 1, 1) := by decide +kernel
theorem dX7_leads_63 : decode cX7_leads 63 = .ok (.iadd, 1) := by decide +kernel
theorem dX7_leads_64 : decode cX7_leads 64 = .ok (.invokevirtual 185, 3) := by decide +kernel
theorem dX7_leads_67 : decode cX7_leads 67 = .ok (.invokestatic 151, 3) := by decide +kernel
theorem dX7_leads_70 : decode cX7_leads 70 = .ok (.ireturn, 1) := by decide +kernel
theorem dX7_joint_0 : decode cX7_joint 0 = .ok (.aload_n 0, 1) := by decide +kernel
theorem dX7_joint_1 : decode cX7_joint 1 = .ok (.iload_n 1, 1) := by decide +kernel
theorem dX7_joint_2 : decode cX7_joint 2 = .ok (.invokevirtual 201, 3) := by decide +kernel
theorem dX7_joint_5 : decode cX7_joint 5 = .ok (.ifCond .eq 11, 3) := by decide +kernel
theorem dX7_joint_8 : decode cX7_joint 8 = .ok (.aload_n 0, 1) := by decide +kernel
theorem dX7_joint_9 : decode cX7_joint 9 = .ok (.iload_n 1, 1) := by decide +kernel
theorem dX7_joint_10 : decode cX7_joint 10 = .ok (.invokevirtual 204, 3) := by decide +kernel
theorem dX7_joint_13 : decode cX7_joint 13 = .ok (.goto 5, 3) := by decide +kernel
theorem dX7_joint_16 : decode cX7_joint 16 = .ok (.bipush (-2), 2) := by decide +kernel
theorem dX7_joint_18 : decode cX7_joint 18 = .ok (.ireturn, 1) := by decide +kernel
theorem dX7_think_0 : decode cX7_think 0 = .ok (.iconst 0, 1) := by decide +kernel
theorem dX7_think_1 : decode cX7_think 1 = .ok (.istore_n 1, 1) := by decide +kernel
theorem dX7_think_2 : decode cX7_think 2 = .ok (.iload_n 1, 1) := by decide +kernel
theorem dX7_think_3 : decode cX7_think 3 = .ok (.aload_n 0, 1) := by decide +kernel
theorem dX7_think_4 : decode cX7_think 4 = .ok (.getfield 129, 3) := by decide +kernel
theorem dX7_think_7 : decode cX7_think 7 = .ok (.if_icmp .ge 21, 3) := by decide +kernel
theorem dX7_think_10 : decode cX7_think 10 = .ok (.aload_n 0, 1) := by decide +kernel
theorem dX7_think_11 : decode cX7_think 11 = .ok (.getfield 47, 3) := by decide +kernel
theorem dX7_think_14 : decode cX7_think 14 = .ok (.iload_n 1, 1) := by decide +kernel
theorem dX7_think_15 : decode cX7_think 15 = .ok (.aload_n 0, 1) := by decide +kernel
theorem dX7_think_16 : decode cX7_think 16 = .ok (.getfield 24, 3) := by decide +kernel
theorem dX7_think_19 : decode cX7_think 19 = .ok (.iload_n 1, 1) := by decide +kernel
theorem dX7_think_20 : decode cX7_think 20 = .ok (.laload, 1) := by decide +kernel
theorem dX7_think_21 : decode cX7_think 21 = .ok (.lastore, 1) := by decide +kernel
theorem dX7_think_22 : decode cX7_think 22 = .ok (.iinc 1 1, 3) := by decide +kernel
theorem dX7_think_25 : decode cX7_think 25 = .ok (.goto (-23), 3) := by decide +kernel
theorem dX7_think_28 : decode cX7_think 28 = .ok (.aload_n 0, 1) := by decide +kernel
theorem dX7_think_29 : decode cX7_think 29 = .ok (.aload_n 0, 1) := by decide +kernel
theorem dX7_think_30 : decode cX7_think 30 = .ok (.getfield 28, 3) := by decide +kernel
theorem dX7_think_33 : decode cX7_think 33 = .ok (.putfield 207, 3) := by decide +kernel
theorem dX7_think_36 : decode cX7_think 36 = .ok (.aload_n 0, 1) := by decide +kernel
theorem dX7_think_37 : decode cX7_think 37 = .ok (.aload_n 0, 1) := by decide +kernel
theorem dX7_think_38 : decode cX7_think 38 = .ok (.getfield 210, 3) := by decide +kernel
theorem dX7_think_41 : decode cX7_think 41 = .ok (.putfield 213, 3) := by decide +kernel
theorem dX7_think_44 : decode cX7_think 44 = .ok (.iconst 0, 1) := by decide +kernel
theorem dX7_think_45 : decode cX7_think 45 = .ok (.istore_n 1, 1) := by decide +kernel
theorem dX7_think_46 : decode cX7_think 46 = .ok (.iload_n 1, 1) := by decide +kernel
theorem dX7_think_47 : decode cX7_think 47 = .ok (.aload_n 0, 1) := by decide +kernel
theorem dX7_think_48 : decode cX7_think 48 = .ok (.getfield 210, 3) := by decide +kernel
theorem dX7_think_51 : decode cX7_think 51 = .ok (.if_icmp .ge 45, 3) := by decide +kernel
theorem dX7_think_54 : decode cX7_think 54 = .ok (.aload_n 0, 1) := by decide +kernel
theorem dX7_think_55 : decode cX7_think 55 = .ok (.getfield 50, 3) := by decide +kernel
theorem dX7_think_58 : decode cX7_think 58 = .ok (.iload_n 1, 1) := by decide +kernel
theorem dX7_think_59 : decode cX7_think 59 = .ok (.aload_n 0, 1) := by decide +kernel
theorem dX7_think_60 : decode cX7_think 60 = .ok (.getfield 38, 3) := by decide +kernel
theorem dX7_think_63 : decode cX7_think 63 = .ok (.iload_n 1, 1) := by decide +kernel
theorem dX7_think_64 : decode cX7_think 64 = .ok (.iaload, 1) := by decide +kernel
theorem dX7_think_65 : decode cX7_think 65 = .ok (.iastore, 1) := by decide +kernel
theorem dX7_think_66 : decode cX7_think 66 = .ok (.aload_n 0, 1) := by decide +kernel
theorem dX7_think_67 : decode cX7_think 67 = .ok (.getfield 53, 3) := by decide +kernel
theorem dX7_think_70 : decode cX7_think 70 = .ok (.iload_n 1, 1) := by decide +kernel
theorem dX7_think_71 : decode cX7_think 71 = .ok (.aload_n 0, 1) := by decide +kernel
theorem dX7_think_72 : decode cX7_think 72 = .ok (.getfield 41, 3) := by decide +kernel
theorem dX7_think_75 : decode cX7_think 75 = .ok (.iload_n 1, 1) := by decide +kernel
theorem dX7_think_76 : decode cX7_think 76 = .ok (.iaload, 1) := by decide +kernel
theorem dX7_think_77 : decode cX7_think 77 = .ok (.iastore, 1) := by decide +kernel
theorem dX7_think_78 : decode cX7_think 78 = .ok (.aload_n 0, 1) := by decide +kernel
theorem dX7_think_79 : decode cX7_think 79 = .ok (.getfield 56, 3) := by decide +kernel
theorem dX7_think_82 : decode cX7_think 82 = .ok (.iload_n 1, 1) := by decide +kernel
theorem dX7_think_83 : decode cX7_think 83 = .ok (.aload_n 0, 1) := by decide +kernel
theorem dX7_think_84 : decode cX7_think 84 = .ok (.getfield 44, 3) := by decide +kernel
theorem dX7_think_87 : decode cX7_think 87 = .ok (.iload_n 1, 1) := by decide +kernel
theorem dX7_think_88 : decode cX7_think 88 = .ok (.iaload, 1) := by decide +kernel
theorem dX7_think_89 : decode cX7_think 89 = .ok (.iastore, 1) := by decide +kernel
theorem dX7_think_90 : decode cX7_think 90 = .ok (.iinc 1 1, 3) := by decide +kernel
theorem dX7_think_93 : decode cX7_think 93 = .ok (.goto (-47), 3) := by decide +kernel
theorem dX7_think_96 : decode cX7_think 96 = .ok (.return_, 1) := by decide +kernel
theorem dX7_keep_0 : decode cX7_keep 0 = .ok (.iconst 0, 1) := by decide +kernel
theorem dX7_keep_1 : decode cX7_keep 1 = .ok (.istore_n 1, 1) := by decide +kernel
theorem dX7_keep_2 : decode cX7_keep 2 = .ok (.iload_n 1, 1) := by decide +kernel
theorem dX7_keep_3 : decode cX7_keep 3 = .ok (.aload_n 0, 1) := by decide +kernel
theorem dX7_keep_4 : decode cX7_keep 4 = .ok (.getfield 129, 3) := by decide +kernel
theorem dX7_keep_7 : decode cX7_keep 7 = .ok (.if_icmp .ge 21, 3) := by decide +kernel
theorem dX7_keep_10 : decode cX7_keep 10 = .ok (.aload_n 0, 1) := by decide +kernel
theorem dX7_keep_11 : decode cX7_keep 11 = .ok (.getfield 24, 3) := by decide +kernel
theorem dX7_keep_14 : decode cX7_keep 14 = .ok (.iload_n 1, 1) := by decide +kernel
theorem dX7_keep_15 : decode cX7_keep 15 = .ok (.aload_n 0, 1) := by decide +kernel
theorem dX7_keep_16 : decode cX7_keep 16 = .ok (.getfield 47, 3) := by decide +kernel
theorem dX7_keep_19 : decode cX7_keep 19 = .ok (.iload_n 1, 1) := by decide +kernel
theorem dX7_keep_20 : decode cX7_keep 20 = .ok (.laload, 1) := by decide +kernel
theorem dX7_keep_21 : decode cX7_keep 21 = .ok (.lastore, 1) := by decide +kernel
theorem dX7_keep_22 : decode cX7_keep 22 = .ok (.iinc 1 1, 3) := by decide +kernel
theorem dX7_keep_25 : decode cX7_keep 25 = .ok (.goto (-23), 3) := by decide +kernel
theorem dX7_keep_28 : decode cX7_keep 28 = .ok (.aload_n 0, 1) := by decide +kernel
theorem dX7_keep_29 : decode cX7_keep 29 = .ok (.aload_n 0, 1) := by decide +kernel
theorem dX7_keep_30 : decode cX7_keep 30 = .ok (.getfield 207, 3) := by decide +kernel
theorem dX7_keep_33 : decode cX7_keep 33 = .ok (.putfield 28, 3) := by decide +kernel
theorem dX7_keep_36 : decode cX7_keep 36 = .ok (.aload_n 0, 1) := by decide +kernel
theorem dX7_keep_37 : decode cX7_keep 37 = .ok (.aload_n 0, 1) := by decide +kernel
theorem dX7_keep_38 : decode cX7_keep 38 = .ok (.getfield 213, 3) := by decide +kernel
theorem dX7_keep_41 : decode cX7_keep 41 = .ok (.putfield 210, 3) := by decide +kernel
theorem dX7_keep_44 : decode cX7_keep 44 = .ok (.iconst 0, 1) := by decide +kernel
theorem dX7_keep_45 : decode cX7_keep 45 = .ok (.istore_n 1, 1) := by decide +kernel
theorem dX7_keep_46 : decode cX7_keep 46 = .ok (.iload_n 1, 1) := by decide +kernel
theorem dX7_keep_47 : decode cX7_keep 47 = .ok (.aload_n 0, 1) := by decide +kernel
theorem dX7_keep_48 : decode cX7_keep 48 = .ok (.getfield 213, 3) := by decide +kernel
theorem dX7_keep_51 : decode cX7_keep 51 = .ok (.if_icmp .ge 45, 3) := by decide +kernel
theorem dX7_keep_54 : decode cX7_keep 54 = .ok (.aload_n 0, 1) := by decide +kernel
theorem dX7_keep_55 : decode cX7_keep 55 = .ok (.getfield 38, 3) := by decide +kernel
theorem dX7_keep_58 : decode cX7_keep 58 = .ok (.iload_n 1, 1) := by decide +kernel
theorem dX7_keep_59 : decode cX7_keep 59 = .ok (.aload_n 0, 1) := by decide +kernel
theorem dX7_keep_60 : decode cX7_keep 60 = .ok (.getfield 50, 3) := by decide +kernel
theorem dX7_keep_63 : decode cX7_keep 63 = .ok (.iload_n 1, 1) := by decide +kernel
theorem dX7_keep_64 : decode cX7_keep 64 = .ok (.iaload, 1) := by decide +kernel
theorem dX7_keep_65 : decode cX7_keep 65 = .ok (.iastore, 1) := by decide +kernel
theorem dX7_keep_66 : decode cX7_keep 66 = .ok (.aload_n 0, 1) := by decide +kernel
theorem dX7_keep_67 : decode cX7_keep 67 = .ok (.getfield 41, 3) := by decide +kernel
theorem dX7_keep_70 : decode cX7_keep 70 = .ok (.iload_n 1, 1) := by decide +kernel
theorem dX7_keep_71 : decode cX7_keep 71 = .ok (.aload_n 0, 1) := by decide +kernel
theorem dX7_keep_72 : decode cX7_keep 72 = .ok (.getfield 53, 3) := by decide +kernel
theorem dX7_keep_75 : decode cX7_keep 75 = .ok (.iload_n 1, 1) := by decide +kernel
theorem dX7_keep_76 : decode cX7_keep 76 = .ok (.iaload, 1) := by decide +kernel
theorem dX7_keep_77 : decode cX7_keep 77 = .ok (.iastore, 1) := by decide +kernel
theorem dX7_keep_78 : decode cX7_keep 78 = .ok (.aload_n 0, 1) := by decide +kernel
theorem dX7_keep_79 : decode cX7_keep 79 = .ok (.getfield 44, 3) := by decide +kernel
theorem dX7_keep_82 : decode cX7_keep 82 = .ok (.iload_n 1, 1) := by decide +kernel
theorem dX7_keep_83 : decode cX7_keep 83 = .ok (.aload_n 0, 1) := by decide +kernel
theorem dX7_keep_84 : decode cX7_keep 84 = .ok (.getfield 56, 3) := by decide +kernel
theorem dX7_keep_87 : decode cX7_keep 87 = .ok (.iload_n 1, 1) := by decide +kernel
theorem dX7_keep_88 : decode cX7_keep 88 = .ok (.iaload, 1) := by decide +kernel
theorem dX7_keep_89 : decode cX7_keep 89 = .ok (.iastore, 1) := by decide +kernel
theorem dX7_keep_90 : decode cX7_keep 90 = .ok (.iinc 1 1, 3) := by decide +kernel
theorem dX7_keep_93 : decode cX7_keep 93 = .ok (.goto (-47), 3) := by decide +kernel
theorem dX7_keep_96 : decode cX7_keep 96 = .ok (.return_, 1) := by decide +kernel
theorem dX7_flows_0 : decode cX7_flows 0 = .ok (.iload_n 1, 1) := by decide +kernel
theorem dX7_flows_1 : decode cX7_flows 1 = .ok (.iconst (-1), 1) := by decide +kernel
theorem dX7_flows_2 : decode cX7_flows 2 = .ok (.if_icmp .ne 18, 3) := by decide +kernel
theorem dX7_flows_5 : decode cX7_flows 5 = .ok (.aload_n 0, 1) := by decide +kernel
theorem dX7_flows_6 : decode cX7_flows 6 = .ok (.getfield 32, 3) := by decide +kernel
theorem dX7_flows_9 : decode cX7_flows 9 = .ok (.iconst 0, 1) := by decide +kernel
theorem dX7_flows_10 : decode cX7_flows 10 = .ok (.iaload, 1) := by decide +kernel
theorem dX7_flows_11 : decode cX7_flows 11 = .ok (.i2l, 1) := by decide +kernel
theorem dX7_flows_12 : decode cX7_flows 12 = .ok (.aload_n 0, 1) := by decide +kernel
theorem dX7_flows_13 : decode cX7_flows 13 = .ok (.getfield 207, 3) := by decide +kernel
theorem dX7_flows_16 : decode cX7_flows 16 = .ok (.lmul, 1) := by decide +kernel
theorem dX7_flows_17 : decode cX7_flows 17 = .ok (.goto 9, 3) := by decide +kernel
theorem dX7_flows_20 : decode cX7_flows 20 = .ok (.aload_n 0, 1) := by decide +kernel
theorem dX7_flows_21 : decode cX7_flows 21 = .ok (.getfield 47, 3) := by decide +kernel
theorem dX7_flows_24 : decode cX7_flows 24 = .ok (.iload_n 1, 1) := by decide +kernel
theorem dX7_flows_25 : decode cX7_flows 25 = .ok (.laload, 1) := by decide +kernel
theorem dX7_flows_26 : decode cX7_flows 26 = .ok (.lstore_n 2, 1) := by decide +kernel
theorem dX7_flows_27 : decode cX7_flows 27 = .ok (.iload_n 1, 1) := by decide +kernel
theorem dX7_flows_28 : decode cX7_flows 28 = .ok (.aload_n 0, 1) := by decide +kernel
theorem dX7_flows_29 : decode cX7_flows 29 = .ok (.getfield 129, 3) := by decide +kernel
theorem dX7_flows_32 : decode cX7_flows 32 = .ok (.iconst 1, 1) := by decide +kernel
theorem dX7_flows_33 : decode cX7_flows 33 = .ok (.isub, 1) := by decide +kernel
theorem dX7_flows_34 : decode cX7_flows 34 = .ok (.if_icmp .ne 18, 3) := by decide +kernel
theorem dX7_flows_37 : decode cX7_flows 37 = .ok (.aload_n 0, 1) := by decide +kernel
theorem dX7_flows_38 : decode cX7_flows 38 = .ok (.getfield 32, 3) := by decide +kernel
theorem dX7_flows_41 : decode cX7_flows 41 = .ok (.iconst 1, 1) := by decide +kernel
theorem dX7_flows_42 : decode cX7_flows 42 = .ok (.iaload, 1) := by decide +kernel
theorem dX7_flows_43 : decode cX7_flows 43 = .ok (.i2l, 1) := by decide +kernel
theorem dX7_flows_44 : decode cX7_flows 44 = .ok (.aload_n 0, 1) := by decide +kernel
theorem dX7_flows_45 : decode cX7_flows 45 = .ok (.getfield 207, 3) := by decide +kernel
theorem dX7_flows_48 : decode cX7_flows 48 = .ok (.lmul, 1) := by decide +kernel
theorem dX7_flows_49 : decode cX7_flows 49 = .ok (.goto 11, 3) := by decide +kernel
theorem dX7_flows_52 : decode cX7_flows 52 = .ok (.aload_n 0, 1) := by decide +kernel
theorem dX7_flows_53 : decode cX7_flows 53 = .ok (.getfield 47, 3) := by decide +kernel
theorem dX7_flows_56 : decode cX7_flows 56 = .ok (.iload_n 1, 1) := by decide +kernel
theorem dX7_flows_57 : decode cX7_flows 57 = .ok (.iconst 1, 1) := by decide +kernel
theorem dX7_flows_58 : decode cX7_flows 58 = .ok (.iadd, 1) := by decide +kernel
theorem dX7_flows_59 : decode cX7_flows 59 = .ok (.laload, 1) := by decide +kernel
theorem dX7_flows_60 : decode cX7_flows 60 = .ok (.lstore 4, 2) := by decide +kernel
theorem dX7_flows_62 : decode cX7_flows 62 = .ok (.aload_n 0, 1) := by decide +kernel
theorem dX7_flows_63 : decode cX7_flows 63 = .ok (.iload_n 1, 1) := by decide +kernel
theorem dX7_flows_64 : decode cX7_flows 64 = .ok (.invokevirtual 204, 3) := by decide +kernel
theorem dX7_flows_67 : decode cX7_flows 67 = .ok (.i2l, 1) := by decide +kernel
theorem dX7_flows_68 : decode cX7_flows 68 = .ok (.lload_n 2, 1) := by decide +kernel
theorem dX7_flows_69 : decode cX7_flows 69 = .ok (.lload 4, 2) := by decide +kernel
theorem dX7_flows_71 : decode cX7_flows 71 = .ok (.lsub, 1) := by decide +kernel
theorem dX7_flows_72 : decode cX7_flows 72 = .ok (.lmul, 1) := by decide +kernel
theorem dX7_flows_73 : decode cX7_flows 73 = .ok (.lreturn, 1) := by decide +kernel
theorem dX7_change_0 : decode cX7_change 0 = .ok (.aload_n 0, 1) := by decide +kernel
theorem dX7_change_1 : decode cX7_change 1 = .ok (.iload_n 1, 1) := by decide +kernel
theorem dX7_change_2 : decode cX7_change 2 = .ok (.iconst 1, 1) := by decide +kernel
theorem dX7_change_3 : decode cX7_change 3 = .ok (.isub, 1) := by decide +kernel
theorem dX7_change_4 : decode cX7_change 4 = .ok (.invokevirtual 216, 3) := by decide +kernel
theorem dX7_change_7 : decode cX7_change 7 = .ok (.aload_n 0, 1) := by decide +kernel
theorem dX7_change_8 : decode cX7_change 8 = .ok (.iload_n 1, 1) := by decide +kernel
theorem dX7_change_9 : decode cX7_change 9 = .ok (.invokevirtual 216, 3) := by decide +kernel
theorem dX7_change_12 : decode cX7_change 12 = .ok (.lsub, 1) := by decide +kernel
theorem dX7_change_13 : decode cX7_change 13 = .ok (.aload_n 0, 1) := by decide +kernel
theorem dX7_change_14 : decode cX7_change 14 = .ok (.iload_n 1, 1) := by decide +kernel
theorem dX7_change_15 : decode cX7_change 15 = .ok (.invokevirtual 191, 3) := by decide +kernel
theorem dX7_change_18 : decode cX7_change 18 = .ok (.i2l, 1) := by decide +kernel
theorem dX7_change_19 : decode cX7_change 19 = .ok (.aload_n 0, 1) := by decide +kernel
theorem dX7_change_20 : decode cX7_change 20 = .ok (.getfield 35, 3) := by decide +kernel
theorem dX7_change_23 : decode cX7_change 23 = .ok (.iconst 1, 1) := by decide +kernel
theorem dX7_change_24 : decode cX7_change 24 = .ok (.iaload, 1) := by decide +kernel
theorem dX7_change_25 : decode cX7_change 25 = .ok (.i2l, 1) := by decide +kernel
theorem dX7_change_26 : decode cX7_change 26 = .ok (.aload_n 0, 1) := by decide +kernel
theorem dX7_change_27 : decode cX7_change 27 = .ok (.getfield 207, 3) := by decide +kernel
theorem dX7_change_30 : decode cX7_change 30 = .ok (.lmul, 1) := by decide +kernel
theorem dX7_change_31 : decode cX7_change 31 = .ok (.aload_n 0, 1) := by decide +kernel
theorem dX7_change_32 : decode cX7_change 32 = .ok (.getfield 47, 3) := by decide +kernel
theorem dX7_change_35 : decode cX7_change 35 = .ok (.iload_n 1, 1) := by decide +kernel
theorem dX7_change_36 : decode cX7_change 36 = .ok (.laload, 1) := by decide +kernel
theorem dX7_change_37 : decode cX7_change 37 = .ok (.lsub, 1) := by decide +kernel
theorem dX7_change_38 : decode cX7_change 38 = .ok (.lmul, 1) := by decide +kernel
theorem dX7_change_39 : decode cX7_change 39 = .ok (.ladd, 1) := by decide +kernel
theorem dX7_change_40 : decode cX7_change 40 = .ok (.aload_n 0, 1) := by decide +kernel
theorem dX7_change_41 : decode cX7_change 41 = .ok (.getfield 21, 3) := by decide +kernel
theorem dX7_change_44 : decode cX7_change 44 = .ok (.iload_n 1, 1) := by decide +kernel
theorem dX7_change_45 : decode cX7_change 45 = .ok (.iaload, 1) := by decide +kernel
theorem dX7_change_46 : decode cX7_change 46 = .ok (.i2l, 1) := by decide +kernel
theorem dX7_change_47 : decode cX7_change 47 = .ok (.aload_n 0, 1) := by decide +kernel
theorem dX7_change_48 : decode cX7_change 48 = .ok (.getfield 207, 3) := by decide +kernel
theorem dX7_change_51 : decode cX7_change 51 = .ok (.lmul, 1) := by decide +kernel
theorem dX7_change_52 : decode cX7_change 52 = .ok (.ladd, 1) := by decide +kernel
theorem dX7_change_53 : decode cX7_change 53 = .ok (.lreturn, 1) := by decide +kernel
theorem dX7_reckons_0 : decode cX7_reckons 0 = .ok (.lconst 1, 1) := by decide +kernel
theorem dX7_reckons_1 : decode cX7_reckons 1 = .ok (.lstore_n 1, 1) := by decide +kernel
theorem dX7_reckons_2 : decode cX7_reckons 2 = .ok (.iconst 0, 1) := by decide +kernel
theorem dX7_reckons_3 : decode cX7_reckons 3 = .ok (.istore_n 3, 1) := by decide +kernel
theorem dX7_reckons_4 : decode cX7_reckons 4 = .ok (.iload_n 3, 1) := by decide +kernel
theorem dX7_reckons_5 : decode cX7_reckons 5 = .ok (.aload_n 0, 1) := by decide +kernel
theorem dX7_reckons_6 : decode cX7_reckons 6 = .ok (.getfield 129, 3) := by decide +kernel
theorem dX7_reckons_9 : decode cX7_reckons 9 = .ok (.if_icmp .ge 36, 3) := by decide +kernel
theorem dX7_reckons_12 : decode cX7_reckons 12 = .ok (.aload_n 0, 1) := by decide +kernel
theorem dX7_reckons_13 : decode cX7_reckons 13 = .ok (.iload_n 3, 1) := by decide +kernel
theorem dX7_reckons_14 : decode cX7_reckons 14 = .ok (.invokevirtual 188, 3) := by decide +kernel
theorem dX7_reckons_17 : decode cX7_reckons 17 = .ok (.aload_n 0, 1) := by decide +kernel
theorem dX7_reckons_18 : decode cX7_reckons 18 = .ok (.getfield 35, 3) := by decide +kernel
theorem dX7_reckons_21 : decode cX7_reckons 21 = .ok (.iconst 0, 1) := by decide +kernel
theorem dX7_reckons_22 : decode cX7_reckons 22 = .ok (.iaload, 1) := by decide +kernel
theorem dX7_reckons_23 : decode cX7_reckons 23 = .ok (.imul, 1) := by decide +kernel
theorem dX7_reckons_24 : decode cX7_reckons 24 = .ok (.i2l, 1) := by decide +kernel
theorem dX7_reckons_25 : decode cX7_reckons 25 = .ok (.lstore 4, 2) := by decide +kernel
theorem dX7_reckons_27 : decode cX7_reckons 27 = .ok (.lload_n 1, 1) := by decide +kernel
theorem dX7_reckons_28 : decode cX7_reckons 28 = .ok (.lload_n 1, 1) := by decide +kernel
theorem dX7_reckons_29 : decode cX7_reckons 29 = .ok (.lload 4, 2) := by decide +kernel
theorem dX7_reckons_31 : decode cX7_reckons 31 = .ok (.invokestatic 143, 3) := by decide +kernel
theorem dX7_reckons_34 : decode cX7_reckons 34 = .ok (.ldiv, 1) := by decide +kernel
theorem dX7_reckons_35 : decode cX7_reckons 35 = .ok (.lload 4, 2) := by decide +kernel
theorem dX7_reckons_37 : decode cX7_reckons 37 = .ok (.lmul, 1) := by decide +kernel
theorem dX7_reckons_38 : decode cX7_reckons 38 = .ok (.lstore_n 1, 1) := by decide +kernel
theorem dX7_reckons_39 : decode cX7_reckons 39 = .ok (.iinc 3 1, 3) := by decide +kernel
theorem dX7_reckons_42 : decode cX7_reckons 42 = .ok (.goto (-38), 3) := by decide +kernel
theorem dX7_reckons_45 : decode cX7_reckons 45 = .ok (.aload_n 0, 1) := by decide +kernel
theorem dX7_reckons_46 : decode cX7_reckons 46 = .ok (.getfield 207, 3) := by decide +kernel
theorem dX7_reckons_49 : decode cX7_reckons 49 = .ok (.lload_n 1, 1) := by decide +kernel
theorem dX7_reckons_50 : decode cX7_reckons 50 = .ok (.lmul, 1) := by decide +kernel
theorem dX7_reckons_51 : decode cX7_reckons 51 = .ok (.lstore_n 3, 1) := by decide +kernel
theorem dX7_reckons_52 : decode cX7_reckons 52 = .ok (.iconst 0, 1) := by decide +kernel
theorem dX7_reckons_53 : decode cX7_reckons 53 = .ok (.istore 5, 2) := by decide +kernel
theorem dX7_reckons_55 : decode cX7_reckons 55 = .ok (.iload 5, 2) := by decide +kernel
theorem dX7_reckons_57 : decode cX7_reckons 57 = .ok (.aload_n 0, 1) := by decide +kernel
theorem dX7_reckons_58 : decode cX7_reckons 58 = .ok (.getfield 129, 3) := by decide +kernel
theorem dX7_reckons_61 : decode cX7_reckons 61 = .ok (.if_icmp .ge 49, 3) := by decide +kernel
theorem dX7_reckons_64 : decode cX7_reckons 64 = .ok (.aload_n 0, 1) := by decide +kernel
theorem dX7_reckons_65 : decode cX7_reckons 65 = .ok (.getfield 59, 3) := by decide +kernel
theorem dX7_reckons_68 : decode cX7_reckons 68 = .ok (.iload 5, 2) := by decide +kernel
theorem dX7_reckons_70 : decode cX7_reckons 70 = .ok (.aload_n 0, 1) := by decide +kernel
theorem dX7_reckons_71 : decode cX7_reckons 71 = .ok (.getfield 47, 3) := by decide +kernel
theorem dX7_reckons_74 : decode cX7_reckons 74 = .ok (.iload 5, 2) := by decide +kernel
theorem dX7_reckons_76 : decode cX7_reckons 76 = .ok (.laload, 1) := by decide +kernel
theorem dX7_reckons_77 : decode cX7_reckons 77 = .ok (.lload_n 1, 1) := by decide +kernel
theorem dX7_reckons_78 : decode cX7_reckons 78 = .ok (.lmul, 1) := by decide +kernel
theorem dX7_reckons_79 : decode cX7_reckons 79 = .ok (.aload_n 0, 1) := by decide +kernel
theorem dX7_reckons_80 : decode cX7_reckons 80 = .ok (.iload 5, 2) := by decide +kernel
theorem dX7_reckons_82 : decode cX7_reckons 82 = .ok (.invokevirtual 220, 3) := by decide +kernel
theorem dX7_reckons_85 : decode cX7_reckons 85 = .ok (.lload_n 1, 1) := by decide +kernel
theorem dX7_reckons_86 : decode cX7_reckons 86 = .ok (.aload_n 0, 1) := by decide +kernel
theorem dX7_reckons_87 : decode cX7_reckons 87 = .ok (.iload 5, 2) := by decide +kernel
theorem dX7_reckons_89 : decode cX7_reckons 89 = .ok (.invokevirtual 188, 3) := by decide +kernel
theorem dX7_reckons_92 : decode cX7_reckons 92 = .ok (.aload_n 0, 1) := by decide +kernel
theorem dX7_reckons_93 : decode cX7_reckons 93 = .ok (.getfield 35, 3) := by decide +kernel
theorem dX7_reckons_96 : decode cX7_reckons 96 = .ok (.iconst 0, 1) := by decide +kernel
theorem dX7_reckons_97 : decode cX7_reckons 97 = .ok (.iaload, 1) := by decide +kernel
theorem dX7_reckons_98 : decode cX7_reckons 98 = .ok (.imul, 1) := by decide +kernel
theorem dX7_reckons_99 : decode cX7_reckons 99 = .ok (.i2l, 1) := by decide +kernel
theorem dX7_reckons_100 : decode cX7_reckons 100 = .ok (.ldiv, 1) := by decide +kernel
theorem dX7_reckons_101 : decode cX7_reckons 101 = .ok (.lmul, 1) := by decide +kernel
theorem dX7_reckons_102 : decode cX7_reckons 102 = .ok (.ladd, 1) := by decide +kernel
theorem dX7_reckons_103 : decode cX7_reckons 103 = .ok (.lastore, 1) := by decide +kernel
theorem dX7_reckons_104 : decode cX7_reckons 104 = .ok (.iinc 5 1, 3) := by decide +kernel
theorem dX7_reckons_107 : decode cX7_reckons 107 = .ok (.goto (-52), 3) := by decide +kernel
theorem dX7_reckons_110 : decode cX7_reckons 110 = .ok (.iconst 0, 1) := by decide +kernel
theorem dX7_reckons_111 : decode cX7_reckons 111 = .ok (.istore 5, 2) := by decide +kernel
theorem dX7_reckons_113 : decode cX7_reckons 113 = .ok (.iload 5, 2) := by decide +kernel
theorem dX7_reckons_115 : decode cX7_reckons 115 = .ok (.aload_n 0, 1) := by decide +kernel
theorem dX7_reckons_116 : decode cX7_reckons 116 = .ok (.getfield 213, 3) := by decide +kernel
theorem dX7_reckons_119 : decode cX7_reckons 119 = .ok (.if_icmp .ge 45, 3) := by decide +kernel
theorem dX7_reckons_122 : decode cX7_reckons 122 = .ok (.aload_n 0, 1) := by decide +kernel
theorem dX7_reckons_123 : decode cX7_reckons 123 = .ok (.getfield 53, 3) := by decide +kernel
theorem dX7_reckons_126 : decode cX7_reckons 126 = .ok (.iload 5, 2) := by decide +kernel
theorem dX7_reckons_128 : decode cX7_reckons 128 = .ok (.iaload, 1) := by decide +kernel
theorem dX7_reckons_129 : decode cX7_reckons 129 = .ok (.iconst 1, 1) := by decide +kernel
theorem dX7_reckons_130 : decode cX7_reckons 130 = .ok (.if_icmp .ne 28, 3) := by decide +kernel
theorem dX7_reckons_133 : decode cX7_reckons 133 = .ok (.aload_n 0, 1) := by decide +kernel
theorem dX7_reckons_134 : decode cX7_reckons 134 = .ok (.getfield 59, 3) := by decide +kernel
theorem dX7_reckons_137 : decode cX7_reckons 137 = .ok (.aload_n 0, 1) := by decide +kernel
theorem dX7_reckons_138 : decode cX7_reckons 138 = .ok (.getfield 50, 3) := by decide +kernel
theorem dX7_reckons_141 : decode cX7_reckons 141 = .ok (.iload 5, 2) := by decide +kernel
theorem dX7_reckons_143 : decode cX7_reckons 143 = .ok (.iaload, 1) := by decide +kernel
theorem dX7_reckons_144 : decode cX7_reckons 144 = .ok (.dup2, 1) := by decide +kernel
theorem dX7_reckons_145 : decode cX7_reckons 145 = .ok (.laload, 1) := by decide +kernel
theorem dX7_reckons_146 : decode cX7_reckons 146 = .ok (.aload_n 0, 1) := by decide +kernel
theorem dX7_reckons_147 : decode cX7_reckons 147 = .ok (.getfield 56, 3) := by decide +kernel
theorem dX7_reckons_150 : decode cX7_reckons 150 = .ok (.iload 5, 2) := by decide +kernel
theorem dX7_reckons_152 : decode cX7_reckons 152 = .ok (.iaload, 1) := by decide +kernel
theorem dX7_reckons_153 : decode cX7_reckons 153 = .ok (.i2l, 1) := by decide +kernel
theorem dX7_reckons_154 : decode cX7_reckons 154 = .ok (.lload_n 3, 1) := by decide +kernel
theorem dX7_reckons_155 : decode cX7_reckons 155 = .ok (.lmul, 1) := by decide +kernel
theorem dX7_reckons_156 : decode cX7_reckons 156 = .ok (.ladd, 1) := by decide +kernel
theorem dX7_reckons_157 : decode cX7_reckons 157 = .ok (.lastore, 1) := by decide +kernel
theorem dX7_reckons_158 : decode cX7_reckons 158 = .ok (.iinc 5 1, 3) := by decide +kernel
theorem dX7_reckons_161 : decode cX7_reckons 161 = .ok (.goto (-48), 3) := by decide +kernel
theorem dX7_reckons_164 : decode cX7_reckons 164 = .ok (.lload_n 3, 1) := by decide +kernel
theorem dX7_reckons_165 : decode cX7_reckons 165 = .ok (.lstore_n 1, 1) := by decide +kernel
theorem dX7_reckons_166 : decode cX7_reckons 166 = .ok (.iconst 0, 1) := by decide +kernel
theorem dX7_reckons_167 : decode cX7_reckons 167 = .ok (.istore 5, 2) := by decide +kernel
theorem dX7_reckons_169 : decode cX7_reckons 169 = .ok (.iload 5, 2) := by decide +kernel
theorem dX7_reckons_171 : decode cX7_reckons 171 = .ok (.aload_n 0, 1) := by decide +kernel
theorem dX7_reckons_172 : decode cX7_reckons 172 = .ok (.getfield 129, 3) := by decide +kernel
theorem dX7_reckons_175 : decode cX7_reckons 175 = .ok (.if_icmp .ge 21, 3) := by decide +kernel
theorem dX7_reckons_178 : decode cX7_reckons 178 = .ok (.aload_n 0, 1) := by decide +kernel
theorem dX7_reckons_179 : decode cX7_reckons 179 = .ok (.getfield 59, 3) := by decide +kernel
theorem dX7_reckons_182 : decode cX7_reckons 182 = .ok (.iload 5, 2) := by decide +kernel
theorem dX7_reckons_184 : decode cX7_reckons 184 = .ok (.laload, 1) := by decide +kernel
theorem dX7_reckons_185 : decode cX7_reckons 185 = .ok (.lload_n 1, 1) := by decide +kernel
theorem dX7_reckons_186 : decode cX7_reckons 186 = .ok (.invokestatic 143, 3) := by decide +kernel
theorem dX7_reckons_189 : decode cX7_reckons 189 = .ok (.lstore_n 1, 1) := by decide +kernel
theorem dX7_reckons_190 : decode cX7_reckons 190 = .ok (.iinc 5 1, 3) := by decide +kernel
theorem dX7_reckons_193 : decode cX7_reckons 193 = .ok (.goto (-24), 3) := by decide +kernel
theorem dX7_reckons_196 : decode cX7_reckons 196 = .ok (.iconst 0, 1) := by decide +kernel
theorem dX7_reckons_197 : decode cX7_reckons 197 = .ok (.istore 5, 2) := by decide +kernel
theorem dX7_reckons_199 : decode cX7_reckons 199 = .ok (.iload 5, 2) := by decide +kernel
theorem dX7_reckons_201 : decode cX7_reckons 201 = .ok (.aload_n 0, 1) := by decide +kernel
theorem dX7_reckons_202 : decode cX7_reckons 202 = .ok (.getfield 129, 3) := by decide +kernel
theorem dX7_reckons_205 : decode cX7_reckons 205 = .ok (.if_icmp .ge 20, 3) := by decide +kernel
theorem dX7_reckons_208 : decode cX7_reckons 208 = .ok (.aload_n 0, 1) := by decide +kernel
theorem dX7_reckons_209 : decode cX7_reckons 209 = .ok (.getfield 59, 3) := by decide +kernel
theorem dX7_reckons_212 : decode cX7_reckons 212 = .ok (.iload 5, 2) := by decide +kernel
theorem dX7_reckons_214 : decode cX7_reckons 214 = .ok (.dup2, 1) := by decide +kernel
theorem dX7_reckons_215 : decode cX7_reckons 215 = .ok (.laload, 1) := by decide +kernel
theorem dX7_reckons_216 : decode cX7_reckons 216 = .ok (.lload_n 1, 1) := by decide +kernel
theorem dX7_reckons_217 : decode cX7_reckons 217 = .ok (.ldiv, 1) := by decide +kernel
theorem dX7_reckons_218 : decode cX7_reckons 218 = .ok (.lastore, 1) := by decide +kernel
theorem dX7_reckons_219 : decode cX7_reckons 219 = .ok (.iinc 5 1, 3) := by decide +kernel
theorem dX7_reckons_222 : decode cX7_reckons 222 = .ok (.goto (-23), 3) := by decide +kernel
theorem dX7_reckons_225 : decode cX7_reckons 225 = .ok (.lload_n 3, 1) := by decide +kernel
theorem dX7_reckons_226 : decode cX7_reckons 226 = .ok (.lload_n 1, 1) := by decide +kernel
theorem dX7_reckons_227 : decode cX7_reckons 227 = .ok (.ldiv, 1) := by decide +kernel
theorem dX7_reckons_228 : decode cX7_reckons 228 = .ok (.lreturn, 1) := by decide +kernel
theorem dX7_goes_0 : decode cX7_goes 0 = .ok (.aload_n 0, 1) := by decide +kernel
theorem dX7_goes_1 : decode cX7_goes 1 = .ok (.invokevirtual 223, 3) := by decide +kernel
theorem dX7_goes_4 : decode cX7_goes 4 = .ok (.lstore_n 1, 1) := by decide +kernel
theorem dX7_goes_5 : decode cX7_goes 5 = .ok (.aload_n 0, 1) := by decide +kernel
theorem dX7_goes_6 : decode cX7_goes 6 = .ok (.iconst (-1), 1) := by decide +kernel
theorem dX7_goes_7 : decode cX7_goes 7 = .ok (.putfield 227, 3) := by decide +kernel
theorem dX7_goes_10 : decode cX7_goes 10 = .ok (.lload_n 1, 1) := by decide +kernel
theorem dX7_goes_11 : decode cX7_goes 11 = .ok (.ldc2_w 230, 3) := by decide +kernel
theorem dX7_goes_14 : decode cX7_goes 14 = .ok (.lcmp, 1) := by decide +kernel
theorem dX7_goes_15 : decode cX7_goes 15 = .ok (.ifCond .le 5, 3) := by decide +kernel
theorem dX7_goes_18 : decode cX7_goes 18 = .ok (.iconst 0, 1) := by decide +kernel
theorem dX7_goes_19 : decode cX7_goes 19 = .ok (.ireturn, 1) := by decide +kernel
theorem dX7_goes_20 : decode cX7_goes 20 = .ok (.iconst 0, 1) := by decide +kernel
theorem dX7_goes_21 : decode cX7_goes 21 = .ok (.istore_n 3, 1) := by decide +kernel
theorem dX7_goes_22 : decode cX7_goes 22 = .ok (.iload_n 3, 1) := by decide +kernel
theorem dX7_goes_23 : decode cX7_goes 23 = .ok (.aload_n 0, 1) := by decide +kernel
theorem dX7_goes_24 : decode cX7_goes 24 = .ok (.getfield 129, 3) := by decide +kernel
theorem dX7_goes_27 : decode cX7_goes 27 = .ok (.if_icmp .ge 32, 3) := by decide +kernel
theorem dX7_goes_30 : decode cX7_goes 30 = .ok (.aload_n 0, 1) := by decide +kernel
theorem dX7_goes_31 : decode cX7_goes 31 = .ok (.getfield 59, 3) := by decide +kernel
theorem dX7_goes_34 : decode cX7_goes 34 = .ok (.iload_n 3, 1) := by decide +kernel
theorem dX7_goes_35 : decode cX7_goes 35 = .ok (.laload, 1) := by decide +kernel
theorem dX7_goes_36 : decode cX7_goes 36 = .ok (.invokestatic 137, 3) := by decide +kernel
theorem dX7_goes_39 : decode cX7_goes 39 = .ok (.ldc2_w 230, 3) := by decide +kernel
theorem dX7_goes_42 : decode cX7_goes 42 = .ok (.lcmp, 1) := by decide +kernel
theorem dX7_goes_43 : decode cX7_goes 43 = .ok (.ifCond .le 10, 3) := by decide +kernel
theorem dX7_goes_46 : decode cX7_goes 46 = .ok (.aload_n 0, 1) := by decide +kernel
theorem dX7_goes_47 : decode cX7_goes 47 = .ok (.iload_n 3, 1) := by decide +kernel
theorem dX7_goes_48 : decode cX7_goes 48 = .ok (.putfield 227, 3) := by decide +kernel
theorem dX7_goes_51 : decode cX7_goes 51 = .ok (.iconst 0, 1) := by decide +kernel
theorem dX7_goes_52 : decode cX7_goes 52 = .ok (.ireturn, 1) := by decide +kernel
theorem dX7_goes_53 : decode cX7_goes 53 = .ok (.iinc 3 1, 3) := by decide +kernel
theorem dX7_goes_56 : decode cX7_goes 56 = .ok (.goto (-34), 3) := by decide +kernel
theorem dX7_goes_59 : decode cX7_goes 59 = .ok (.iconst 0, 1) := by decide +kernel
theorem dX7_goes_60 : decode cX7_goes 60 = .ok (.istore_n 3, 1) := by decide +kernel
theorem dX7_goes_61 : decode cX7_goes 61 = .ok (.iload_n 3, 1) := by decide +kernel
theorem dX7_goes_62 : decode cX7_goes 62 = .ok (.aload_n 0, 1) := by decide +kernel
theorem dX7_goes_63 : decode cX7_goes 63 = .ok (.getfield 129, 3) := by decide +kernel
theorem dX7_goes_66 : decode cX7_goes 66 = .ok (.if_icmp .ge 21, 3) := by decide +kernel
theorem dX7_goes_69 : decode cX7_goes 69 = .ok (.aload_n 0, 1) := by decide +kernel
theorem dX7_goes_70 : decode cX7_goes 70 = .ok (.getfield 47, 3) := by decide +kernel
theorem dX7_goes_73 : decode cX7_goes 73 = .ok (.iload_n 3, 1) := by decide +kernel
theorem dX7_goes_74 : decode cX7_goes 74 = .ok (.aload_n 0, 1) := by decide +kernel
theorem dX7_goes_75 : decode cX7_goes 75 = .ok (.getfield 59, 3) := by decide +kernel
theorem dX7_goes_78 : decode cX7_goes 78 = .ok (.iload_n 3, 1) := by decide +kernel
theorem dX7_goes_79 : decode cX7_goes 79 = .ok (.laload, 1) := by decide +kernel
theorem dX7_goes_80 : decode cX7_goes 80 = .ok (.lastore, 1) := by decide +kernel
theorem dX7_goes_81 : decode cX7_goes 81 = .ok (.iinc 3 1, 3) := by decide +kernel
theorem dX7_goes_84 : decode cX7_goes 84 = .ok (.goto (-23), 3) := by decide +kernel
theorem dX7_goes_87 : decode cX7_goes 87 = .ok (.aload_n 0, 1) := by decide +kernel
theorem dX7_goes_88 : decode cX7_goes 88 = .ok (.lload_n 1, 1) := by decide +kernel
theorem dX7_goes_89 : decode cX7_goes 89 = .ok (.putfield 207, 3) := by decide +kernel
theorem dX7_goes_92 : decode cX7_goes 92 = .ok (.iconst 0, 1) := by decide +kernel
theorem dX7_goes_93 : decode cX7_goes 93 = .ok (.istore_n 3, 1) := by decide +kernel
theorem dX7_goes_94 : decode cX7_goes 94 = .ok (.iconst 0, 1) := by decide +kernel
theorem dX7_goes_95 : decode cX7_goes 95 = .ok (.istore 4, 2) := by decide +kernel
theorem dX7_goes_97 : decode cX7_goes 97 = .ok (.iload 4, 2) := by decide +kernel
theorem dX7_goes_99 : decode cX7_goes 99 = .ok (.aload_n 0, 1) := by decide +kernel
theorem dX7_goes_100 : decode cX7_goes 100 = .ok (.getfield 213, 3) := by decide +kernel
theorem dX7_goes_103 : decode cX7_goes 103 = .ok (.if_icmp .ge 64, 3) := by decide +kernel
theorem dX7_goes_106 : decode cX7_goes 106 = .ok (.aload_n 0, 1) := by decide +kernel
theorem dX7_goes_107 : decode cX7_goes 107 = .ok (.getfield 53, 3) := by decide +kernel
theorem dX7_goes_110 : decode cX7_goes 110 = .ok (.iload 4, 2) := by decide +kernel
theorem dX7_goes_112 : decode cX7_goes 112 = .ok (.iaload, 1) := by decide +kernel
theorem dX7_goes_113 : decode cX7_goes 113 = .ok (.iconst 1, 1) := by decide +kernel
theorem dX7_goes_114 : decode cX7_goes 114 = .ok (.if_icmp .le 47, 3) := by decide +kernel
theorem dX7_goes_117 : decode cX7_goes 117 = .ok (.aload_n 0, 1) := by decide +kernel
theorem dX7_goes_118 : decode cX7_goes 118 = .ok (.getfield 50, 3) := by decide +kernel
theorem dX7_goes_121 : decode cX7_goes 121 = .ok (.iload_n 3, 1) := by decide +kernel
theorem dX7_goes_122 : decode cX7_goes 122 = .ok (.aload_n 0, 1) := by decide +kernel
theorem dX7_goes_123 : decode cX7_goes 123 = .ok (.getfield 50, 3) := by decide +kernel
theorem dX7_goes_126 : decode cX7_goes 126 = .ok (.iload 4, 2) := by decide +kernel
theorem dX7_goes_128 : decode cX7_goes 128 = .ok (.iaload, 1) := by decide +kernel
theorem dX7_goes_129 : decode cX7_goes 129 = .ok (.iastore, 1) := by decide +kernel
theorem dX7_goes_130 : decode cX7_goes 130 = .ok (.aload_n 0, 1) := by decide +kernel
theorem dX7_goes_131 : decode cX7_goes 131 = .ok (.getfield 53, 3) := by decide +kernel
theorem dX7_goes_134 : decode cX7_goes 134 = .ok (.iload_n 3, 1) := by decide +kernel
theorem dX7_goes_135 : decode cX7_goes 135 = .ok (.aload_n 0, 1) := by decide +kernel
theorem dX7_goes_136 : decode cX7_goes 136 = .ok (.getfield 53, 3) := by decide +kernel
theorem dX7_goes_139 : decode cX7_goes 139 = .ok (.iload 4, 2) := by decide +kernel
theorem dX7_goes_141 : decode cX7_goes 141 = .ok (.iaload, 1) := by decide +kernel
theorem dX7_goes_142 : decode cX7_goes 142 = .ok (.iconst 1, 1) := by decide +kernel
theorem dX7_goes_143 : decode cX7_goes 143 = .ok (.isub, 1) := by decide +kernel
theorem dX7_goes_144 : decode cX7_goes 144 = .ok (.iastore, 1) := by decide +kernel
theorem dX7_goes_145 : decode cX7_goes 145 = .ok (.aload_n 0, 1) := by decide +kernel
theorem dX7_goes_146 : decode cX7_goes 146 = .ok (.getfield 56, 3) := by decide +kernel
theorem dX7_goes_149 : decode cX7_goes 149 = .ok (.iload_n 3, 1) := by decide +kernel
theorem dX7_goes_150 : decode cX7_goes 150 = .ok (.aload_n 0, 1) := by decide +kernel
theorem dX7_goes_151 : decode cX7_goes 151 = .ok (.getfield 56, 3) := by decide +kernel
theorem dX7_goes_154 : decode cX7_goes 154 = .ok (.iload 4, 2) := by decide +kernel
theorem dX7_goes_156 : decode cX7_goes 156 = .ok (.iaload, 1) := by decide +kernel
theorem dX7_goes_157 : decode cX7_goes 157 = .ok (.iastore, 1) := by decide +kernel
theorem dX7_goes_158 : decode cX7_goes 158 = .ok (.iinc 3 1, 3) := by decide +kernel
theorem dX7_goes_161 : decode cX7_goes 161 = .ok (.iinc 4 1, 3) := by decide +kernel
theorem dX7_goes_164 : decode cX7_goes 164 = .ok (.goto (-67), 3) := by decide +kernel
theorem dX7_goes_167 : decode cX7_goes 167 = .ok (.aload_n 0, 1) := by decide +kernel
theorem dX7_goes_168 : decode cX7_goes 168 = .ok (.iload_n 3, 1) := by decide +kernel
theorem dX7_goes_169 : decode cX7_goes 169 = .ok (.putfield 213, 3) := by decide +kernel
theorem dX7_goes_172 : decode cX7_goes 172 = .ok (.iconst 1, 1) := by decide +kernel
theorem dX7_goes_173 : decode cX7_goes 173 = .ok (.ireturn, 1) := by decide +kernel
theorem dX7_goes__0 : decode cX7_goes_ 0 = .ok (.aload_n 0, 1) := by decide +kernel
theorem dX7_goes__1 : decode cX7_goes_ 1 = .ok (.invokevirtual 232, 3) := by decide +kernel
theorem dX7_goes__4 : decode cX7_goes_ 4 = .ok (.iconst 1, 1) := by decide +kernel
theorem dX7_goes__5 : decode cX7_goes_ 5 = .ok (.istore_n 2, 1) := by decide +kernel
theorem dX7_goes__6 : decode cX7_goes_ 6 = .ok (.iconst 0, 1) := by decide +kernel
theorem dX7_goes__7 : decode cX7_goes_ 7 = .ok (.istore_n 3, 1) := by decide +kernel
theorem dX7_goes__8 : decode cX7_goes_ 8 = .ok (.iload_n 3, 1) := by decide +kernel
theorem dX7_goes__9 : decode cX7_goes_ 9 = .ok (.iload_n 1, 1) := by decide +kernel
theorem dX7_goes__10 : decode cX7_goes_ 10 = .ok (.if_icmp .ge 18, 3) := by decide +kernel
theorem dX7_goes__13 : decode cX7_goes_ 13 = .ok (.iload_n 2, 1) := by decide +kernel
theorem dX7_goes__14 : decode cX7_goes_ 14 = .ok (.ifCond .eq 14, 3) := by decide +kernel
theorem dX7_goes__17 : decode cX7_goes_ 17 = .ok (.aload_n 0, 1) := by decide +kernel
theorem dX7_goes__18 : decode cX7_goes_ 18 = .ok (.invokevirtual 235, 3) := by decide +kernel
theorem dX7_goes__21 : decode cX7_goes_ 21 = .ok (.istore_n 2, 1) := by decide +kernel
theorem dX7_goes__22 : decode cX7_goes_ 22 = .ok (.iinc 3 1, 3) := by decide +kernel
theorem dX7_goes__25 : decode cX7_goes_ 25 = .ok (.goto (-17), 3) := by decide +kernel
theorem dX7_goes__28 : decode cX7_goes_ 28 = .ok (.iload_n 2, 1) := by decide +kernel
theorem dX7_goes__29 : decode cX7_goes_ 29 = .ok (.ireturn, 1) := by decide +kernel
theorem dX7_greatest_0 : decode cX7_greatest 0 = .ok (.aload_n 0, 1) := by decide +kernel
theorem dX7_greatest_1 : decode cX7_greatest 1 = .ok (.getfield 47, 3) := by decide +kernel
theorem dX7_greatest_4 : decode cX7_greatest 4 = .ok (.iconst 0, 1) := by decide +kernel
theorem dX7_greatest_5 : decode cX7_greatest 5 = .ok (.laload, 1) := by decide +kernel
theorem dX7_greatest_6 : decode cX7_greatest 6 = .ok (.lstore_n 1, 1) := by decide +kernel
theorem dX7_greatest_7 : decode cX7_greatest 7 = .ok (.iconst 1, 1) := by decide +kernel
theorem dX7_greatest_8 : decode cX7_greatest 8 = .ok (.istore_n 3, 1) := by decide +kernel
theorem dX7_greatest_9 : decode cX7_greatest 9 = .ok (.iload_n 3, 1) := by decide +kernel
theorem dX7_greatest_10 : decode cX7_greatest 10 = .ok (.aload_n 0, 1) := by decide +kernel
theorem dX7_greatest_11 : decode cX7_greatest 11 = .ok (.getfield 129, 3) := by decide +kernel
theorem dX7_greatest_14 : decode cX7_greatest 14 = .ok (.if_icmp .ge 20, 3) := by decide +kernel
theorem dX7_greatest_17 : decode cX7_greatest 17 = .ok (.lload_n 1, 1) := by decide +kernel
theorem dX7_greatest_18 : decode cX7_greatest 18 = .ok (.aload_n 0, 1) := by decide +kernel
theorem dX7_greatest_19 : decode cX7_greatest 19 = .ok (.getfield 47, 3) := by decide +kernel
theorem dX7_greatest_22 : decode cX7_greatest 22 = .ok (.iload_n 3, 1) := by decide +kernel
theorem dX7_greatest_23 : decode cX7_greatest 23 = .ok (.laload, 1) := by decide +kernel
theorem dX7_greatest_24 : decode cX7_greatest 24 = .ok (.invokestatic 239, 3) := by decide +kernel
theorem dX7_greatest_27 : decode cX7_greatest 27 = .ok (.lstore_n 1, 1) := by decide +kernel
theorem dX7_greatest_28 : decode cX7_greatest 28 = .ok (.iinc 3 1, 3) := by decide +kernel
theorem dX7_greatest_31 : decode cX7_greatest 31 = .ok (.goto (-22), 3) := by decide +kernel
theorem dX7_greatest_34 : decode cX7_greatest 34 = .ok (.lload_n 1, 1) := by decide +kernel
theorem dX7_greatest_35 : decode cX7_greatest 35 = .ok (.lreturn, 1) := by decide +kernel
theorem dX7_least_0 : decode cX7_least 0 = .ok (.aload_n 0, 1) := by decide +kernel
theorem dX7_least_1 : decode cX7_least 1 = .ok (.getfield 47, 3) := by decide +kernel
theorem dX7_least_4 : decode cX7_least 4 = .ok (.iconst 0, 1) := by decide +kernel
theorem dX7_least_5 : decode cX7_least 5 = .ok (.laload, 1) := by decide +kernel
theorem dX7_least_6 : decode cX7_least 6 = .ok (.lstore_n 1, 1) := by decide +kernel
theorem dX7_least_7 : decode cX7_least 7 = .ok (.iconst 1, 1) := by decide +kernel
theorem dX7_least_8 : decode cX7_least 8 = .ok (.istore_n 3, 1) := by decide +kernel
theorem dX7_least_9 : decode cX7_least 9 = .ok (.iload_n 3, 1) := by decide +kernel
theorem dX7_least_10 : decode cX7_least 10 = .ok (.aload_n 0, 1) := by decide +kernel
theorem dX7_least_11 : decode cX7_least 11 = .ok (.getfield 129, 3) := by decide +kernel
theorem dX7_least_14 : decode cX7_least 14 = .ok (.if_icmp .ge 20, 3) := by decide +kernel
theorem dX7_least_17 : decode cX7_least 17 = .ok (.lload_n 1, 1) := by decide +kernel
theorem dX7_least_18 : decode cX7_least 18 = .ok (.aload_n 0, 1) := by decide +kernel
theorem dX7_least_19 : decode cX7_least 19 = .ok (.getfield 47, 3) := by decide +kernel
theorem dX7_least_22 : decode cX7_least 22 = .ok (.iload_n 3, 1) := by decide +kernel
theorem dX7_least_23 : decode cX7_least 23 = .ok (.laload, 1) := by decide +kernel
theorem dX7_least_24 : decode cX7_least 24 = .ok (.invokestatic 242, 3) := by decide +kernel
theorem dX7_least_27 : decode cX7_least 27 = .ok (.lstore_n 1, 1) := by decide +kernel
theorem dX7_least_28 : decode cX7_least 28 = .ok (.iinc 3 1, 3) := by decide +kernel
theorem dX7_least_31 : decode cX7_least 31 = .ok (.goto (-22), 3) := by decide +kernel
theorem dX7_least_34 : decode cX7_least 34 = .ok (.lload_n 1, 1) := by decide +kernel
theorem dX7_least_35 : decode cX7_least 35 = .ok (.lreturn, 1) := by decide +kernel
theorem dX7_isMore_0 : decode cX7_isMore 0 = .ok (.lload_n 0, 1) := by decide +kernel
theorem dX7_isMore_1 : decode cX7_isMore 1 = .ok (.lload_n 2, 1) := by decide +kernel
theorem dX7_isMore_2 : decode cX7_isMore 2 = .ok (.invokestatic 245, 3) := by decide +kernel
theorem dX7_isMore_5 : decode cX7_isMore 5 = .ok (.lstore 8, 2) := by decide +kernel
theorem dX7_isMore_7 : decode cX7_isMore 7 = .ok (.lload 4, 2) := by decide +kernel
theorem dX7_isMore_9 : decode cX7_isMore 9 = .ok (.lload 6, 2) := by decide +kernel
theorem dX7_isMore_11 : decode cX7_isMore 11 = .ok (.invokestatic 245, 3) := by decide +kernel
theorem dX7_isMore_14 : decode cX7_isMore 14 = .ok (.lstore 10, 2) := by decide +kernel
theorem dX7_isMore_16 : decode cX7_isMore 16 = .ok (.lload 8, 2) := by decide +kernel
theorem dX7_isMore_18 : decode cX7_isMore 18 = .ok (.lload 10, 2) := by decide +kernel
theorem dX7_isMore_20 : decode cX7_isMore 20 = .ok (.lcmp, 1) := by decide +kernel
theorem dX7_isMore_21 : decode cX7_isMore 21 = .ok (.ifCond .eq 17, 3) := by decide +kernel
theorem dX7_isMore_24 : decode cX7_isMore 24 = .ok (.lload 8, 2) := by decide +kernel
theorem dX7_isMore_26 : decode cX7_isMore 26 = .ok (.lload 10, 2) := by decide +kernel
theorem dX7_isMore_28 : decode cX7_isMore 28 = .ok (.lcmp, 1) := by decide +kernel
theorem dX7_isMore_29 : decode cX7_isMore 29 = .ok (.ifCond .le 7, 3) := by decide +kernel
theorem dX7_isMore_32 : decode cX7_isMore 32 = .ok (.iconst 1, 1) := by decide +kernel
theorem dX7_isMore_33 : decode cX7_isMore 33 = .ok (.goto 4, 3) := by decide +kernel
theorem dX7_isMore_36 : decode cX7_isMore 36 = .ok (.iconst 0, 1) := by decide +kernel
theorem dX7_isMore_37 : decode cX7_isMore 37 = .ok (.ireturn, 1) := by decide +kernel
theorem dX7_isMore_38 : decode cX7_isMore 38 = .ok (.lload_n 0, 1) := by decide +kernel
theorem dX7_isMore_39 : decode cX7_isMore 39 = .ok (.lload 8, 2) := by decide +kernel
theorem dX7_isMore_41 : decode cX7_isMore 41 = .ok (.lload_n 2, 1) := by decide +kernel
theorem dX7_isMore_42 : decode cX7_isMore 42 = .ok (.lmul, 1) := by decide +kernel
theorem dX7_isMore_43 : decode cX7_isMore 43 = .ok (.lsub, 1) := by decide +kernel
theorem dX7_isMore_44 : decode cX7_isMore 44 = .ok (.lstore 12, 2) := by decide +kernel
theorem dX7_isMore_46 : decode cX7_isMore 46 = .ok (.lload 4, 2) := by decide +kernel
theorem dX7_isMore_48 : decode cX7_isMore 48 = .ok (.lload 10, 2) := by decide +kernel
theorem dX7_isMore_50 : decode cX7_isMore 50 = .ok (.lload 6, 2) := by decide +kernel
theorem dX7_isMore_52 : decode cX7_isMore 52 = .ok (.lmul, 1) := by decide +kernel
theorem dX7_isMore_53 : decode cX7_isMore 53 = .ok (.lsub, 1) := by decide +kernel
theorem dX7_isMore_54 : decode cX7_isMore 54 = .ok (.lstore 14, 2) := by decide +kernel
theorem dX7_isMore_56 : decode cX7_isMore 56 = .ok (.lload 12, 2) := by decide +kernel
theorem dX7_isMore_58 : decode cX7_isMore 58 = .ok (.lconst 0, 1) := by decide +kernel
theorem dX7_isMore_59 : decode cX7_isMore 59 = .ok (.lcmp, 1) := by decide +kernel
theorem dX7_isMore_60 : decode cX7_isMore 60 = .ok (.ifCond .eq 10, 3) := by decide +kernel
theorem dX7_isMore_63 : decode cX7_isMore 63 = .ok (.lload 14, 2) := by decide +kernel
theorem dX7_isMore_65 : decode cX7_isMore 65 = .ok (.lconst 0, 1) := by decide +kernel
theorem dX7_isMore_66 : decode cX7_isMore 66 = .ok (.lcmp, 1) := by decide +kernel
theorem dX7_isMore_67 : decode cX7_isMore 67 = .ok (.ifCond .ne 16, 3) := by decide +kernel
theorem dX7_isMore_70 : decode cX7_isMore 70 = .ok (.lload 12, 2) := by decide +kernel
theorem dX7_isMore_72 : decode cX7_isMore 72 = .ok (.lconst 0, 1) := by decide +kernel
theorem dX7_isMore_73 : decode cX7_isMore 73 = .ok (.lcmp, 1) := by decide +kernel
theorem dX7_isMore_74 : decode cX7_isMore 74 = .ok (.ifCond .le 7, 3) := by decide +kernel
theorem dX7_isMore_77 : decode cX7_isMore 77 = .ok (.iconst 1, 1) := by decide +kernel
theorem dX7_isMore_78 : decode cX7_isMore 78 = .ok (.goto 4, 3) := by decide +kernel
theorem dX7_isMore_81 : decode cX7_isMore 81 = .ok (.iconst 0, 1) := by decide +kernel
theorem dX7_isMore_82 : decode cX7_isMore 82 = .ok (.ireturn, 1) := by decide +kernel
theorem dX7_isMore_83 : decode cX7_isMore 83 = .ok (.lload 6, 2) := by decide +kernel
theorem dX7_isMore_85 : decode cX7_isMore 85 = .ok (.lload 14, 2) := by decide +kernel
theorem dX7_isMore_87 : decode cX7_isMore 87 = .ok (.lload_n 2, 1) := by decide +kernel
theorem dX7_isMore_88 : decode cX7_isMore 88 = .ok (.lload 12, 2) := by decide +kernel
theorem dX7_isMore_90 : decode cX7_isMore 90 = .ok (.invokestatic 248, 3) := by decide +kernel
theorem dX7_isMore_93 : decode cX7_isMore 93 = .ok (.ireturn, 1) := by decide +kernel
theorem dX7_t_0 : decode cX7_t 0 = .ok (.aload_n 0, 1) := by decide +kernel
theorem dX7_t_1 : decode cX7_t 1 = .ok (.iload_n 1, 1) := by decide +kernel
theorem dX7_t_2 : decode cX7_t 2 = .ok (.invokevirtual 177, 3) := by decide +kernel
theorem dX7_t_5 : decode cX7_t 5 = .ok (.ifCond .eq 30, 3) := by decide +kernel
theorem dX7_t_8 : decode cX7_t 8 = .ok (.iload_n 2, 1) := by decide +kernel
theorem dX7_t_9 : decode cX7_t 9 = .ok (.i2l, 1) := by decide +kernel
theorem dX7_t_10 : decode cX7_t 10 = .ok (.lconst 0, 1) := by decide +kernel
theorem dX7_t_11 : decode cX7_t 11 = .ok (.lconst 1, 1) := by decide +kernel
theorem dX7_t_12 : decode cX7_t 12 = .ok (.invokestatic 133, 3) := by decide +kernel
theorem dX7_t_15 : decode cX7_t 15 = .ok (.ifCond .eq 20, 3) := by decide +kernel
theorem dX7_t_18 : decode cX7_t 18 = .ok (.aload_n 0, 1) := by decide +kernel
theorem dX7_t_19 : decode cX7_t 19 = .ok (.getfield 24, 3) := by decide +kernel
theorem dX7_t_22 : decode cX7_t 22 = .ok (.iload_n 1, 1) := by decide +kernel
theorem dX7_t_23 : decode cX7_t 23 = .ok (.laload, 1) := by decide +kernel
theorem dX7_t_24 : decode cX7_t 24 = .ok (.aload_n 0, 1) := by decide +kernel
theorem dX7_t_25 : decode cX7_t 25 = .ok (.getfield 28, 3) := by decide +kernel
theorem dX7_t_28 : decode cX7_t 28 = .ok (.iload_n 2, 1) := by decide +kernel
theorem dX7_t_29 : decode cX7_t 29 = .ok (.invokestatic 252, 3) := by decide +kernel
theorem dX7_t_32 : decode cX7_t 32 = .ok (.goto 6, 3) := by decide +kernel
theorem dX7_t_35 : decode cX7_t 35 = .ok (.ldc2_w 256, 3) := by decide +kernel
theorem dX7_t_38 : decode cX7_t 38 = .ok (.lreturn, 1) := by decide +kernel
theorem dX7_line_0 : decode cX7_line 0 = .ok (.aload_n 0, 1) := by decide +kernel
theorem dX7_line_1 : decode cX7_line 1 = .ok (.getfield 28, 3) := by decide +kernel
theorem dX7_line_4 : decode cX7_line 4 = .ok (.lreturn, 1) := by decide +kernel
