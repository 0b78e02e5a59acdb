theorem dX7_flow_0 : decode cX7_flow 0 = .ok (.aload_n 0, 1) := by decide +kernel
theorem dX7_flow_1 : decode cX7_flow 1 = .ok (.iload_n 1, 1) := by decide +kernel
theorem dX7_flow_2 : decode cX7_flow 2 = .ok (.invokevirtual 201, 3) := by decide +kernel
theorem dX7_flow_5 : decode cX7_flow 5 = .ok (.ifCond .eq 13, 3) := by decide +kernel
theorem dX7_flow_8 : decode cX7_flow 8 = .ok (.iload_n 2, 1) := by decide +kernel
theorem dX7_flow_9 : decode cX7_flow 9 = .ok (.i2l, 1) := by decide +kernel
theorem dX7_flow_10 : decode cX7_flow 10 = .ok (.lconst 0, 1) := by decide +kernel
theorem dX7_flow_11 : decode cX7_flow 11 = .ok (.lconst 1, 1) := by decide +kernel
theorem dX7_flow_12 : decode cX7_flow 12 = .ok (.invokestatic 133, 3) := by decide +kernel
theorem dX7_flow_15 : decode cX7_flow 15 = .ok (.ifCond .ne 7, 3) := by decide +kernel
theorem dX7_flow_18 : decode cX7_flow 18 = .ok (.ldc2_w 256, 3) := by decide +kernel
theorem dX7_flow_21 : decode cX7_flow 21 = .ok (.lreturn, 1) := by decide +kernel
theorem dX7_flow_22 : decode cX7_flow 22 = .ok (.aload_n 0, 1) := by decide +kernel
theorem dX7_flow_23 : decode cX7_flow 23 = .ok (.invokevirtual 232, 3) := by decide +kernel
theorem dX7_flow_26 : decode cX7_flow 26 = .ok (.aload_n 0, 1) := by decide +kernel
theorem dX7_flow_27 : decode cX7_flow 27 = .ok (.iload_n 1, 1) := by decide +kernel
theorem dX7_flow_28 : decode cX7_flow 28 = .ok (.invokevirtual 216, 3) := by decide +kernel
theorem dX7_flow_31 : decode cX7_flow 31 = .ok (.aload_n 0, 1) := by decide +kernel
theorem dX7_flow_32 : decode cX7_flow 32 = .ok (.getfield 28, 3) := by decide +kernel
theorem dX7_flow_35 : decode cX7_flow 35 = .ok (.iload_n 2, 1) := by decide +kernel
theorem dX7_flow_36 : decode cX7_flow 36 = .ok (.invokestatic 252, 3) := by decide +kernel
theorem dX7_flow_39 : decode cX7_flow 39 = .ok (.lreturn, 1) := by decide +kernel
theorem dX7_together_0 : decode cX7_together 0 = .ok (.aload_n 0, 1) := by decide +kernel
theorem dX7_together_1 : decode cX7_together 1 = .ok (.iload_n 1, 1) := by decide +kernel
theorem dX7_together_2 : decode cX7_together 2 = .ok (.iconst 1, 1) := by decide +kernel
theorem dX7_together_3 : decode cX7_together 3 = .ok (.isub, 1) := by decide +kernel
theorem dX7_together_4 : decode cX7_together 4 = .ok (.invokevirtual 204, 3) := by decide +kernel
theorem dX7_together_7 : decode cX7_together 7 = .ok (.aload_n 0, 1) := by decide +kernel
theorem dX7_together_8 : decode cX7_together 8 = .ok (.iload_n 1, 1) := by decide +kernel
theorem dX7_together_9 : decode cX7_together 9 = .ok (.invokevirtual 204, 3) := by decide +kernel
theorem dX7_together_12 : decode cX7_together 12 = .ok (.iadd, 1) := by decide +kernel
theorem dX7_together_13 : decode cX7_together 13 = .ok (.aload_n 0, 1) := by decide +kernel
theorem dX7_together_14 : decode cX7_together 14 = .ok (.iload_n 1, 1) := by decide +kernel
theorem dX7_together_15 : decode cX7_together 15 = .ok (.invokevirtual 191, 3) := by decide +kernel
theorem dX7_together_18 : decode cX7_together 18 = .ok (.iadd, 1) := by decide +kernel
theorem dX7_together_19 : decode cX7_together 19 = .ok (.ireturn, 1) := by decide +kernel
theorem dX7_stable_0 : decode cX7_stable 0 = .ok (.iload_n 1, 1) := by decide +kernel
theorem dX7_stable_1 : decode cX7_stable 1 = .ok (.iconst (-1), 1) := by decide +kernel
theorem dX7_stable_2 : decode cX7_stable 2 = .ok (.if_icmp .eq 14, 3) := by decide +kernel
theorem dX7_stable_5 : decode cX7_stable 5 = .ok (.aload_n 0, 1) := by decide +kernel
theorem dX7_stable_6 : decode cX7_stable 6 = .ok (.iload_n 1, 1) := by decide +kernel
theorem dX7_stable_7 : decode cX7_stable 7 = .ok (.invokevirtual 177, 3) := by decide +kernel
theorem dX7_stable_10 : decode cX7_stable 10 = .ok (.ifCond .ne 6, 3) := by decide +kernel
theorem dX7_stable_13 : decode cX7_stable 13 = .ok (.bipush (-2), 2) := by decide +kernel
theorem dX7_stable_15 : decode cX7_stable 15 = .ok (.ireturn, 1) := by decide +kernel
theorem dX7_stable_16 : decode cX7_stable 16 = .ok (.iconst 1, 1) := by decide +kernel
theorem dX7_stable_17 : decode cX7_stable 17 = .ok (.istore_n 2, 1) := by decide +kernel
theorem dX7_stable_18 : decode cX7_stable 18 = .ok (.iconst 0, 1) := by decide +kernel
theorem dX7_stable_19 : decode cX7_stable 19 = .ok (.istore_n 3, 1) := by decide +kernel
theorem dX7_stable_20 : decode cX7_stable 20 = .ok (.iload_n 3, 1) := by decide +kernel
theorem dX7_stable_21 : decode cX7_stable 21 = .ok (.aload_n 0, 1) := by decide +kernel
theorem dX7_stable_22 : decode cX7_stable 22 = .ok (.getfield 129, 3) := by decide +kernel
theorem dX7_stable_25 : decode cX7_stable 25 = .ok (.if_icmp .ge 49, 3) := by decide +kernel
theorem dX7_stable_28 : decode cX7_stable 28 = .ok (.iload_n 2, 1) := by decide +kernel
theorem dX7_stable_29 : decode cX7_stable 29 = .ok (.ifCond .eq 37, 3) := by decide +kernel
theorem dX7_stable_32 : decode cX7_stable 32 = .ok (.iload_n 1, 1) := by decide +kernel
theorem dX7_stable_33 : decode cX7_stable 33 = .ok (.iconst (-1), 1) := by decide +kernel
theorem dX7_stable_34 : decode cX7_stable 34 = .ok (.if_icmp .eq 8, 3) := by decide +kernel
theorem dX7_stable_37 : decode cX7_stable 37 = .ok (.iload_n 1, 1) := by decide +kernel
theorem dX7_stable_38 : decode cX7_stable 38 = .ok (.iload_n 3, 1) := by decide +kernel
theorem dX7_stable_39 : decode cX7_stable 39 = .ok (.if_icmp .ne 23, 3) := by decide +kernel
theorem dX7_stable_42 : decode cX7_stable 42 = .ok (.aload_n 0, 1) := by decide +kernel
theorem dX7_stable_43 : decode cX7_stable 43 = .ok (.iload_n 3, 1) := by decide +kernel
theorem dX7_stable_44 : decode cX7_stable 44 = .ok (.invokevirtual 258, 3) := by decide +kernel
theorem dX7_stable_47 : decode cX7_stable 47 = .ok (.aload_n 0, 1) := by decide +kernel
theorem dX7_stable_48 : decode cX7_stable 48 = .ok (.iload_n 3, 1) := by decide +kernel
theorem dX7_stable_49 : decode cX7_stable 49 = .ok (.invokevirtual 188, 3) := by decide +kernel
theorem dX7_stable_52 : decode cX7_stable 52 = .ok (.aload_n 0, 1) := by decide +kernel
theorem dX7_stable_53 : decode cX7_stable 53 = .ok (.getfield 35, 3) := by decide +kernel
theorem dX7_stable_56 : decode cX7_stable 56 = .ok (.iconst 0, 1) := by decide +kernel
theorem dX7_stable_57 : decode cX7_stable 57 = .ok (.iaload, 1) := by decide +kernel
theorem dX7_stable_58 : decode cX7_stable 58 = .ok (.imul, 1) := by decide +kernel
theorem dX7_stable_59 : decode cX7_stable 59 = .ok (.if_icmp .gt 7, 3) := by decide +kernel
theorem dX7_stable_62 : decode cX7_stable 62 = .ok (.iconst 1, 1) := by decide +kernel
theorem dX7_stable_63 : decode cX7_stable 63 = .ok (.goto 4, 3) := by decide +kernel
theorem dX7_stable_66 : decode cX7_stable 66 = .ok (.iconst 0, 1) := by decide +kernel
theorem dX7_stable_67 : decode cX7_stable 67 = .ok (.istore_n 2, 1) := by decide +kernel
theorem dX7_stable_68 : decode cX7_stable 68 = .ok (.iinc 3 1, 3) := by decide +kernel
theorem dX7_stable_71 : decode cX7_stable 71 = .ok (.goto (-51), 3) := by decide +kernel
theorem dX7_stable_74 : decode cX7_stable 74 = .ok (.iload_n 2, 1) := by decide +kernel
theorem dX7_stable_75 : decode cX7_stable 75 = .ok (.ifCond .eq 7, 3) := by decide +kernel
theorem dX7_stable_78 : decode cX7_stable 78 = .ok (.iconst 1, 1) := by decide +kernel
theorem dX7_stable_79 : decode cX7_stable 79 = .ok (.goto 4, 3) := by decide +kernel
theorem dX7_stable_82 : decode cX7_stable 82 = .ok (.iconst 0, 1) := by decide +kernel
theorem dX7_stable_83 : decode cX7_stable 83 = .ok (.ireturn, 1) := by decide +kernel
theorem dX7_need_0 : decode cX7_need 0 = .ok (.iconst 1, 1) := by decide +kernel
theorem dX7_need_1 : decode cX7_need 1 = .ok (.istore_n 1, 1) := by decide +kernel
theorem dX7_need_2 : decode cX7_need 2 = .ok (.iconst 0, 1) := by decide +kernel
theorem dX7_need_3 : decode cX7_need 3 = .ok (.istore_n 2, 1) := by decide +kernel
theorem dX7_need_4 : decode cX7_need 4 = .ok (.iload_n 2, 1) := by decide +kernel
theorem dX7_need_5 : decode cX7_need 5 = .ok (.aload_n 0, 1) := by decide +kernel
theorem dX7_need_6 : decode cX7_need 6 = .ok (.getfield 129, 3) := by decide +kernel
theorem dX7_need_9 : decode cX7_need 9 = .ok (.if_icmp .ge 33, 3) := by decide +kernel
theorem dX7_need_12 : decode cX7_need 12 = .ok (.iload_n 1, 1) := by decide +kernel
theorem dX7_need_13 : decode cX7_need 13 = .ok (.aload_n 0, 1) := by decide +kernel
theorem dX7_need_14 : decode cX7_need 14 = .ok (.iload_n 2, 1) := by decide +kernel
theorem dX7_need_15 : decode cX7_need 15 = .ok (.invokevirtual 258, 3) := by decide +kernel
theorem dX7_need_18 : decode cX7_need 18 = .ok (.aload_n 0, 1) := by decide +kernel
theorem dX7_need_19 : decode cX7_need 19 = .ok (.iload_n 2, 1) := by decide +kernel
theorem dX7_need_20 : decode cX7_need 20 = .ok (.invokevirtual 188, 3) := by decide +kernel
theorem dX7_need_23 : decode cX7_need 23 = .ok (.iadd, 1) := by decide +kernel
theorem dX7_need_24 : decode cX7_need 24 = .ok (.iconst 1, 1) := by decide +kernel
theorem dX7_need_25 : decode cX7_need 25 = .ok (.isub, 1) := by decide +kernel
theorem dX7_need_26 : decode cX7_need 26 = .ok (.aload_n 0, 1) := by decide +kernel
theorem dX7_need_27 : decode cX7_need 27 = .ok (.iload_n 2, 1) := by decide +kernel
theorem dX7_need_28 : decode cX7_need 28 = .ok (.invokevirtual 188, 3) := by decide +kernel
theorem dX7_need_31 : decode cX7_need 31 = .ok (.idiv, 1) := by decide +kernel
theorem dX7_need_32 : decode cX7_need 32 = .ok (.invokestatic 261, 3) := by decide +kernel
theorem dX7_need_35 : decode cX7_need 35 = .ok (.istore_n 1, 1) := by decide +kernel
theorem dX7_need_36 : decode cX7_need 36 = .ok (.iinc 2 1, 3) := by decide +kernel
theorem dX7_need_39 : decode cX7_need 39 = .ok (.goto (-35), 3) := by decide +kernel
theorem dX7_need_42 : decode cX7_need 42 = .ok (.iload_n 1, 1) := by decide +kernel
theorem dX7_need_43 : decode cX7_need 43 = .ok (.ireturn, 1) := by decide +kernel
theorem dX7_sum_0 : decode cX7_sum 0 = .ok (.iload_n 1, 1) := by decide +kernel
theorem dX7_sum_1 : decode cX7_sum 1 = .ok (.i2l, 1) := by decide +kernel
theorem dX7_sum_2 : decode cX7_sum 2 = .ok (.lconst 0, 1) := by decide +kernel
theorem dX7_sum_3 : decode cX7_sum 3 = .ok (.lconst 1, 1) := by decide +kernel
theorem dX7_sum_4 : decode cX7_sum 4 = .ok (.invokestatic 133, 3) := by decide +kernel
theorem dX7_sum_7 : decode cX7_sum 7 = .ok (.ifCond .ne 7, 3) := by decide +kernel
theorem dX7_sum_10 : decode cX7_sum 10 = .ok (.ldc2_w 256, 3) := by decide +kernel
theorem dX7_sum_13 : decode cX7_sum 13 = .ok (.lreturn, 1) := by decide +kernel
theorem dX7_sum_14 : decode cX7_sum 14 = .ok (.lconst 0, 1) := by decide +kernel
theorem dX7_sum_15 : decode cX7_sum 15 = .ok (.lstore_n 2, 1) := by decide +kernel
theorem dX7_sum_16 : decode cX7_sum 16 = .ok (.iconst 0, 1) := by decide +kernel
theorem dX7_sum_17 : decode cX7_sum 17 = .ok (.istore 4, 2) := by decide +kernel
theorem dX7_sum_19 : decode cX7_sum 19 = .ok (.iload 4, 2) := by decide +kernel
theorem dX7_sum_21 : decode cX7_sum 21 = .ok (.aload_n 0, 1) := by decide +kernel
theorem dX7_sum_22 : decode cX7_sum 22 = .ok (.getfield 129, 3) := by decide +kernel
theorem dX7_sum_25 : decode cX7_sum 25 = .ok (.if_icmp .ge 27, 3) := by decide +kernel
theorem dX7_sum_28 : decode cX7_sum 28 = .ok (.lload_n 2, 1) := by decide +kernel
theorem dX7_sum_29 : decode cX7_sum 29 = .ok (.aload_n 0, 1) := by decide +kernel
theorem dX7_sum_30 : decode cX7_sum 30 = .ok (.iload 4, 2) := by decide +kernel
theorem dX7_sum_32 : decode cX7_sum 32 = .ok (.invokevirtual 188, 3) := by decide +kernel
theorem dX7_sum_35 : decode cX7_sum 35 = .ok (.i2l, 1) := by decide +kernel
theorem dX7_sum_36 : decode cX7_sum 36 = .ok (.aload_n 0, 1) := by decide +kernel
theorem dX7_sum_37 : decode cX7_sum 37 = .ok (.getfield 24, 3) := by decide +kernel
theorem dX7_sum_40 : decode cX7_sum 40 = .ok (.iload 4, 2) := by decide +kernel
theorem dX7_sum_42 : decode cX7_sum 42 = .ok (.laload, 1) := by decide +kernel
theorem dX7_sum_43 : decode cX7_sum 43 = .ok (.lmul, 1) := by decide +kernel
theorem dX7_sum_44 : decode cX7_sum 44 = .ok (.ladd, 1) := by decide +kernel
theorem dX7_sum_45 : decode cX7_sum 45 = .ok (.lstore_n 2, 1) := by decide +kernel
theorem dX7_sum_46 : decode cX7_sum 46 = .ok (.iinc 4 1, 3) := by decide +kernel
theorem dX7_sum_49 : decode cX7_sum 49 = .ok (.goto (-30), 3) := by decide +kernel
theorem dX7_sum_52 : decode cX7_sum 52 = .ok (.lload_n 2, 1) := by decide +kernel
theorem dX7_sum_53 : decode cX7_sum 53 = .ok (.aload_n 0, 1) := by decide +kernel
theorem dX7_sum_54 : decode cX7_sum 54 = .ok (.getfield 28, 3) := by decide +kernel
theorem dX7_sum_57 : decode cX7_sum 57 = .ok (.iload_n 1, 1) := by decide +kernel
theorem dX7_sum_58 : decode cX7_sum 58 = .ok (.invokestatic 252, 3) := by decide +kernel
theorem dX7_sum_61 : decode cX7_sum 61 = .ok (.lreturn, 1) := by decide +kernel
theorem dX7_most_0 : decode cX7_most 0 = .ok (.iload_n 1, 1) := by decide +kernel
theorem dX7_most_1 : decode cX7_most 1 = .ok (.i2l, 1) := by decide +kernel
theorem dX7_most_2 : decode cX7_most 2 = .ok (.lconst 0, 1) := by decide +kernel
theorem dX7_most_3 : decode cX7_most 3 = .ok (.lconst 1, 1) := by decide +kernel
theorem dX7_most_4 : decode cX7_most 4 = .ok (.invokestatic 133, 3) := by decide +kernel
theorem dX7_most_7 : decode cX7_most 7 = .ok (.ifCond .ne 6, 3) := by decide +kernel
theorem dX7_most_10 : decode cX7_most 10 = .ok (.bipush (-2), 2) := by decide +kernel
theorem dX7_most_12 : decode cX7_most 12 = .ok (.ireturn, 1) := by decide +kernel
theorem dX7_most_13 : decode cX7_most 13 = .ok (.iconst (-1), 1) := by decide +kernel
theorem dX7_most_14 : decode cX7_most 14 = .ok (.istore_n 2, 1) := by decide +kernel
theorem dX7_most_15 : decode cX7_most 15 = .ok (.iconst 0, 1) := by decide +kernel
theorem dX7_most_16 : decode cX7_most 16 = .ok (.istore_n 3, 1) := by decide +kernel
theorem dX7_most_17 : decode cX7_most 17 = .ok (.iload_n 3, 1) := by decide +kernel
theorem dX7_most_18 : decode cX7_most 18 = .ok (.aload_n 0, 1) := by decide +kernel
theorem dX7_most_19 : decode cX7_most 19 = .ok (.getfield 129, 3) := by decide +kernel
theorem dX7_most_22 : decode cX7_most 22 = .ok (.if_icmp .ge 71, 3) := by decide +kernel
theorem dX7_most_25 : decode cX7_most 25 = .ok (.iload_n 2, 1) := by decide +kernel
theorem dX7_most_26 : decode cX7_most 26 = .ok (.iconst (-1), 1) := by decide +kernel
theorem dX7_most_27 : decode cX7_most 27 = .ok (.if_icmp .eq 42, 3) := by decide +kernel
theorem dX7_most_30 : decode cX7_most 30 = .ok (.iload_n 1, 1) := by decide +kernel
theorem dX7_most_31 : decode cX7_most 31 = .ok (.ifCond .ne 22, 3) := by decide +kernel
theorem dX7_most_34 : decode cX7_most 34 = .ok (.aload_n 0, 1) := by decide +kernel
theorem dX7_most_35 : decode cX7_most 35 = .ok (.getfield 24, 3) := by decide +kernel
theorem dX7_most_38 : decode cX7_most 38 = .ok (.iload_n 3, 1) := by decide +kernel
theorem dX7_most_39 : decode cX7_most 39 = .ok (.laload, 1) := by decide +kernel
theorem dX7_most_40 : decode cX7_most 40 = .ok (.aload_n 0, 1) := by decide +kernel
theorem dX7_most_41 : decode cX7_most 41 = .ok (.getfield 24, 3) := by decide +kernel
theorem dX7_most_44 : decode cX7_most 44 = .ok (.iload_n 2, 1) := by decide +kernel
theorem dX7_most_45 : decode cX7_most 45 = .ok (.laload, 1) := by decide +kernel
theorem dX7_most_46 : decode cX7_most 46 = .ok (.lcmp, 1) := by decide +kernel
theorem dX7_most_47 : decode cX7_most 47 = .ok (.ifCond .le 26, 3) := by decide +kernel
theorem dX7_most_50 : decode cX7_most 50 = .ok (.goto 19, 3) := by decide +kernel
theorem dX7_most_53 : decode cX7_most 53 = .ok (.aload_n 0, 1) := by decide +kernel
theorem dX7_most_54 : decode cX7_most 54 = .ok (.getfield 24, 3) := by decide +kernel
theorem dX7_most_57 : decode cX7_most 57 = .ok (.iload_n 3, 1) := by decide +kernel
theorem dX7_most_58 : decode cX7_most 58 = .ok (.laload, 1) := by decide +kernel
theorem dX7_most_59 : decode cX7_most 59 = .ok (.aload_n 0, 1) := by decide +kernel
theorem dX7_most_60 : decode cX7_most 60 = .ok (.getfield 24, 3) := by decide +kernel
theorem dX7_most_63 : decode cX7_most 63 = .ok (.iload_n 2, 1) := by decide +kernel
theorem dX7_most_64 : decode cX7_most 64 = .ok (.laload, 1) := by decide +kernel
theorem dX7_most_65 : decode cX7_most 65 = .ok (.lcmp, 1) := by decide +kernel
theorem dX7_most_66 : decode cX7_most 66 = .ok (.ifCond .ge 7, 3) := by decide +kernel
theorem dX7_most_69 : decode cX7_most 69 = .ok (.iconst 1, 1) := by decide +kernel
theorem dX7_most_70 : decode cX7_most 70 = .ok (.goto 4, 3) := by decide +kernel
theorem dX7_most_73 : decode cX7_most 73 = .ok (.iconst 0, 1) := by decide +kernel
theorem dX7_most_74 : decode cX7_most 74 = .ok (.istore 4, 2) := by decide +kernel
theorem dX7_most_76 : decode cX7_most 76 = .ok (.iload 4, 2) := by decide +kernel
theorem dX7_most_78 : decode cX7_most 78 = .ok (.ifCond .eq 7, 3) := by decide +kernel
theorem dX7_most_81 : decode cX7_most 81 = .ok (.iload_n 3, 1) := by decide +kernel
theorem dX7_most_82 : decode cX7_most 82 = .ok (.goto 4, 3) := by decide +kernel
theorem dX7_most_85 : decode cX7_most 85 = .ok (.iload_n 2, 1) := by decide +kernel
theorem dX7_most_86 : decode cX7_most 86 = .ok (.istore_n 2, 1) := by decide +kernel
theorem dX7_most_87 : decode cX7_most 87 = .ok (.iinc 3 1, 3) := by decide +kernel
theorem dX7_most_90 : decode cX7_most 90 = .ok (.goto (-73), 3) := by decide +kernel
theorem dX7_most_93 : decode cX7_most 93 = .ok (.iload_n 2, 1) := by decide +kernel
theorem dX7_most_94 : decode cX7_most 94 = .ok (.ireturn, 1) := by decide +kernel
theorem dX7_step_0 : decode cX7_step 0 = .ok (.iload_n 1, 1) := by decide +kernel
theorem dX7_step_1 : decode cX7_step 1 = .ok (.i2l, 1) := by decide +kernel
theorem dX7_step_2 : decode cX7_step 2 = .ok (.lconst 1, 1) := by decide +kernel
theorem dX7_step_3 : decode cX7_step 3 = .ok (.ldc2_w 263, 3) := by decide +kernel
theorem dX7_step_6 : decode cX7_step 6 = .ok (.invokestatic 133, 3) := by decide +kernel
theorem dX7_step_9 : decode cX7_step 9 = .ok (.ifCond .ne 6, 3) := by decide +kernel
theorem dX7_step_12 : decode cX7_step 12 = .ok (.bipush (-2), 2) := by decide +kernel
theorem dX7_step_14 : decode cX7_step 14 = .ok (.ireturn, 1) := by decide +kernel
theorem dX7_step_15 : decode cX7_step 15 = .ok (.aload_n 0, 1) := by decide +kernel
theorem dX7_step_16 : decode cX7_step 16 = .ok (.getfield 129, 3) := by decide +kernel
theorem dX7_step_19 : decode cX7_step 19 = .ok (.ifCond .ne 6, 3) := by decide +kernel
theorem dX7_step_22 : decode cX7_step 22 = .ok (.bipush (-3), 2) := by decide +kernel
theorem dX7_step_24 : decode cX7_step 24 = .ok (.ireturn, 1) := by decide +kernel
theorem dX7_step_25 : decode cX7_step 25 = .ok (.aload_n 0, 1) := by decide +kernel
theorem dX7_step_26 : decode cX7_step 26 = .ok (.invokevirtual 232, 3) := by decide +kernel
theorem dX7_step_29 : decode cX7_step 29 = .ok (.iconst 0, 1) := by decide +kernel
theorem dX7_step_30 : decode cX7_step 30 = .ok (.istore_n 2, 1) := by decide +kernel
theorem dX7_step_31 : decode cX7_step 31 = .ok (.iload_n 2, 1) := by decide +kernel
theorem dX7_step_32 : decode cX7_step 32 = .ok (.iload_n 1, 1) := by decide +kernel
theorem dX7_step_33 : decode cX7_step 33 = .ok (.if_icmp .ge 16, 3) := by decide +kernel
theorem dX7_step_36 : decode cX7_step 36 = .ok (.aload_n 0, 1) := by decide +kernel
theorem dX7_step_37 : decode cX7_step 37 = .ok (.invokevirtual 235, 3) := by decide +kernel
theorem dX7_step_40 : decode cX7_step 40 = .ok (.ifCond .eq 9, 3) := by decide +kernel
theorem dX7_step_43 : decode cX7_step 43 = .ok (.iinc 2 1, 3) := by decide +kernel
theorem dX7_step_46 : decode cX7_step 46 = .ok (.goto (-15), 3) := by decide +kernel
theorem dX7_step_49 : decode cX7_step 49 = .ok (.aload_n 0, 1) := by decide +kernel
theorem dX7_step_50 : decode cX7_step 50 = .ok (.invokevirtual 265, 3) := by decide +kernel
theorem dX7_step_53 : decode cX7_step 53 = .ok (.iload_n 2, 1) := by decide +kernel
theorem dX7_step_54 : decode cX7_step 54 = .ok (.ireturn, 1) := by decide +kernel
theorem dX7_then_0 : decode cX7_then 0 = .ok (.iload_n 1, 1) := by decide +kernel
theorem dX7_then_1 : decode cX7_then 1 = .ok (.i2l, 1) := by decide +kernel
theorem dX7_then_2 : decode cX7_then 2 = .ok (.lconst 0, 1) := by decide +kernel
theorem dX7_then_3 : decode cX7_then 3 = .ok (.ldc2_w 263, 3) := by decide +kernel
theorem dX7_then_6 : decode cX7_then 6 = .ok (.invokestatic 133, 3) := by decide +kernel
theorem dX7_then_9 : decode cX7_then 9 = .ok (.ifCond .eq 29, 3) := by decide +kernel
theorem dX7_then_12 : decode cX7_then 12 = .ok (.aload_n 0, 1) := by decide +kernel
theorem dX7_then_13 : decode cX7_then 13 = .ok (.iload_n 2, 1) := by decide +kernel
theorem dX7_then_14 : decode cX7_then 14 = .ok (.invokevirtual 177, 3) := by decide +kernel
theorem dX7_then_17 : decode cX7_then 17 = .ok (.ifCond .eq 21, 3) := by decide +kernel
theorem dX7_then_20 : decode cX7_then 20 = .ok (.iload_n 3, 1) := by decide +kernel
theorem dX7_then_21 : decode cX7_then 21 = .ok (.i2l, 1) := by decide +kernel
theorem dX7_then_22 : decode cX7_then 22 = .ok (.lconst 0, 1) := by decide +kernel
theorem dX7_then_23 : decode cX7_then 23 = .ok (.lconst 1, 1) := by decide +kernel
theorem dX7_then_24 : decode cX7_then 24 = .ok (.invokestatic 133, 3) := by decide +kernel
theorem dX7_then_27 : decode cX7_then 27 = .ok (.ifCond .eq 11, 3) := by decide +kernel
theorem dX7_then_30 : decode cX7_then 30 = .ok (.aload_n 0, 1) := by decide +kernel
theorem dX7_then_31 : decode cX7_then 31 = .ok (.iload_n 1, 1) := by decide +kernel
theorem dX7_then_32 : decode cX7_then 32 = .ok (.invokevirtual 268, 3) := by decide +kernel
theorem dX7_then_35 : decode cX7_then 35 = .ok (.ifCond .ne 7, 3) := by decide +kernel
theorem dX7_then_38 : decode cX7_then 38 = .ok (.ldc2_w 256, 3) := by decide +kernel
theorem dX7_then_41 : decode cX7_then 41 = .ok (.lreturn, 1) := by decide +kernel
theorem dX7_then_42 : decode cX7_then 42 = .ok (.aload_n 0, 1) := by decide +kernel
theorem dX7_then_43 : decode cX7_then 43 = .ok (.getfield 47, 3) := by decide +kernel
theorem dX7_then_46 : decode cX7_then 46 = .ok (.iload_n 2, 1) := by decide +kernel
theorem dX7_then_47 : decode cX7_then 47 = .ok (.laload, 1) := by decide +kernel
theorem dX7_then_48 : decode cX7_then 48 = .ok (.aload_n 0, 1) := by decide +kernel
theorem dX7_then_49 : decode cX7_then 49 = .ok (.getfield 207, 3) := by decide +kernel
theorem dX7_then_52 : decode cX7_then 52 = .ok (.iload_n 3, 1) := by decide +kernel
theorem dX7_then_53 : decode cX7_then 53 = .ok (.invokestatic 252, 3) := by decide +kernel
theorem dX7_then_56 : decode cX7_then 56 = .ok (.lreturn, 1) := by decide +kernel
theorem dX7_spent_0 : decode cX7_spent 0 = .ok (.iload_n 1, 1) := by decide +kernel
theorem dX7_spent_1 : decode cX7_spent 1 = .ok (.i2l, 1) := by decide +kernel
theorem dX7_spent_2 : decode cX7_spent 2 = .ok (.lconst 0, 1) := by decide +kernel
theorem dX7_spent_3 : decode cX7_spent 3 = .ok (.lconst 1, 1) := by decide +kernel
theorem dX7_spent_4 : decode cX7_spent 4 = .ok (.invokestatic 133, 3) := by decide +kernel
theorem dX7_spent_7 : decode cX7_spent 7 = .ok (.ifCond .ne 6, 3) := by decide +kernel
theorem dX7_spent_10 : decode cX7_spent 10 = .ok (.bipush (-2), 2) := by decide +kernel
theorem dX7_spent_12 : decode cX7_spent 12 = .ok (.ireturn, 1) := by decide +kernel
theorem dX7_spent_13 : decode cX7_spent 13 = .ok (.aload_n 0, 1) := by decide +kernel
theorem dX7_spent_14 : decode cX7_spent 14 = .ok (.invokevirtual 232, 3) := by decide +kernel
theorem dX7_spent_17 : decode cX7_spent 17 = .ok (.iconst 1, 1) := by decide +kernel
theorem dX7_spent_18 : decode cX7_spent 18 = .ok (.istore_n 2, 1) := by decide +kernel
theorem dX7_spent_19 : decode cX7_spent 19 = .ok (.iload_n 2, 1) := by decide +kernel
theorem dX7_spent_20 : decode cX7_spent 20 = .ok (.bipush 40, 2) := by decide +kernel
theorem dX7_spent_22 : decode cX7_spent 22 = .ok (.if_icmp .gt 36, 3) := by decide +kernel
theorem dX7_spent_25 : decode cX7_spent 25 = .ok (.aload_n 0, 1) := by decide +kernel
theorem dX7_spent_26 : decode cX7_spent 26 = .ok (.getfield 129, 3) := by decide +kernel
theorem dX7_spent_29 : decode cX7_spent 29 = .ok (.ifCond .le 29, 3) := by decide +kernel
theorem dX7_spent_32 : decode cX7_spent 32 = .ok (.aload_n 0, 1) := by decide +kernel
theorem dX7_spent_33 : decode cX7_spent 33 = .ok (.invokevirtual 235, 3) := by decide +kernel
theorem dX7_spent_36 : decode cX7_spent 36 = .ok (.ifCond .ne 16, 3) := by decide +kernel
theorem dX7_spent_39 : decode cX7_spent 39 = .ok (.iload_n 1, 1) := by decide +kernel
theorem dX7_spent_40 : decode cX7_spent 40 = .ok (.ifCond .ne 7, 3) := by decide +kernel
theorem dX7_spent_43 : decode cX7_spent 43 = .ok (.iload_n 2, 1) := by decide +kernel
theorem dX7_spent_44 : decode cX7_spent 44 = .ok (.goto 7, 3) := by decide +kernel
theorem dX7_spent_47 : decode cX7_spent 47 = .ok (.aload_n 0, 1) := by decide +kernel
theorem dX7_spent_48 : decode cX7_spent 48 = .ok (.getfield 227, 3) := by decide +kernel
theorem dX7_spent_51 : decode cX7_spent 51 = .ok (.ireturn, 1) := by decide +kernel
theorem dX7_spent_52 : decode cX7_spent 52 = .ok (.iinc 2 1, 3) := by decide +kernel
theorem dX7_spent_55 : decode cX7_spent 55 = .ok (.goto (-36), 3) := by decide +kernel
theorem dX7_spent_58 : decode cX7_spent 58 = .ok (.iconst (-1), 1) := by decide +kernel
theorem dX7_spent_59 : decode cX7_spent 59 = .ok (.ireturn, 1) := by decide +kernel
theorem dX7_rises_0 : decode cX7_rises 0 = .ok (.iload_n 1, 1) := by decide +kernel
theorem dX7_rises_1 : decode cX7_rises 1 = .ok (.i2l, 1) := by decide +kernel
theorem dX7_rises_2 : decode cX7_rises 2 = .ok (.lconst 1, 1) := by decide +kernel
theorem dX7_rises_3 : decode cX7_rises 3 = .ok (.ldc2_w 263, 3) := by decide +kernel
theorem dX7_rises_6 : decode cX7_rises 6 = .ok (.invokestatic 133, 3) := by decide +kernel
theorem dX7_rises_9 : decode cX7_rises 9 = .ok (.ifCond .ne 6, 3) := by decide +kernel
theorem dX7_rises_12 : decode cX7_rises 12 = .ok (.bipush (-2), 2) := by decide +kernel
theorem dX7_rises_14 : decode cX7_rises 14 = .ok (.ireturn, 1) := by decide +kernel
theorem dX7_rises_15 : decode cX7_rises 15 = .ok (.aload_n 0, 1) := by decide +kernel
theorem dX7_rises_16 : decode cX7_rises 16 = .ok (.getfield 129, 3) := by decide +kernel
theorem dX7_rises_19 : decode cX7_rises 19 = .ok (.ifCond .ne 6, 3) := by decide +kernel
theorem dX7_rises_22 : decode cX7_rises 22 = .ok (.bipush (-3), 2) := by decide +kernel
theorem dX7_rises_24 : decode cX7_rises 24 = .ok (.ireturn, 1) := by decide +kernel
theorem dX7_rises_25 : decode cX7_rises 25 = .ok (.aload_n 0, 1) := by decide +kernel
theorem dX7_rises_26 : decode cX7_rises 26 = .ok (.invokevirtual 232, 3) := by decide +kernel
theorem dX7_rises_29 : decode cX7_rises 29 = .ok (.iconst 1, 1) := by decide +kernel
theorem dX7_rises_30 : decode cX7_rises 30 = .ok (.istore_n 2, 1) := by decide +kernel
theorem dX7_rises_31 : decode cX7_rises 31 = .ok (.iload_n 2, 1) := by decide +kernel
theorem dX7_rises_32 : decode cX7_rises 32 = .ok (.iload_n 1, 1) := by decide +kernel
theorem dX7_rises_33 : decode cX7_rises 33 = .ok (.if_icmp .gt 48, 3) := by decide +kernel
theorem dX7_rises_36 : decode cX7_rises 36 = .ok (.aload_n 0, 1) := by decide +kernel
theorem dX7_rises_37 : decode cX7_rises 37 = .ok (.invokevirtual 270, 3) := by decide +kernel
theorem dX7_rises_40 : decode cX7_rises 40 = .ok (.lstore_n 3, 1) := by decide +kernel
theorem dX7_rises_41 : decode cX7_rises 41 = .ok (.aload_n 0, 1) := by decide +kernel
theorem dX7_rises_42 : decode cX7_rises 42 = .ok (.getfield 207, 3) := by decide +kernel
theorem dX7_rises_45 : decode cX7_rises 45 = .ok (.lstore 5, 2) := by decide +kernel
theorem dX7_rises_47 : decode cX7_rises 47 = .ok (.aload_n 0, 1) := by decide +kernel
theorem dX7_rises_48 : decode cX7_rises 48 = .ok (.invokevirtual 235, 3) := by decide +kernel
theorem dX7_rises_51 : decode cX7_rises 51 = .ok (.ifCond .ne 5, 3) := by decide +kernel
theorem dX7_rises_54 : decode cX7_rises 54 = .ok (.iconst (-1), 1) := by decide +kernel
theorem dX7_rises_55 : decode cX7_rises 55 = .ok (.ireturn, 1) := by decide +kernel
theorem dX7_rises_56 : decode cX7_rises 56 = .ok (.aload_n 0, 1) := by decide +kernel
theorem dX7_rises_57 : decode cX7_rises 57 = .ok (.invokevirtual 270, 3) := by decide +kernel
theorem dX7_rises_60 : decode cX7_rises 60 = .ok (.aload_n 0, 1) := by decide +kernel
theorem dX7_rises_61 : decode cX7_rises 61 = .ok (.getfield 207, 3) := by decide +kernel
theorem dX7_rises_64 : decode cX7_rises 64 = .ok (.lload_n 3, 1) := by decide +kernel
theorem dX7_rises_65 : decode cX7_rises 65 = .ok (.lload 5, 2) := by decide +kernel
theorem dX7_rises_67 : decode cX7_rises 67 = .ok (.invokestatic 248, 3) := by decide +kernel
theorem dX7_rises_70 : decode cX7_rises 70 = .ok (.ifCond .eq 5, 3) := by decide +kernel
theorem dX7_rises_73 : decode cX7_rises 73 = .ok (.iload_n 2, 1) := by decide +kernel
theorem dX7_rises_74 : decode cX7_rises 74 = .ok (.ireturn, 1) := by decide +kernel
theorem dX7_rises_75 : decode cX7_rises 75 = .ok (.iinc 2 1, 3) := by decide +kernel
theorem dX7_rises_78 : decode cX7_rises 78 = .ok (.goto (-47), 3) := by decide +kernel
theorem dX7_rises_81 : decode cX7_rises 81 = .ok (.iconst (-1), 1) := by decide +kernel
theorem dX7_rises_82 : decode cX7_rises 82 = .ok (.ireturn, 1) := by decide +kernel
theorem dX7_calm_0 : decode cX7_calm 0 = .ok (.iload_n 1, 1) := by decide +kernel
theorem dX7_calm_1 : decode cX7_calm 1 = .ok (.i2l, 1) := by decide +kernel
theorem dX7_calm_2 : decode cX7_calm 2 = .ok (.lconst 0, 1) := by decide +kernel
theorem dX7_calm_3 : decode cX7_calm 3 = .ok (.ldc2_w 169, 3) := by decide +kernel
theorem dX7_calm_6 : decode cX7_calm 6 = .ok (.invokestatic 133, 3) := by decide +kernel
theorem dX7_calm_9 : decode cX7_calm 9 = .ok (.ifCond .ne 6, 3) := by decide +kernel
theorem dX7_calm_12 : decode cX7_calm 12 = .ok (.bipush (-2), 2) := by decide +kernel
theorem dX7_calm_14 : decode cX7_calm 14 = .ok (.ireturn, 1) := by decide +kernel
theorem dX7_calm_15 : decode cX7_calm 15 = .ok (.aload_n 0, 1) := by decide +kernel
theorem dX7_calm_16 : decode cX7_calm 16 = .ok (.getfield 129, 3) := by decide +kernel
theorem dX7_calm_19 : decode cX7_calm 19 = .ok (.ifCond .ne 6, 3) := by decide +kernel
theorem dX7_calm_22 : decode cX7_calm 22 = .ok (.bipush (-3), 2) := by decide +kernel
theorem dX7_calm_24 : decode cX7_calm 24 = .ok (.ireturn, 1) := by decide +kernel
theorem dX7_calm_25 : decode cX7_calm 25 = .ok (.aload_n 0, 1) := by decide +kernel
theorem dX7_calm_26 : decode cX7_calm 26 = .ok (.invokevirtual 232, 3) := by decide +kernel
theorem dX7_calm_29 : decode cX7_calm 29 = .ok (.iconst 0, 1) := by decide +kernel
theorem dX7_calm_30 : decode cX7_calm 30 = .ok (.istore_n 2, 1) := by decide +kernel
theorem dX7_calm_31 : decode cX7_calm 31 = .ok (.iload_n 2, 1) := by decide +kernel
theorem dX7_calm_32 : decode cX7_calm 32 = .ok (.bipush 40, 2) := by decide +kernel
theorem dX7_calm_34 : decode cX7_calm 34 = .ok (.if_icmp .gt 40, 3) := by decide +kernel
theorem dX7_calm_37 : decode cX7_calm 37 = .ok (.aload_n 0, 1) := by decide +kernel
theorem dX7_calm_38 : decode cX7_calm 38 = .ok (.invokevirtual 270, 3) := by decide +kernel
theorem dX7_calm_41 : decode cX7_calm 41 = .ok (.aload_n 0, 1) := by decide +kernel
theorem dX7_calm_42 : decode cX7_calm 42 = .ok (.invokevirtual 273, 3) := by decide +kernel
theorem dX7_calm_45 : decode cX7_calm 45 = .ok (.lsub, 1) := by decide +kernel
theorem dX7_calm_46 : decode cX7_calm 46 = .ok (.iload_n 1, 1) := by decide +kernel
theorem dX7_calm_47 : decode cX7_calm 47 = .ok (.i2l, 1) := by decide +kernel
theorem dX7_calm_48 : decode cX7_calm 48 = .ok (.aload_n 0, 1) := by decide +kernel
theorem dX7_calm_49 : decode cX7_calm 49 = .ok (.getfield 207, 3) := by decide +kernel
theorem dX7_calm_52 : decode cX7_calm 52 = .ok (.lmul, 1) := by decide +kernel
theorem dX7_calm_53 : decode cX7_calm 53 = .ok (.lcmp, 1) := by decide +kernel
theorem dX7_calm_54 : decode cX7_calm 54 = .ok (.ifCond .gt 5, 3) := by decide +kernel
theorem dX7_calm_57 : decode cX7_calm 57 = .ok (.iload_n 2, 1) := by decide +kernel
theorem dX7_calm_58 : decode cX7_calm 58 = .ok (.ireturn, 1) := by decide +kernel
theorem dX7_calm_59 : decode cX7_calm 59 = .ok (.aload_n 0, 1) := by decide +kernel
theorem dX7_calm_60 : decode cX7_calm 60 = .ok (.invokevirtual 235, 3) := by decide +kernel
theorem dX7_calm_63 : decode cX7_calm 63 = .ok (.ifCond .ne 5, 3) := by decide +kernel
theorem dX7_calm_66 : decode cX7_calm 66 = .ok (.iconst (-1), 1) := by decide +kernel
theorem dX7_calm_67 : decode cX7_calm 67 = .ok (.ireturn, 1) := by decide +kernel
theorem dX7_calm_68 : decode cX7_calm 68 = .ok (.iinc 2 1, 3) := by decide +kernel
theorem dX7_calm_71 : decode cX7_calm 71 = .ok (.goto (-40), 3) := by decide +kernel
theorem dX7_calm_74 : decode cX7_calm 74 = .ok (.iconst (-1), 1) := by decide +kernel
theorem dX7_calm_75 : decode cX7_calm 75 = .ok (.ireturn, 1) := by decide +kernel
theorem dX7_pulse_0 : decode cX7_pulse 0 = .ok (.aload_n 0, 1) := by decide +kernel
theorem dX7_pulse_1 : decode cX7_pulse 1 = .ok (.iload_n 1, 1) := by decide +kernel
theorem dX7_pulse_2 : decode cX7_pulse 2 = .ok (.invokevirtual 177, 3) := by decide +kernel
theorem dX7_pulse_5 : decode cX7_pulse 5 = .ok (.ifCond .eq 29, 3) := by decide +kernel
theorem dX7_pulse_8 : decode cX7_pulse 8 = .ok (.iload_n 2, 1) := by decide +kernel
theorem dX7_pulse_9 : decode cX7_pulse 9 = .ok (.i2l, 1) := by decide +kernel
theorem dX7_pulse_10 : decode cX7_pulse 10 = .ok (.lconst 1, 1) := by decide +kernel
theorem dX7_pulse_11 : decode cX7_pulse 11 = .ok (.ldc2_w 199, 3) := by decide +kernel
theorem dX7_pulse_14 : decode cX7_pulse 14 = .ok (.invokestatic 133, 3) := by decide +kernel
theorem dX7_pulse_17 : decode cX7_pulse 17 = .ok (.ifCond .eq 17, 3) := by decide +kernel
theorem dX7_pulse_20 : decode cX7_pulse 20 = .ok (.iload_n 3, 1) := by decide +kernel
theorem dX7_pulse_21 : decode cX7_pulse 21 = .ok (.i2l, 1) := by decide +kernel
theorem dX7_pulse_22 : decode cX7_pulse 22 = .ok (.ldc2_w 276, 3) := by decide +kernel
theorem dX7_pulse_25 : decode cX7_pulse 25 = .ok (.ldc2_w 278, 3) := by decide +kernel
theorem dX7_pulse_28 : decode cX7_pulse 28 = .ok (.invokestatic 133, 3) := by decide +kernel
theorem dX7_pulse_31 : decode cX7_pulse 31 = .ok (.ifCond .ne 6, 3) := by decide +kernel
theorem dX7_pulse_34 : decode cX7_pulse 34 = .ok (.bipush (-2), 2) := by decide +kernel
theorem dX7_pulse_36 : decode cX7_pulse 36 = .ok (.ireturn, 1) := by decide +kernel
theorem dX7_pulse_37 : decode cX7_pulse 37 = .ok (.aload_n 0, 1) := by decide +kernel
theorem dX7_pulse_38 : decode cX7_pulse 38 = .ok (.getfield 210, 3) := by decide +kernel
theorem dX7_pulse_41 : decode cX7_pulse 41 = .ok (.bipush 12, 2) := by decide +kernel
theorem dX7_pulse_43 : decode cX7_pulse 43 = .ok (.if_icmp .ne 6, 3) := by decide +kernel
theorem dX7_pulse_46 : decode cX7_pulse 46 = .ok (.bipush (-4), 2) := by decide +kernel
theorem dX7_pulse_48 : decode cX7_pulse 48 = .ok (.ireturn, 1) := by decide +kernel
theorem dX7_pulse_49 : decode cX7_pulse 49 = .ok (.aload_n 0, 1) := by decide +kernel
theorem dX7_pulse_50 : decode cX7_pulse 50 = .ok (.getfield 38, 3) := by decide +kernel
theorem dX7_pulse_53 : decode cX7_pulse 53 = .ok (.aload_n 0, 1) := by decide +kernel
theorem dX7_pulse_54 : decode cX7_pulse 54 = .ok (.getfield 210, 3) := by decide +kernel
theorem dX7_pulse_57 : decode cX7_pulse 57 = .ok (.iload_n 1, 1) := by decide +kernel
theorem dX7_pulse_58 : decode cX7_pulse 58 = .ok (.iastore, 1) := by decide +kernel
theorem dX7_pulse_59 : decode cX7_pulse 59 = .ok (.aload_n 0, 1) := by decide +kernel
theorem dX7_pulse_60 : decode cX7_pulse 60 = .ok (.getfield 41, 3) := by decide +kernel
theorem dX7_pulse_63 : decode cX7_pulse 63 = .ok (.aload_n 0, 1) := by decide +kernel
theorem dX7_pulse_64 : decode cX7_pulse 64 = .ok (.getfield 210, 3) := by decide +kernel
theorem dX7_pulse_67 : decode cX7_pulse 67 = .ok (.iload_n 2, 1) := by decide +kernel
theorem dX7_pulse_68 : decode cX7_pulse 68 = .ok (.iastore, 1) := by decide +kernel
theorem dX7_pulse_69 : decode cX7_pulse 69 = .ok (.aload_n 0, 1) := by decide +kernel
theorem dX7_pulse_70 : decode cX7_pulse 70 = .ok (.getfield 44, 3) := by decide +kernel
theorem dX7_pulse_73 : decode cX7_pulse 73 = .ok (.aload_n 0, 1) := by decide +kernel
theorem dX7_pulse_74 : decode cX7_pulse 74 = .ok (.getfield 210, 3) := by decide +kernel
theorem dX7_pulse_77 : decode cX7_pulse 77 = .ok (.iload_n 3, 1) := by decide +kernel
theorem dX7_pulse_78 : decode cX7_pulse 78 = .ok (.iastore, 1) := by decide +kernel
theorem dX7_pulse_79 : decode cX7_pulse 79 = .ok (.aload_n 0, 1) := by decide +kernel
theorem dX7_pulse_80 : decode cX7_pulse 80 = .ok (.dup, 1) := by decide +kernel
theorem dX7_pulse_81 : decode cX7_pulse 81 = .ok (.getfield 210, 3) := by decide +kernel
theorem dX7_pulse_84 : decode cX7_pulse 84 = .ok (.iconst 1, 1) := by decide +kernel
theorem dX7_pulse_85 : decode cX7_pulse 85 = .ok (.iadd, 1) := by decide +kernel
theorem dX7_pulse_86 : decode cX7_pulse 86 = .ok (.putfield 210, 3) := by decide +kernel
theorem dX7_pulse_89 : decode cX7_pulse 89 = .ok (.aload_n 0, 1) := by decide +kernel
theorem dX7_pulse_90 : decode cX7_pulse 90 = .ok (.getfield 210, 3) := by decide +kernel
theorem dX7_pulse_93 : decode cX7_pulse 93 = .ok (.ireturn, 1) := by decide +kernel
theorem dX7_pulseOf_0 : decode cX7_pulseOf 0 = .ok (.iload_n 1, 1) := by decide +kernel
theorem dX7_pulseOf_1 : decode cX7_pulseOf 1 = .ok (.i2l, 1) := by decide +kernel
theorem dX7_pulseOf_2 : decode cX7_pulseOf 2 = .ok (.lconst 0, 1) := by decide +kernel
theorem dX7_pulseOf_3 : decode cX7_pulseOf 3 = .ok (.aload_n 0, 1) := by decide +kernel
theorem dX7_pulseOf_4 : decode cX7_pulseOf 4 = .ok (.getfield 210, 3) := by decide +kernel
theorem dX7_pulseOf_7 : decode cX7_pulseOf 7 = .ok (.iconst 1, 1) := by decide +kernel
theorem dX7_pulseOf_8 : decode cX7_pulseOf 8 = .ok (.isub, 1) := by decide +kernel
theorem dX7_pulseOf_9 : decode cX7_pulseOf 9 = .ok (.i2l, 1) := by decide +kernel
theorem dX7_pulseOf_10 : decode cX7_pulseOf 10 = .ok (.invokestatic 133, 3) := by decide +kernel
theorem dX7_pulseOf_13 : decode cX7_pulseOf 13 = .ok (.ifCond .eq 15, 3) := by decide +kernel
theorem dX7_pulseOf_16 : decode cX7_pulseOf 16 = .ok (.iload_n 2, 1) := by decide +kernel
theorem dX7_pulseOf_17 : decode cX7_pulseOf 17 = .ok (.i2l, 1) := by decide +kernel
theorem dX7_pulseOf_18 : decode cX7_pulseOf 18 = .ok (.lconst 0, 1) := by decide +kernel
theorem dX7_pulseOf_19 : decode cX7_pulseOf 19 = .ok (.ldc2_w 280, 3) := by decide +kernel
theorem dX7_pulseOf_22 : decode cX7_pulseOf 22 = .ok (.invokestatic 133, 3) := by decide +kernel
theorem dX7_pulseOf_25 : decode cX7_pulseOf 25 = .ok (.ifCond .ne 7, 3) := by decide +kernel
theorem dX7_pulseOf_28 : decode cX7_pulseOf 28 = .ok (.sipush (-1000), 3) := by decide +kernel
theorem dX7_pulseOf_31 : decode cX7_pulseOf 31 = .ok (.ireturn, 1) := by decide +kernel
theorem dX7_pulseOf_32 : decode cX7_pulseOf 32 = .ok (.iload_n 2, 1) := by decide +kernel
theorem dX7_pulseOf_33 : decode cX7_pulseOf 33 = .ok (.ifCond .ne 12, 3) := by decide +kernel
theorem dX7_pulseOf_36 : decode cX7_pulseOf 36 = .ok (.aload_n 0, 1) := by decide +kernel
theorem dX7_pulseOf_37 : decode cX7_pulseOf 37 = .ok (.getfield 38, 3) := by decide +kernel
theorem dX7_pulseOf_40 : decode cX7_pulseOf 40 = .ok (.iload_n 1, 1) := by decide +kernel
theorem dX7_pulseOf_41 : decode cX7_pulseOf 41 = .ok (.iaload, 1) := by decide +kernel
theorem dX7_pulseOf_42 : decode cX7_pulseOf 42 = .ok (.goto 23, 3) := by decide +kernel
theorem dX7_pulseOf_45 : decode cX7_pulseOf 45 = .ok (.iload_n 2, 1) := by decide +kernel
theorem dX7_pulseOf_46 : decode cX7_pulseOf 46 = .ok (.iconst 1, 1) := by decide +kernel
theorem dX7_pulseOf_47 : decode cX7_pulseOf 47 = .ok (.if_icmp .ne 12, 3) := by decide +kernel
theorem dX7_pulseOf_50 : decode cX7_pulseOf 50 = .ok (.aload_n 0, 1) := by decide +kernel
theorem dX7_pulseOf_51 : decode cX7_pulseOf 51 = .ok (.getfield 41, 3) := by decide +kernel
theorem dX7_pulseOf_54 : decode cX7_pulseOf 54 = .ok (.iload_n 1, 1) := by decide +kernel
theorem dX7_pulseOf_55 : decode cX7_pulseOf 55 = .ok (.iaload, 1) := by decide +kernel
theorem dX7_pulseOf_56 : decode cX7_pulseOf 56 = .ok (.goto 9, 3) := by decide +kernel
theorem dX7_pulseOf_59 : decode cX7_pulseOf 59 = .ok (.aload_n 0, 1) := by decide +kernel
theorem dX7_pulseOf_60 : decode cX7_pulseOf 60 = .ok (.getfield 44, 3) := by decide +kernel
theorem dX7_pulseOf_63 : decode cX7_pulseOf 63 = .ok (.iload_n 1, 1) := by decide +kernel
theorem dX7_pulseOf_64 : decode cX7_pulseOf 64 = .ok (.iaload, 1) := by decide +kernel
theorem dX7_pulseOf_65 : decode cX7_pulseOf 65 = .ok (.ireturn, 1) := by decide +kernel
theorem dX7_hushed_0 : decode cX7_hushed 0 = .ok (.iconst 0, 1) := by decide +kernel
theorem dX7_hushed_1 : decode cX7_hushed 1 = .ok (.istore_n 2, 1) := by decide +kernel
theorem dX7_hushed_2 : decode cX7_hushed 2 = .ok (.iconst 0, 1) := by decide +kernel
theorem dX7_hushed_3 : decode cX7_hushed 3 = .ok (.istore_n 3, 1) := by decide +kernel
theorem dX7_hushed_4 : decode cX7_hushed 4 = .ok (.iload_n 3, 1) := by decide +kernel
theorem dX7_hushed_5 : decode cX7_hushed 5 = .ok (.aload_n 0, 1) := by decide +kernel
theorem dX7_hushed_6 : decode cX7_hushed 6 = .ok (.getfield 210, 3) := by decide +kernel
theorem dX7_hushed_9 : decode cX7_hushed 9 = .ok (.if_icmp .ge 58, 3) := by decide +kernel
theorem dX7_hushed_12 : decode cX7_hushed 12 = .ok (.aload_n 0, 1) := by decide +kernel
theorem dX7_hushed_13 : decode cX7_hushed 13 = .ok (.getfield 38, 3) := by decide +kernel
theorem dX7_hushed_16 : decode cX7_hushed 16 = .ok (.iload_n 3, 1) := by decide +kernel
theorem dX7_hushed_17 : decode cX7_hushed 17 = .ok (.iaload, 1) := by decide +kernel
theorem dX7_hushed_18 : decode cX7_hushed 18 = .ok (.iload_n 1, 1) := by decide +kernel
theorem dX7_hushed_19 : decode cX7_hushed 19 = .ok (.if_icmp .eq 42, 3) := by decide +kernel
theorem dX7_hushed_22 : decode cX7_hushed 22 = .ok (.aload_n 0, 1) := by decide +kernel
theorem dX7_hushed_23 : decode cX7_hushed 23 = .ok (.getfield 38, 3) := by decide +kernel
theorem dX7_hushed_26 : decode cX7_hushed 26 = .ok (.iload_n 2, 1) := by decide +kernel
theorem dX7_hushed_27 : decode cX7_hushed 27 = .ok (.aload_n 0, 1) := by decide +kernel
theorem dX7_hushed_28 : decode cX7_hushed 28 = .ok (.getfield 38, 3) := by decide +kernel
theorem dX7_hushed_31 : decode cX7_hushed 31 = .ok (.iload_n 3, 1) := by decide +kernel
theorem dX7_hushed_32 : decode cX7_hushed 32 = .ok (.iaload, 1) := by decide +kernel
theorem dX7_hushed_33 : decode cX7_hushed 33 = .ok (.iastore, 1) := by decide +kernel
theorem dX7_hushed_34 : decode cX7_hushed 34 = .ok (.aload_n 0, 1) := by decide +kernel
theorem dX7_hushed_35 : decode cX7_hushed 35 = .ok (.getfield 41, 3) := by decide +kernel
theorem dX7_hushed_38 : decode cX7_hushed 38 = .ok (.iload_n 2, 1) := by decide +kernel
theorem dX7_hushed_39 : decode cX7_hushed 39 = .ok (.aload_n 0, 1) := by decide +kernel
theorem dX7_hushed_40 : decode cX7_hushed 40 = .ok (.getfield 41, 3) := by decide +kernel
theorem dX7_hushed_43 : decode cX7_hushed 43 = .ok (.iload_n 3, 1) := by decide +kernel
theorem dX7_hushed_44 : decode cX7_hushed 44 = .ok (.iaload, 1) := by decide +kernel
theorem dX7_hushed_45 : decode cX7_hushed 45 = .ok (.iastore, 1) := by decide +kernel
theorem dX7_hushed_46 : decode cX7_hushed 46 = .ok (.aload_n 0, 1) := by decide +kernel
theorem dX7_hushed_47 : decode cX7_hushed 47 = .ok (.getfield 44, 3) := by decide +kernel
theorem dX7_hushed_50 : decode cX7_hushed 50 = .ok (.iload_n 2, 1) := by decide +kernel
theorem dX7_hushed_51 : decode cX7_hushed 51 = .ok (.aload_n 0, 1) := by decide +kernel
theorem dX7_hushed_52 : decode cX7_hushed 52 = .ok (.getfield 44, 3) := by decide +kernel
theorem dX7_hushed_55 : decode cX7_hushed 55 = .ok (.iload_n 3, 1) := by decide +kernel
theorem dX7_hushed_56 : decode cX7_hushed 56 = .ok (.iaload, 1) := by decide +kernel
theorem dX7_hushed_57 : decode cX7_hushed 57 = .ok (.iastore, 1) := by decide +kernel
theorem dX7_hushed_58 : decode cX7_hushed 58 = .ok (.iinc 2 1, 3) := by decide +kernel
theorem dX7_hushed_61 : decode cX7_hushed 61 = .ok (.iinc 3 1, 3) := by decide +kernel
theorem dX7_hushed_64 : decode cX7_hushed 64 = .ok (.goto (-60), 3) := by decide +kernel
theorem dX7_hushed_67 : decode cX7_hushed 67 = .ok (.aload_n 0, 1) := by decide +kernel
theorem dX7_hushed_68 : decode cX7_hushed 68 = .ok (.getfield 210, 3) := by decide +kernel
theorem dX7_hushed_71 : decode cX7_hushed 71 = .ok (.iload_n 2, 1) := by decide +kernel
theorem dX7_hushed_72 : decode cX7_hushed 72 = .ok (.isub, 1) := by decide +kernel
theorem dX7_hushed_73 : decode cX7_hushed 73 = .ok (.istore_n 3, 1) := by decide +kernel
theorem dX7_hushed_74 : decode cX7_hushed 74 = .ok (.aload_n 0, 1) := by decide +kernel
theorem dX7_hushed_75 : decode cX7_hushed 75 = .ok (.iload_n 2, 1) := by decide +kernel
theorem dX7_hushed_76 : decode cX7_hushed 76 = .ok (.putfield 210, 3) := by decide +kernel
theorem dX7_hushed_79 : decode cX7_hushed 79 = .ok (.iload_n 3, 1) := by decide +kernel
theorem dX7_hushed_80 : decode cX7_hushed 80 = .ok (.ireturn, 1) := by decide +kernel
theorem dX7_hush_0 : decode cX7_hush 0 = .ok (.aload_n 0, 1) := by decide +kernel
theorem dX7_hush_1 : decode cX7_hush 1 = .ok (.iload_n 1, 1) := by decide +kernel
theorem dX7_hush_2 : decode cX7_hush 2 = .ok (.invokevirtual 177, 3) := by decide +kernel
theorem dX7_hush_5 : decode cX7_hush 5 = .ok (.ifCond .eq 11, 3) := by decide +kernel
theorem dX7_hush_8 : decode cX7_hush 8 = .ok (.aload_n 0, 1) := by decide +kernel
theorem dX7_hush_9 : decode cX7_hush 9 = .ok (.iload_n 1, 1) := by decide +kernel
theorem dX7_hush_10 : decode cX7_hush 10 = .ok (.invokevirtual 171, 3) := by decide +kernel
theorem dX7_hush_13 : decode cX7_hush 13 = .ok (.goto 5, 3) := by decide +kernel
theorem dX7_hush_16 : decode cX7_hush 16 = .ok (.bipush (-2), 2) := by decide +kernel
theorem dX7_hush_18 : decode cX7_hush 18 = .ok (.ireturn, 1) := by decide +kernel
theorem dX7_brings_0 : decode cX7_brings 0 = .ok (.iload_n 1, 1) := by decide +kernel
theorem dX7_brings_1 : decode cX7_brings 1 = .ok (.ifCond .ne 19, 3) := by decide +kernel
theorem dX7_brings_4 : decode cX7_brings 4 = .ok (.aload_n 0, 1) := by decide +kernel
theorem dX7_brings_5 : decode cX7_brings 5 = .ok (.iconst (-1), 1) := by decide +kernel
theorem dX7_brings_6 : decode cX7_brings 6 = .ok (.invokevirtual 204, 3) := by decide +kernel
theorem dX7_brings_9 : decode cX7_brings 9 = .ok (.aload_n 0, 1) := by decide +kernel
theorem dX7_brings_10 : decode cX7_brings 10 = .ok (.getfield 32, 3) := by decide +kernel
theorem dX7_brings_13 : decode cX7_brings 13 = .ok (.iconst 0, 1) := by decide +kernel
theorem dX7_brings_14 : decode cX7_brings 14 = .ok (.iaload, 1) := by decide +kernel
theorem dX7_brings_15 : decode cX7_brings 15 = .ok (.imul, 1) := by decide +kernel
theorem dX7_brings_16 : decode cX7_brings 16 = .ok (.i2l, 1) := by decide +kernel
theorem dX7_brings_17 : decode cX7_brings 17 = .ok (.goto 4, 3) := by decide +kernel
theorem dX7_brings_20 : decode cX7_brings 20 = .ok (.lconst 0, 1) := by decide +kernel
theorem dX7_brings_21 : decode cX7_brings 21 = .ok (.lstore 4, 2) := by decide +kernel
theorem dX7_brings_23 : decode cX7_brings 23 = .ok (.iload_n 1, 1) := by decide +kernel
theorem dX7_brings_24 : decode cX7_brings 24 = .ok (.aload_n 0, 1) := by decide +kernel
theorem dX7_brings_25 : decode cX7_brings 25 = .ok (.getfield 129, 3) := by decide +kernel
theorem dX7_brings_28 : decode cX7_brings 28 = .ok (.iconst 1, 1) := by decide +kernel
theorem dX7_brings_29 : decode cX7_brings 29 = .ok (.isub, 1) := by decide +kernel
theorem dX7_brings_30 : decode cX7_brings 30 = .ok (.if_icmp .ne 19, 3) := by decide +kernel
theorem dX7_brings_33 : decode cX7_brings 33 = .ok (.aload_n 0, 1) := by decide +kernel
theorem dX7_brings_34 : decode cX7_brings 34 = .ok (.iload_n 1, 1) := by decide +kernel
theorem dX7_brings_35 : decode cX7_brings 35 = .ok (.invokevirtual 204, 3) := by decide +kernel
theorem dX7_brings_38 : decode cX7_brings 38 = .ok (.aload_n 0, 1) := by decide +kernel
theorem dX7_brings_39 : decode cX7_brings 39 = .ok (.getfield 32, 3) := by decide +kernel
theorem dX7_brings_42 : decode cX7_brings 42 = .ok (.iconst 1, 1) := by decide +kernel
theorem dX7_brings_43 : decode cX7_brings 43 = .ok (.iaload, 1) := by decide +kernel
theorem dX7_brings_44 : decode cX7_brings 44 = .ok (.imul, 1) := by decide +kernel
theorem dX7_brings_45 : decode cX7_brings 45 = .ok (.i2l, 1) := by decide +kernel
theorem dX7_brings_46 : decode cX7_brings 46 = .ok (.goto 4, 3) := by decide +kernel
theorem dX7_brings_49 : decode cX7_brings 49 = .ok (.lconst 0, 1) := by decide +kernel
theorem dX7_brings_50 : decode cX7_brings 50 = .ok (.lstore 6, 2) := by decide +kernel
theorem dX7_brings_52 : decode cX7_brings 52 = .ok (.lload 4, 2) := by decide +kernel
theorem dX7_brings_54 : decode cX7_brings 54 = .ok (.lload 6, 2) := by decide +kernel
theorem dX7_brings_56 : decode cX7_brings 56 = .ok (.ladd, 1) := by decide +kernel
theorem dX7_brings_57 : decode cX7_brings 57 = .ok (.aload_n 0, 1) := by decide +kernel
theorem dX7_brings_58 : decode cX7_brings 58 = .ok (.iload_n 1, 1) := by decide +kernel
theorem dX7_brings_59 : decode cX7_brings 59 = .ok (.invokevirtual 191, 3) := by decide +kernel
theorem dX7_brings_62 : decode cX7_brings 62 = .ok (.aload_n 0, 1) := by decide +kernel
theorem dX7_brings_63 : decode cX7_brings 63 = .ok (.getfield 35, 3) := by decide +kernel
theorem dX7_brings_66 : decode cX7_brings 66 = .ok (.iconst 1, 1) := by decide +kernel
theorem dX7_brings_67 : decode cX7_brings 67 = .ok (.iaload, 1) := by decide +kernel
theorem dX7_brings_68 : decode cX7_brings 68 = .ok (.imul, 1) := by decide +kernel
theorem dX7_brings_69 : decode cX7_brings 69 = .ok (.i2l, 1) := by decide +kernel
theorem dX7_brings_70 : decode cX7_brings 70 = .ok (.ladd, 1) := by decide +kernel
theorem dX7_brings_71 : decode cX7_brings 71 = .ok (.iload_n 1, 1) := by decide +kernel
theorem dX7_brings_72 : decode cX7_brings 72 = .ok (.iload_n 2, 1) := by decide +kernel
theorem dX7_brings_73 : decode cX7_brings 73 = .ok (.if_icmp .ne 7, 3) := by decide +kernel
theorem dX7_brings_76 : decode cX7_brings 76 = .ok (.iload_n 3, 1) := by decide +kernel
theorem dX7_brings_77 : decode cX7_brings 77 = .ok (.goto 9, 3) := by decide +kernel
theorem dX7_brings_80 : decode cX7_brings 80 = .ok (.aload_n 0, 1) := by decide +kernel
theorem dX7_brings_81 : decode cX7_brings 81 = .ok (.getfield 21, 3) := by decide +kernel
theorem dX7_brings_84 : decode cX7_brings 84 = .ok (.iload_n 1, 1) := by decide +kernel
theorem dX7_brings_85 : decode cX7_brings 85 = .ok (.iaload, 1) := by decide +kernel
theorem dX7_brings_86 : decode cX7_brings 86 = .ok (.i2l, 1) := by decide +kernel
theorem dX7_brings_87 : decode cX7_brings 87 = .ok (.ladd, 1) := by decide +kernel
theorem dX7_brings_88 : decode cX7_brings 88 = .ok (.lreturn, 1) := by decide +kernel
theorem dX7_steadies_0 : decode cX7_steadies 0 = .ok (.aload_n 0, 1) := by decide +kernel
theorem dX7_steadies_1 : decode cX7_steadies 1 = .ok (.getfield 62, 3) := by decide +kernel
theorem dX7_steadies_4 : decode cX7_steadies 4 = .ok (.iconst 0, 1) := by decide +kernel
theorem dX7_steadies_5 : decode cX7_steadies 5 = .ok (.lconst 1, 1) := by decide +kernel
theorem dX7_steadies_6 : decode cX7_steadies 6 = .ok (.lastore, 1) := by decide +kernel
theorem dX7_steadies_7 : decode cX7_steadies 7 = .ok (.iconst 0, 1) := by decide +kernel
theorem dX7_steadies_8 : decode cX7_steadies 8 = .ok (.istore_n 3, 1) := by decide +kernel
theorem dX7_steadies_9 : decode cX7_steadies 9 = .ok (.iload_n 3, 1) := by decide +kernel
theorem dX7_steadies_10 : decode cX7_steadies 10 = .ok (.aload_n 0, 1) := by decide +kernel
theorem dX7_steadies_11 : decode cX7_steadies 11 = .ok (.getfield 129, 3) := by decide +kernel
theorem dX7_steadies_14 : decode cX7_steadies 14 = .ok (.if_icmp .ge 68, 3) := by decide +kernel
theorem dX7_steadies_17 : decode cX7_steadies 17 = .ok (.iload_n 3, 1) := by decide +kernel
theorem dX7_steadies_18 : decode cX7_steadies 18 = .ok (.ifCond .le 31, 3) := by decide +kernel
theorem dX7_steadies_21 : decode cX7_steadies 21 = .ok (.aload_n 0, 1) := by decide +kernel
theorem dX7_steadies_22 : decode cX7_steadies 22 = .ok (.iload_n 3, 1) := by decide +kernel
theorem dX7_steadies_23 : decode cX7_steadies 23 = .ok (.iconst 1, 1) := by decide +kernel
theorem dX7_steadies_24 : decode cX7_steadies 24 = .ok (.isub, 1) := by decide +kernel
theorem dX7_steadies_25 : decode cX7_steadies 25 = .ok (.invokevirtual 204, 3) := by decide +kernel
theorem dX7_steadies_28 : decode cX7_steadies 28 = .ok (.aload_n 0, 1) := by decide +kernel
theorem dX7_steadies_29 : decode cX7_steadies 29 = .ok (.iload_n 3, 1) := by decide +kernel
theorem dX7_steadies_30 : decode cX7_steadies 30 = .ok (.iconst 1, 1) := by decide +kernel
theorem dX7_steadies_31 : decode cX7_steadies 31 = .ok (.isub, 1) := by decide +kernel
theorem dX7_steadies_32 : decode cX7_steadies 32 = .ok (.invokevirtual 204, 3) := by decide +kernel
theorem dX7_steadies_35 : decode cX7_steadies 35 = .ok (.imul, 1) := by decide +kernel
theorem dX7_steadies_36 : decode cX7_steadies 36 = .ok (.i2l, 1) := by decide +kernel
theorem dX7_steadies_37 : decode cX7_steadies 37 = .ok (.aload_n 0, 1) := by decide +kernel
theorem dX7_steadies_38 : decode cX7_steadies 38 = .ok (.getfield 62, 3) := by decide +kernel
theorem dX7_steadies_41 : decode cX7_steadies 41 = .ok (.iload_n 3, 1) := by decide +kernel
theorem dX7_steadies_42 : decode cX7_steadies 42 = .ok (.iconst 1, 1) := by decide +kernel
theorem dX7_steadies_43 : decode cX7_steadies 43 = .ok (.isub, 1) := by decide +kernel
theorem dX7_steadies_44 : decode cX7_steadies 44 = .ok (.laload, 1) := by decide +kernel
theorem dX7_steadies_45 : decode cX7_steadies 45 = .ok (.lmul, 1) := by decide +kernel
theorem dX7_steadies_46 : decode cX7_steadies 46 = .ok (.goto 4, 3) := by decide +kernel
theorem dX7_steadies_49 : decode cX7_steadies 49 = .ok (.lconst 0, 1) := by decide +kernel
theorem dX7_steadies_50 : decode cX7_steadies 50 = .ok (.lstore 4, 2) := by decide +kernel
theorem dX7_steadies_52 : decode cX7_steadies 52 = .ok (.aload_n 0, 1) := by decide +kernel
theorem dX7_steadies_53 : decode cX7_steadies 53 = .ok (.getfield 62, 3) := by decide +kernel
theorem dX7_steadies_56 : decode cX7_steadies 56 = .ok (.iload_n 3, 1) := by decide +kernel
theorem dX7_steadies_57 : decode cX7_steadies 57 = .ok (.iconst 1, 1) := by decide +kernel
theorem dX7_steadies_58 : decode cX7_steadies 58 = .ok (.iadd, 1) := by decide +kernel
theorem dX7_steadies_59 : decode cX7_steadies 59 = .ok (.aload_n 0, 1) := by decide +kernel
theorem dX7_steadies_60 : decode cX7_steadies 60 = .ok (.iload_n 3, 1) := by decide +kernel
theorem dX7_steadies_61 : decode cX7_steadies 61 = .ok (.invokevirtual 258, 3) := by decide +kernel
theorem dX7_steadies_64 : decode cX7_steadies 64 = .ok (.i2l, 1) := by decide +kernel
theorem dX7_steadies_65 : decode cX7_steadies 65 = .ok (.aload_n 0, 1) := by decide +kernel
theorem dX7_steadies_66 : decode cX7_steadies 66 = .ok (.getfield 62, 3) := by decide +kernel
theorem dX7_steadies_69 : decode cX7_steadies 69 = .ok (.iload_n 3, 1) := by decide +kernel
theorem dX7_steadies_70 : decode cX7_steadies 70 = .ok (.laload, 1) := by decide +kernel
theorem dX7_steadies_71 : decode cX7_steadies 71 = .ok (.lmul, 1) := by decide +kernel
theorem dX7_steadies_72 : decode cX7_steadies 72 = .ok (.lload 4, 2) := by decide +kernel
theorem dX7_steadies_74 : decode cX7_steadies 74 = .ok (.lsub, 1) := by decide +kernel
theorem dX7_steadies_75 : decode cX7_steadies 75 = .ok (.lastore, 1) := by decide +kernel
theorem dX7_steadies_76 : decode cX7_steadies 76 = .ok (.iinc 3 1, 3) := by decide +kernel
theorem dX7_steadies_79 : decode cX7_steadies 79 = .ok (.goto (-70), 3) := by decide +kernel
theorem dX7_steadies_82 : decode cX7_steadies 82 = .ok (.aload_n 0, 1) := by decide +kernel
theorem dX7_steadies_83 : decode cX7_steadies 83 = .ok (.getfield 65, 3) := by decide +kernel
theorem dX7_steadies_86 : decode cX7_steadies 86 = .ok (.aload_n 0, 1) := by decide +kernel
theorem dX7_steadies_87 : decode cX7_steadies 87 = .ok (.getfield 129, 3) := by decide +kernel
theorem dX7_steadies_90 : decode cX7_steadies 90 = .ok (.lconst 1, 1) := by decide +kernel
theorem dX7_steadies_91 : decode cX7_steadies 91 = .ok (.lastore, 1) := by decide +kernel
theorem dX7_steadies_92 : decode cX7_steadies 92 = .ok (.aload_n 0, 1) := by decide +kernel
theorem dX7_steadies_93 : decode cX7_steadies 93 = .ok (.getfield 129, 3) := by decide +kernel
theorem dX7_steadies_96 : decode cX7_steadies 96 = .ok (.iconst 1, 1) := by decide +kernel
theorem dX7_steadies_97 : decode cX7_steadies 97 = .ok (.isub, 1) := by decide +kernel
theorem dX7_steadies_98 : decode cX7_steadies 98 = .ok (.istore_n 3, 1) := by decide +kernel
theorem dX7_steadies_99 : decode cX7_steadies 99 = .ok (.iload_n 3, 1) := by decide +kernel
theorem dX7_steadies_100 : decode cX7_steadies 100 = .ok (.ifCond .lt 70, 3) := by decide +kernel
theorem dX7_steadies_103 : decode cX7_steadies 103 = .ok (.iload_n 3, 1) := by decide +kernel
theorem dX7_steadies_104 : decode cX7_steadies 104 = .ok (.aload_n 0, 1) := by decide +kernel
theorem dX7_steadies_105 : decode cX7_steadies 105 = .ok (.getfield 129, 3) := by decide +kernel
theorem dX7_steadies_108 : decode cX7_steadies 108 = .ok (.iconst 1, 1) := by decide +kernel
theorem dX7_steadies_109 : decode cX7_steadies 109 = .ok (.isub, 1) := by decide +kernel
theorem dX7_steadies_110 : decode cX7_steadies 110 = .ok (.if_icmp .ge 27, 3) := by decide +kernel
theorem dX7_steadies_113 : decode cX7_steadies 113 = .ok (.aload_n 0, 1) := by decide +kernel
theorem dX7_steadies_114 : decode cX7_steadies 114 = .ok (.iload_n 3, 1) := by decide +kernel
theorem dX7_steadies_115 : decode cX7_steadies 115 = .ok (.invokevirtual 204, 3) := by decide +kernel
theorem dX7_steadies_118 : decode cX7_steadies 118 = .ok (.aload_n 0, 1) := by decide +kernel
theorem dX7_steadies_119 : decode cX7_steadies 119 = .ok (.iload_n 3, 1) := by decide +kernel
theorem dX7_steadies_120 : decode cX7_steadies 120 = .ok (.invokevirtual 204, 3) := by decide +kernel
theorem dX7_steadies_123 : decode cX7_steadies 123 = .ok (.imul, 1) := by decide +kernel
theorem dX7_steadies_124 : decode cX7_steadies 124 = .ok (.i2l, 1) := by decide +kernel
theorem dX7_steadies_125 : decode cX7_steadies 125 = .ok (.aload_n 0, 1) := by decide +kernel
theorem dX7_steadies_126 : decode cX7_steadies 126 = .ok (.getfield 65, 3) := by decide +kernel
theorem dX7_steadies_129 : decode cX7_steadies 129 = .ok (.iload_n 3, 1) := by decide +kernel
theorem dX7_steadies_130 : decode cX7_steadies 130 = .ok (.iconst 2, 1) := by decide +kernel
theorem dX7_steadies_131 : decode cX7_steadies 131 = .ok (.iadd, 1) := by decide +kernel
theorem dX7_steadies_132 : decode cX7_steadies 132 = .ok (.laload, 1) := by decide +kernel
theorem dX7_steadies_133 : decode cX7_steadies 133 = .ok (.lmul, 1) := by decide +kernel
theorem dX7_steadies_134 : decode cX7_steadies 134 = .ok (.goto 4, 3) := by decide +kernel
theorem dX7_steadies_137 : decode cX7_steadies 137 = .ok (.lconst 0, 1) := by decide +kernel
theorem dX7_steadies_138 : decode cX7_steadies 138 = .ok (.lstore 4, 2) := by decide +kernel
theorem dX7_steadies_140 : decode cX7_steadies 140 = .ok (.aload_n 0, 1) := by decide +kernel
theorem dX7_steadies_141 : decode cX7_steadies 141 = .ok (.getfield 65, 3) := by decide +kernel
theorem dX7_steadies_144 : decode cX7_steadies 144 = .ok (.iload_n 3, 1) := by decide +kernel
theorem dX7_steadies_145 : decode cX7_steadies 145 = .ok (.aload_n 0, 1) := by decide +kernel
theorem dX7_steadies_146 : decode cX7_steadies 146 = .ok (.iload_n 3, 1) := by decide +kernel
theorem dX7_steadies_147 : decode cX7_steadies 147 = .ok (.invokevirtual 258, 3) := by decide +kernel
theorem dX7_steadies_150 : decode cX7_steadies 150 = .ok (.i2l, 1) := by decide +kernel
theorem dX7_steadies_151 : decode cX7_steadies 151 = .ok (.aload_n 0, 1) := by decide +kernel
theorem dX7_steadies_152 : decode cX7_steadies 152 = .ok (.getfield 65, 3) := by decide +kernel
theorem dX7_steadies_155 : decode cX7_steadies 155 = .ok (.iload_n 3, 1) := by decide +kernel
theorem dX7_steadies_156 : decode cX7_steadies 156 = .ok (.iconst 1, 1) := by decide +kernel
theorem dX7_steadies_157 : decode cX7_steadies 157 = .ok (.iadd, 1) := by decide +kernel
theorem dX7_steadies_158 : decode cX7_steadies 158 = .ok (.laload, 1) := by decide +kernel
theorem dX7_steadies_159 : decode cX7_steadies 159 = .ok (.lmul, 1) := by decide +kernel
theorem dX7_steadies_160 : decode cX7_steadies 160 = .ok (.lload 4, 2) := by decide +kernel
theorem dX7_steadies_162 : decode cX7_steadies 162 = .ok (.lsub, 1) := by decide +kernel
theorem dX7_steadies_163 : decode cX7_steadies 163 = .ok (.lastore, 1) := by decide +kernel
theorem dX7_steadies_164 : decode cX7_steadies 164 = .ok (.iinc 3 (-1), 3) := by decide +kernel
theorem dX7_steadies_167 : decode cX7_steadies 167 = .ok (.goto (-68), 3) := by decide +kernel
theorem dX7_steadies_170 : decode cX7_steadies 170 = .ok (.aload_n 0, 1) := by decide +kernel
theorem dX7_steadies_171 : decode cX7_steadies 171 = .ok (.aload_n 0, 1) := by decide +kernel
theorem dX7_steadies_172 : decode cX7_steadies 172 = .ok (.getfield 129, 3) := by decide +kernel
theorem dX7_steadies_175 : decode cX7_steadies 175 = .ok (.ifCond .ne 7, 3) := by decide +kernel
theorem dX7_steadies_178 : decode cX7_steadies 178 = .ok (.lconst 0, 1) := by decide +kernel
theorem dX7_steadies_179 : decode cX7_steadies 179 = .ok (.goto 12, 3) := by decide +kernel
theorem dX7_steadies_182 : decode cX7_steadies 182 = .ok (.aload_n 0, 1) := by decide +kernel
theorem dX7_steadies_183 : decode cX7_steadies 183 = .ok (.getfield 62, 3) := by decide +kernel
theorem dX7_steadies_186 : decode cX7_steadies 186 = .ok (.aload_n 0, 1) := by decide +kernel
theorem dX7_steadies_187 : decode cX7_steadies 187 = .ok (.getfield 129, 3) := by decide +kernel
theorem dX7_steadies_190 : decode cX7_steadies 190 = .ok (.laload, 1) := by decide +kernel
theorem dX7_steadies_191 : decode cX7_steadies 191 = .ok (.putfield 282, 3) := by decide +kernel
theorem dX7_steadies_194 : decode cX7_steadies 194 = .ok (.iconst 0, 1) := by decide +kernel
theorem dX7_steadies_195 : decode cX7_steadies 195 = .ok (.istore_n 3, 1) := by decide +kernel
theorem dX7_steadies_196 : decode cX7_steadies 196 = .ok (.iload_n 3, 1) := by decide +kernel
theorem dX7_steadies_197 : decode cX7_steadies 197 = .ok (.aload_n 0, 1) := by decide +kernel
theorem dX7_steadies_198 : decode cX7_steadies 198 = .ok (.getfield 129, 3) := by decide +kernel
theorem dX7_steadies_201 : decode cX7_steadies 201 = .ok (.if_icmp .ge 150, 3) := by decide +kernel
theorem dX7_steadies_204 : decode cX7_steadies 204 = .ok (.lconst 0, 1) := by decide +kernel
theorem dX7_steadies_205 : decode cX7_steadies 205 = .ok (.lstore 4, 2) := by decide +kernel
theorem dX7_steadies_207 : decode cX7_steadies 207 = .ok (.lconst 1, 1) := by decide +kernel
theorem dX7_steadies_208 : decode cX7_steadies 208 = .ok (.lstore 6, 2) := by decide +kernel
theorem dX7_steadies_210 : decode cX7_steadies 210 = .ok (.iload_n 3, 1) := by decide +kernel
theorem dX7_steadies_211 : decode cX7_steadies 211 = .ok (.istore 8, 2) := by decide +kernel
theorem dX7_steadies_213 : decode cX7_steadies 213 = .ok (.iload 8, 2) := by decide +kernel
theorem dX7_steadies_215 : decode cX7_steadies 215 = .ok (.aload_n 0, 1) := by decide +kernel
theorem dX7_steadies_216 : decode cX7_steadies 216 = .ok (.getfield 129, 3) := by decide +kernel
theorem dX7_steadies_219 : decode cX7_steadies 219 = .ok (.if_icmp .ge 54, 3) := by decide +kernel
theorem dX7_steadies_222 : decode cX7_steadies 222 = .ok (.lload 4, 2) := by decide +kernel
theorem dX7_steadies_224 : decode cX7_steadies 224 = .ok (.lload 6, 2) := by decide +kernel
theorem dX7_steadies_226 : decode cX7_steadies 226 = .ok (.aload_n 0, 1) := by decide +kernel
theorem dX7_steadies_227 : decode cX7_steadies 227 = .ok (.getfield 62, 3) := by decide +kernel
theorem dX7_steadies_230 : decode cX7_steadies 230 = .ok (.iload_n 3, 1) := by decide +kernel
theorem dX7_steadies_231 : decode cX7_steadies 231 = .ok (.laload, 1) := by decide +kernel
theorem dX7_steadies_232 : decode cX7_steadies 232 = .ok (.lmul, 1) := by decide +kernel
theorem dX7_steadies_233 : decode cX7_steadies 233 = .ok (.aload_n 0, 1) := by decide +kernel
theorem dX7_steadies_234 : decode cX7_steadies 234 = .ok (.getfield 65, 3) := by decide +kernel
theorem dX7_steadies_237 : decode cX7_steadies 237 = .ok (.iload 8, 2) := by decide +kernel
theorem dX7_steadies_239 : decode cX7_steadies 239 = .ok (.iconst 1, 1) := by decide +kernel
theorem dX7_steadies_240 : decode cX7_steadies 240 = .ok (.iadd, 1) := by decide +kernel
theorem dX7_steadies_241 : decode cX7_steadies 241 = .ok (.laload, 1) := by decide +kernel
theorem dX7_steadies_242 : decode cX7_steadies 242 = .ok (.lmul, 1) := by decide +kernel
theorem dX7_steadies_243 : decode cX7_steadies 243 = .ok (.aload_n 0, 1) := by decide +kernel
theorem dX7_steadies_244 : decode cX7_steadies 244 = .ok (.iload 8, 2) := by decide +kernel
theorem dX7_steadies_246 : decode cX7_steadies 246 = .ok (.iload_n 1, 1) := by decide +kernel
theorem dX7_steadies_247 : decode cX7_steadies 247 = .ok (.iload_n 2, 1) := by decide +kernel
theorem dX7_steadies_248 : decode cX7_steadies 248 = .ok (.invokevirtual 285, 3) := by decide +kernel
theorem dX7_steadies_251 : decode cX7_steadies 251 = .ok (.lmul, 1) := by decide +kernel
theorem dX7_steadies_252 : decode cX7_steadies 252 = .ok (.ladd, 1) := by decide +kernel
theorem dX7_steadies_253 : decode cX7_steadies 253 = .ok (.lstore 4, 2) := by decide +kernel
theorem dX7_steadies_255 : decode cX7_steadies 255 = .ok (.lload 6, 2) := by decide +kernel
theorem dX7_steadies_257 : decode cX7_steadies 257 = .ok (.aload_n 0, 1) := by decide +kernel
theorem dX7_steadies_258 : decode cX7_steadies 258 = .ok (.iload 8, 2) := by decide +kernel
theorem dX7_steadies_260 : decode cX7_steadies 260 = .ok (.invokevirtual 204, 3) := by decide +kernel
theorem dX7_steadies_263 : decode cX7_steadies 263 = .ok (.i2l, 1) := by decide +kernel
theorem dX7_steadies_264 : decode cX7_steadies 264 = .ok (.lmul, 1) := by decide +kernel
theorem dX7_steadies_265 : decode cX7_steadies 265 = .ok (.lstore 6, 2) := by decide +kernel
theorem dX7_steadies_267 : decode cX7_steadies 267 = .ok (.iinc 8 1, 3) := by decide +kernel
theorem dX7_steadies_270 : decode cX7_steadies 270 = .ok (.goto (-57), 3) := by decide +kernel
theorem dX7_steadies_273 : decode cX7_steadies 273 = .ok (.lconst 1, 1) := by decide +kernel
theorem dX7_steadies_274 : decode cX7_steadies 274 = .ok (.lstore 6, 2) := by decide +kernel
theorem dX7_steadies_276 : decode cX7_steadies 276 = .ok (.iload_n 3, 1) := by decide +kernel
theorem dX7_steadies_277 : decode cX7_steadies 277 = .ok (.iconst 1, 1) := by decide +kernel
theorem dX7_steadies_278 : decode cX7_steadies 278 = .ok (.isub, 1) := by decide +kernel
theorem dX7_steadies_279 : decode cX7_steadies 279 = .ok (.istore 8, 2) := by decide +kernel
theorem dX7_steadies_281 : decode cX7_steadies 281 = .ok (.iload 8, 2) := by decide +kernel
theorem dX7_steadies_283 : decode cX7_steadies 283 = .ok (.ifCond .lt 54, 3) := by decide +kernel
theorem dX7_steadies_286 : decode cX7_steadies 286 = .ok (.lload 6, 2) := by decide +kernel
theorem dX7_steadies_288 : decode cX7_steadies 288 = .ok (.aload_n 0, 1) := by decide +kernel
theorem dX7_steadies_289 : decode cX7_steadies 289 = .ok (.iload 8, 2) := by decide +kernel
theorem dX7_steadies_291 : decode cX7_steadies 291 = .ok (.invokevirtual 204, 3) := by decide +kernel
theorem dX7_steadies_294 : decode cX7_steadies 294 = .ok (.i2l, 1) := by decide +kernel
theorem dX7_steadies_295 : decode cX7_steadies 295 = .ok (.lmul, 1) := by decide +kernel
theorem dX7_steadies_296 : decode cX7_steadies 296 = .ok (.lstore 6, 2) := by decide +kernel
theorem dX7_steadies_298 : decode cX7_steadies 298 = .ok (.lload 4, 2) := by decide +kernel
theorem dX7_steadies_300 : decode cX7_steadies 300 = .ok (.lload 6, 2) := by decide +kernel
theorem dX7_steadies_302 : decode cX7_steadies 302 = .ok (.aload_n 0, 1) := by decide +kernel
theorem dX7_steadies_303 : decode cX7_steadies 303 = .ok (.getfield 62, 3) := by decide +kernel
theorem dX7_steadies_306 : decode cX7_steadies 306 = .ok (.iload 8, 2) := by decide +kernel
theorem dX7_steadies_308 : decode cX7_steadies 308 = .ok (.laload, 1) := by decide +kernel
theorem dX7_steadies_309 : decode cX7_steadies 309 = .ok (.lmul, 1) := by decide +kernel
theorem dX7_steadies_310 : decode cX7_steadies 310 = .ok (.aload_n 0, 1) := by decide +kernel
theorem dX7_steadies_311 : decode cX7_steadies 311 = .ok (.getfield 65, 3) := by decide +kernel
theorem dX7_steadies_314 : decode cX7_steadies 314 = .ok (.iload_n 3, 1) := by decide +kernel
theorem dX7_steadies_315 : decode cX7_steadies 315 = .ok (.iconst 1, 1) := by decide +kernel
theorem dX7_steadies_316 : decode cX7_steadies 316 = .ok (.iadd, 1) := by decide +kernel
theorem dX7_steadies_317 : decode cX7_steadies 317 = .ok (.laload, 1) := by decide +kernel
theorem dX7_steadies_318 : decode cX7_steadies 318 = .ok (.lmul, 1) := by decide +kernel
theorem dX7_steadies_319 : decode cX7_steadies 319 = .ok (.aload_n 0, 1) := by decide +kernel
theorem dX7_steadies_320 : decode cX7_steadies 320 = .ok (.iload 8, 2) := by decide +kernel
theorem dX7_steadies_322 : decode cX7_steadies 322 = .ok (.iload_n 1, 1) := by decide +kernel
theorem dX7_steadies_323 : decode cX7_steadies 323 = .ok (.iload_n 2, 1) := by decide +kernel
theorem dX7_steadies_324 : decode cX7_steadies 324 = .ok (.invokevirtual 285, 3) := by decide +kernel
theorem dX7_steadies_327 : decode cX7_steadies 327 = .ok (.lmul, 1) := by decide +kernel
theorem dX7_steadies_328 : decode cX7_steadies 328 = .ok (.ladd, 1) := by decide +kernel
theorem dX7_steadies_329 : decode cX7_steadies 329 = .ok (.lstore 4, 2) := by decide +kernel
theorem dX7_steadies_331 : decode cX7_steadies 331 = .ok (.iinc 8 (-1), 3) := by decide +kernel
theorem dX7_steadies_334 : decode cX7_steadies 334 = .ok (.goto (-53), 3) := by decide +kernel
theorem dX7_steadies_337 : decode cX7_steadies 337 = .ok (.aload_n 0, 1) := by decide +kernel
theorem dX7_steadies_338 : decode cX7_steadies 338 = .ok (.getfield 68, 3) := by decide +kernel
theorem dX7_steadies_341 : decode cX7_steadies 341 = .ok (.iload_n 3, 1) := by decide +kernel
theorem dX7_steadies_342 : decode cX7_steadies 342 = .ok (.lload 4, 2) := by decide +kernel
theorem dX7_steadies_344 : decode cX7_steadies 344 = .ok (.lastore, 1) := by decide +kernel
theorem dX7_steadies_345 : decode cX7_steadies 345 = .ok (.iinc 3 1, 3) := by decide +kernel
theorem dX7_steadies_348 : decode cX7_steadies 348 = .ok (.goto (-152), 3) := by decide +kernel
theorem dX7_steadies_351 : decode cX7_steadies 351 = .ok (.aload_n 0, 1) := by decide +kernel
theorem dX7_steadies_352 : decode cX7_steadies 352 = .ok (.getfield 282, 3) := by decide +kernel
theorem dX7_steadies_355 : decode cX7_steadies 355 = .ok (.lconst 0, 1) := by decide +kernel
theorem dX7_steadies_356 : decode cX7_steadies 356 = .ok (.lcmp, 1) := by decide +kernel
theorem dX7_steadies_357 : decode cX7_steadies 357 = .ok (.ifCond .le 7, 3) := by decide +kernel
theorem dX7_steadies_360 : decode cX7_steadies 360 = .ok (.iconst 1, 1) := by decide +kernel
theorem dX7_steadies_361 : decode cX7_steadies 361 = .ok (.goto 4, 3) := by decide +kernel
theorem dX7_steadies_364 : decode cX7_steadies 364 = .ok (.iconst 0, 1) := by decide +kernel
theorem dX7_steadies_365 : decode cX7_steadies 365 = .ok (.ireturn, 1) := by decide +kernel
theorem dX7_steady_0 : decode cX7_steady 0 = .ok (.aload_n 0, 1) := by decide +kernel
theorem dX7_steady_1 : decode cX7_steady 1 = .ok (.iload_n 1, 1) := by decide +kernel
theorem dX7_steady_2 : decode cX7_steady 2 = .ok (.invokevirtual 177, 3) := by decide +kernel
theorem dX7_steady_5 : decode cX7_steady 5 = .ok (.ifCond .eq 39, 3) := by decide +kernel
theorem dX7_steady_8 : decode cX7_steady 8 = .ok (.iload_n 2, 1) := by decide +kernel
theorem dX7_steady_9 : decode cX7_steady 9 = .ok (.i2l, 1) := by decide +kernel
theorem dX7_steady_10 : decode cX7_steady 10 = .ok (.lconst 0, 1) := by decide +kernel
theorem dX7_steady_11 : decode cX7_steady 11 = .ok (.lconst 1, 1) := by decide +kernel
theorem dX7_steady_12 : decode cX7_steady 12 = .ok (.invokestatic 133, 3) := by decide +kernel
theorem dX7_steady_15 : decode cX7_steady 15 = .ok (.ifCond .eq 29, 3) := by decide +kernel
theorem dX7_steady_18 : decode cX7_steady 18 = .ok (.aload_n 0, 1) := by decide +kernel
theorem dX7_steady_19 : decode cX7_steady 19 = .ok (.iconst (-1), 1) := by decide +kernel
theorem dX7_steady_20 : decode cX7_steady 20 = .ok (.iconst 0, 1) := by decide +kernel
theorem dX7_steady_21 : decode cX7_steady 21 = .ok (.invokevirtual 289, 3) := by decide +kernel
theorem dX7_steady_24 : decode cX7_steady 24 = .ok (.ifCond .eq 20, 3) := by decide +kernel
theorem dX7_steady_27 : decode cX7_steady 27 = .ok (.aload_n 0, 1) := by decide +kernel
theorem dX7_steady_28 : decode cX7_steady 28 = .ok (.getfield 68, 3) := by decide +kernel
theorem dX7_steady_31 : decode cX7_steady 31 = .ok (.iload_n 1, 1) := by decide +kernel
theorem dX7_steady_32 : decode cX7_steady 32 = .ok (.laload, 1) := by decide +kernel
theorem dX7_steady_33 : decode cX7_steady 33 = .ok (.aload_n 0, 1) := by decide +kernel
theorem dX7_steady_34 : decode cX7_steady 34 = .ok (.getfield 282, 3) := by decide +kernel
theorem dX7_steady_37 : decode cX7_steady 37 = .ok (.iload_n 2, 1) := by decide +kernel
theorem dX7_steady_38 : decode cX7_steady 38 = .ok (.invokestatic 252, 3) := by decide +kernel
theorem dX7_steady_41 : decode cX7_steady 41 = .ok (.goto 6, 3) := by decide +kernel
theorem dX7_steady_44 : decode cX7_steady 44 = .ok (.ldc2_w 256, 3) := by decide +kernel
theorem dX7_steady_47 : decode cX7_steady 47 = .ok (.lreturn, 1) := by decide +kernel
theorem dX7_steadyFlow_0 : decode cX7_steadyFlow 0 = .ok (.aload_n 0, 1) := by decide +kernel
theorem dX7_steadyFlow_1 : decode cX7_steadyFlow 1 = .ok (.iload_n 1, 1) := by decide +kernel
theorem dX7_steadyFlow_2 : decode cX7_steadyFlow 2 = .ok (.invokevirtual 201, 3) := by decide +kernel
theorem dX7_steadyFlow_5 : decode cX7_steadyFlow 5 = .ok (.ifCond .eq 22, 3) := by decide +kernel
theorem dX7_steadyFlow_8 : decode cX7_steadyFlow 8 = .ok (.iload_n 2, 1) := by decide +kernel
theorem dX7_steadyFlow_9 : decode cX7_steadyFlow 9 = .ok (.i2l, 1) := by decide +kernel
theorem dX7_steadyFlow_10 : decode cX7_steadyFlow 10 = .ok (.lconst 0, 1) := by decide +kernel
theorem dX7_steadyFlow_11 : decode cX7_steadyFlow 11 = .ok (.lconst 1, 1) := by decide +kernel
theorem dX7_steadyFlow_12 : decode cX7_steadyFlow 12 = .ok (.invokestatic 133, 3) := by decide +kernel
theorem dX7_steadyFlow_15 : decode cX7_steadyFlow 15 = .ok (.ifCond .eq 12, 3) := by decide +kernel
theorem dX7_steadyFlow_18 : decode cX7_steadyFlow 18 = .ok (.aload_n 0, 1) := by decide +kernel
theorem dX7_steadyFlow_19 : decode cX7_steadyFlow 19 = .ok (.iconst (-1), 1) := by decide +kernel
theorem dX7_steadyFlow_20 : decode cX7_steadyFlow 20 = .ok (.iconst 0, 1) := by decide +kernel
theorem dX7_steadyFlow_21 : decode cX7_steadyFlow 21 = .ok (.invokevirtual 289, 3) := by decide +kernel
theorem dX7_steadyFlow_24 : decode cX7_steadyFlow 24 = .ok (.ifCond .ne 7, 3) := by decide +kernel
theorem dX7_steadyFlow_27 : decode cX7_steadyFlow 27 = .ok (.ldc2_w 256, 3) := by decide +kernel
theorem dX7_steadyFlow_30 : decode cX7_steadyFlow 30 = .ok (.lreturn, 1) := by decide +kernel
theorem dX7_steadyFlow_31 : decode cX7_steadyFlow 31 = .ok (.iload_n 1, 1) := by decide +kernel
theorem dX7_steadyFlow_32 : decode cX7_steadyFlow 32 = .ok (.iconst (-1), 1) := by decide +kernel
theorem dX7_steadyFlow_33 : decode cX7_steadyFlow 33 = .ok (.if_icmp .ne 18, 3) := by decide +kernel
theorem dX7_steadyFlow_36 : decode cX7_steadyFlow 36 = .ok (.aload_n 0, 1) := by decide +kernel
theorem dX7_steadyFlow_37 : decode cX7_steadyFlow 37 = .ok (.getfield 32, 3) := by decide +kernel
theorem dX7_steadyFlow_40 : decode cX7_steadyFlow 40 = .ok (.iconst 0, 1) := by decide +kernel
theorem dX7_steadyFlow_41 : decode cX7_steadyFlow 41 = .ok (.iaload, 1) := by decide +kernel
theorem dX7_steadyFlow_42 : decode cX7_steadyFlow 42 = .ok (.i2l, 1) := by decide +kernel
theorem dX7_steadyFlow_43 : decode cX7_steadyFlow 43 = .ok (.aload_n 0, 1) := by decide +kernel
theorem dX7_steadyFlow_44 : decode cX7_steadyFlow 44 = .ok (.getfield 282, 3) := by decide +kernel
theorem dX7_steadyFlow_47 : decode cX7_steadyFlow 47 = .ok (.lmul, 1) := by decide +kernel
theorem dX7_steadyFlow_48 : decode cX7_steadyFlow 48 = .ok (.goto 9, 3) := by decide +kernel
theorem dX7_steadyFlow_51 : decode cX7_steadyFlow 51 = .ok (.aload_n 0, 1) := by decide +kernel
theorem dX7_steadyFlow_52 : decode cX7_steadyFlow 52 = .ok (.getfield 68, 3) := by decide +kernel
theorem dX7_steadyFlow_55 : decode cX7_steadyFlow 55 = .ok (.iload_n 1, 1) := by decide +kernel
theorem dX7_steadyFlow_56 : decode cX7_steadyFlow 56 = .ok (.laload, 1) := by decide +kernel
theorem dX7_steadyFlow_57 : decode cX7_steadyFlow 57 = .ok (.lstore_n 3, 1) := by decide +kernel
theorem dX7_steadyFlow_58 : decode cX7_steadyFlow 58 = .ok (.iload_n 1, 1) := by decide +kernel
theorem dX7_steadyFlow_59 : decode cX7_steadyFlow 59 = .ok (.aload_n 0, 1) := by decide +kernel
theorem dX7_steadyFlow_60 : decode cX7_steadyFlow 60 = .ok (.getfield 129, 3) := by decide +kernel
theorem dX7_steadyFlow_63 : decode cX7_steadyFlow 63 = .ok (.iconst 1, 1) := by decide +kernel
theorem dX7_steadyFlow_64 : decode cX7_steadyFlow 64 = .ok (.isub, 1) := by decide +kernel
theorem dX7_steadyFlow_65 : decode cX7_steadyFlow 65 = .ok (.if_icmp .ne 18, 3) := by decide +kernel
theorem dX7_steadyFlow_68 : decode cX7_steadyFlow 68 = .ok (.aload_n 0, 1) := by decide +kernel
theorem dX7_steadyFlow_69 : decode cX7_steadyFlow 69 = .ok (.getfield 32, 3) := by decide +kernel
theorem dX7_steadyFlow_72 : decode cX7_steadyFlow 72 = .ok (.iconst 1, 1) := by decide +kernel
theorem dX7_steadyFlow_73 : decode cX7_steadyFlow 73 = .ok (.iaload, 1) := by decide +kernel
theorem dX7_steadyFlow_74 : decode cX7_steadyFlow 74 = .ok (.i2l, 1) := by decide +kernel
theorem dX7_steadyFlow_75 : decode cX7_steadyFlow 75 = .ok (.aload_n 0, 1) := by decide +kernel
theorem dX7_steadyFlow_76 : decode cX7_steadyFlow 76 = .ok (.getfield 282, 3) := by decide +kernel
theorem dX7_steadyFlow_79 : decode cX7_steadyFlow 79 = .ok (.lmul, 1) := by decide +kernel
theorem dX7_steadyFlow_80 : decode cX7_steadyFlow 80 = .ok (.goto 11, 3) := by decide +kernel
theorem dX7_steadyFlow_83 : decode cX7_steadyFlow 83 = .ok (.aload_n 0, 1) := by decide +kernel
theorem dX7_steadyFlow_84 : decode cX7_steadyFlow 84 = .ok (.getfield 68, 3) := by decide +kernel
theorem dX7_steadyFlow_87 : decode cX7_steadyFlow 87 = .ok (.iload_n 1, 1) := by decide +kernel
theorem dX7_steadyFlow_88 : decode cX7_steadyFlow 88 = .ok (.iconst 1, 1) := by decide +kernel
theorem dX7_steadyFlow_89 : decode cX7_steadyFlow 89 = .ok (.iadd, 1) := by decide +kernel
theorem dX7_steadyFlow_90 : decode cX7_steadyFlow 90 = .ok (.laload, 1) := by decide +kernel
theorem dX7_steadyFlow_91 : decode cX7_steadyFlow 91 = .ok (.lstore 5, 2) := by decide +kernel
theorem dX7_steadyFlow_93 : decode cX7_steadyFlow 93 = .ok (.aload_n 0, 1) := by decide +kernel
theorem dX7_steadyFlow_94 : decode cX7_steadyFlow 94 = .ok (.iload_n 1, 1) := by decide +kernel
theorem dX7_steadyFlow_95 : decode cX7_steadyFlow 95 = .ok (.invokevirtual 204, 3) := by decide +kernel
theorem dX7_steadyFlow_98 : decode cX7_steadyFlow 98 = .ok (.i2l, 1) := by decide +kernel
theorem dX7_steadyFlow_99 : decode cX7_steadyFlow 99 = .ok (.lload_n 3, 1) := by decide +kernel
theorem dX7_steadyFlow_100 : decode cX7_steadyFlow 100 = .ok (.lload 5, 2) := by decide +kernel
theorem dX7_steadyFlow_102 : decode cX7_steadyFlow 102 = .ok (.lsub, 1) := by decide +kernel
theorem dX7_steadyFlow_103 : decode cX7_steadyFlow 103 = .ok (.lmul, 1) := by decide +kernel
theorem dX7_steadyFlow_104 : decode cX7_steadyFlow 104 = .ok (.aload_n 0, 1) := by decide +kernel
theorem dX7_steadyFlow_105 : decode cX7_steadyFlow 105 = .ok (.getfield 282, 3) := by decide +kernel
theorem dX7_steadyFlow_108 : decode cX7_steadyFlow 108 = .ok (.iload_n 2, 1) := by decide +kernel
theorem dX7_steadyFlow_109 : decode cX7_steadyFlow 109 = .ok (.invokestatic 252, 3) := by decide +kernel
theorem dX7_steadyFlow_112 : decode cX7_steadyFlow 112 = .ok (.lreturn, 1) := by decide +kernel
theorem dX7_hottest_0 : decode cX7_hottest 0 = .ok (.aload_n 0, 1) := by decide +kernel
theorem dX7_hottest_1 : decode cX7_hottest 1 = .ok (.iconst (-1), 1) := by decide +kernel
theorem dX7_hottest_2 : decode cX7_hottest 2 = .ok (.iconst 0, 1) := by decide +kernel
theorem dX7_hottest_3 : decode cX7_hottest 3 = .ok (.invokevirtual 289, 3) := by decide +kernel
theorem dX7_hottest_6 : decode cX7_hottest 6 = .ok (.ifCond .ne 5, 3) := by decide +kernel
theorem dX7_hottest_9 : decode cX7_hottest 9 = .ok (.iconst (-1), 1) := by decide +kernel
theorem dX7_hottest_10 : decode cX7_hottest 10 = .ok (.ireturn, 1) := by decide +kernel
theorem dX7_hottest_11 : decode cX7_hottest 11 = .ok (.iconst 0, 1) := by decide +kernel
theorem dX7_hottest_12 : decode cX7_hottest 12 = .ok (.istore_n 1, 1) := by decide +kernel
theorem dX7_hottest_13 : decode cX7_hottest 13 = .ok (.iconst 1, 1) := by decide +kernel
theorem dX7_hottest_14 : decode cX7_hottest 14 = .ok (.istore_n 2, 1) := by decide +kernel
theorem dX7_hottest_15 : decode cX7_hottest 15 = .ok (.iload_n 2, 1) := by decide +kernel
theorem dX7_hottest_16 : decode cX7_hottest 16 = .ok (.aload_n 0, 1) := by decide +kernel
theorem dX7_hottest_17 : decode cX7_hottest 17 = .ok (.getfield 129, 3) := by decide +kernel
theorem dX7_hottest_20 : decode cX7_hottest 20 = .ok (.if_icmp .ge 31, 3) := by decide +kernel
theorem dX7_hottest_23 : decode cX7_hottest 23 = .ok (.aload_n 0, 1) := by decide +kernel
theorem dX7_hottest_24 : decode cX7_hottest 24 = .ok (.getfield 68, 3) := by decide +kernel
theorem dX7_hottest_27 : decode cX7_hottest 27 = .ok (.iload_n 2, 1) := by decide +kernel
theorem dX7_hottest_28 : decode cX7_hottest 28 = .ok (.laload, 1) := by decide +kernel
theorem dX7_hottest_29 : decode cX7_hottest 29 = .ok (.aload_n 0, 1) := by decide +kernel
theorem dX7_hottest_30 : decode cX7_hottest 30 = .ok (.getfield 68, 3) := by decide +kernel
theorem dX7_hottest_33 : decode cX7_hottest 33 = .ok (.iload_n 1, 1) := by decide +kernel
theorem dX7_hottest_34 : decode cX7_hottest 34 = .ok (.laload, 1) := by decide +kernel
theorem dX7_hottest_35 : decode cX7_hottest 35 = .ok (.lcmp, 1) := by decide +kernel
theorem dX7_hottest_36 : decode cX7_hottest 36 = .ok (.ifCond .le 7, 3) := by decide +kernel
theorem dX7_hottest_39 : decode cX7_hottest 39 = .ok (.iload_n 2, 1) := by decide +kernel
theorem dX7_hottest_40 : decode cX7_hottest 40 = .ok (.goto 4, 3) := by decide +kernel
theorem dX7_hottest_43 : decode cX7_hottest 43 = .ok (.iload_n 1, 1) := by decide +kernel
theorem dX7_hottest_44 : decode cX7_hottest 44 = .ok (.istore_n 1, 1) := by decide +kernel
theorem dX7_hottest_45 : decode cX7_hottest 45 = .ok (.iinc 2 1, 3) := by decide +kernel
theorem dX7_hottest_48 : decode cX7_hottest 48 = .ok (.goto (-33), 3) := by decide +kernel
theorem dX7_hottest_51 : decode cX7_hottest 51 = .ok (.iload_n 1, 1) := by decide +kernel
theorem dX7_hottest_52 : decode cX7_hottest 52 = .ok (.ireturn, 1) := by decide +kernel
theorem dX7_lay_0 : decode cX7_lay 0 = .ok (.aload_n 0, 1) := by decide +kernel
theorem dX7_lay_1 : decode cX7_lay 1 = .ok (.iconst (-1), 1) := by decide +kernel
theorem dX7_lay_2 : decode cX7_lay 2 = .ok (.iconst 0, 1) := by decide +kernel
theorem dX7_lay_3 : decode cX7_lay 3 = .ok (.invokevirtual 289, 3) := by decide +kernel
theorem dX7_lay_6 : decode cX7_lay 6 = .ok (.ifCond .ne 6, 3) := by decide +kernel
theorem dX7_lay_9 : decode cX7_lay 9 = .ok (.bipush (-3), 2) := by decide +kernel
theorem dX7_lay_11 : decode cX7_lay 11 = .ok (.ireturn, 1) := by decide +kernel
theorem dX7_lay_12 : decode cX7_lay 12 = .ok (.aload_n 0, 1) := by decide +kernel
theorem dX7_lay_13 : decode cX7_lay 13 = .ok (.getfield 282, 3) := by decide +kernel
theorem dX7_lay_16 : decode cX7_lay 16 = .ok (.lstore_n 1, 1) := by decide +kernel
theorem dX7_lay_17 : decode cX7_lay 17 = .ok (.iconst 0, 1) := by decide +kernel
theorem dX7_lay_18 : decode cX7_lay 18 = .ok (.istore_n 3, 1) := by decide +kernel
theorem dX7_lay_19 : decode cX7_lay 19 = .ok (.iload_n 3, 1) := by decide +kernel
theorem dX7_lay_20 : decode cX7_lay 20 = .ok (.aload_n 0, 1) := by decide +kernel
theorem dX7_lay_21 : decode cX7_lay 21 = .ok (.getfield 129, 3) := by decide +kernel
theorem dX7_lay_24 : decode cX7_lay 24 = .ok (.if_icmp .ge 20, 3) := by decide +kernel
theorem dX7_lay_27 : decode cX7_lay 27 = .ok (.aload_n 0, 1) := by decide +kernel
theorem dX7_lay_28 : decode cX7_lay 28 = .ok (.getfield 68, 3) := by decide +kernel
theorem dX7_lay_31 : decode cX7_lay 31 = .ok (.iload_n 3, 1) := by decide +kernel
theorem dX7_lay_32 : decode cX7_lay 32 = .ok (.laload, 1) := by decide +kernel
theorem dX7_lay_33 : decode cX7_lay 33 = .ok (.lload_n 1, 1) := by decide +kernel
theorem dX7_lay_34 : decode cX7_lay 34 = .ok (.invokestatic 143, 3) := by decide +kernel
theorem dX7_lay_37 : decode cX7_lay 37 = .ok (.lstore_n 1, 1) := by decide +kernel
theorem dX7_lay_38 : decode cX7_lay 38 = .ok (.iinc 3 1, 3) := by decide +kernel
theorem dX7_lay_41 : decode cX7_lay 41 = .ok (.goto (-22), 3) := by decide +kernel
theorem dX7_lay_44 : decode cX7_lay 44 = .ok (.aload_n 0, 1) := by decide +kernel
theorem dX7_lay_45 : decode cX7_lay 45 = .ok (.getfield 282, 3) := by decide +kernel
theorem dX7_lay_48 : decode cX7_lay 48 = .ok (.lload_n 1, 1) := by decide +kernel
theorem dX7_lay_49 : decode cX7_lay 49 = .ok (.ldiv, 1) := by decide +kernel
theorem dX7_lay_50 : decode cX7_lay 50 = .ok (.ldc2_w 230, 3) := by decide +kernel
theorem dX7_lay_53 : decode cX7_lay 53 = .ok (.lcmp, 1) := by decide +kernel
theorem dX7_lay_54 : decode cX7_lay 54 = .ok (.ifCond .gt 7, 3) := by decide +kernel
theorem dX7_lay_57 : decode cX7_lay 57 = .ok (.iconst 1, 1) := by decide +kernel
theorem dX7_lay_58 : decode cX7_lay 58 = .ok (.goto 4, 3) := by decide +kernel
theorem dX7_lay_61 : decode cX7_lay 61 = .ok (.iconst 0, 1) := by decide +kernel
theorem dX7_lay_62 : decode cX7_lay 62 = .ok (.istore_n 3, 1) := by decide +kernel
theorem dX7_lay_63 : decode cX7_lay 63 = .ok (.iconst 0, 1) := by decide +kernel
theorem dX7_lay_64 : decode cX7_lay 64 = .ok (.istore 4, 2) := by decide +kernel
theorem dX7_lay_66 : decode cX7_lay 66 = .ok (.iload 4, 2) := by decide +kernel
theorem dX7_lay_68 : decode cX7_lay 68 = .ok (.aload_n 0, 1) := by decide +kernel
theorem dX7_lay_69 : decode cX7_lay 69 = .ok (.getfield 129, 3) := by decide +kernel
theorem dX7_lay_72 : decode cX7_lay 72 = .ok (.if_icmp .ge 38, 3) := by decide +kernel
theorem dX7_lay_75 : decode cX7_lay 75 = .ok (.iload_n 3, 1) := by decide +kernel
theorem dX7_lay_76 : decode cX7_lay 76 = .ok (.ifCond .eq 26, 3) := by decide +kernel
theorem dX7_lay_79 : decode cX7_lay 79 = .ok (.aload_n 0, 1) := by decide +kernel
theorem dX7_lay_80 : decode cX7_lay 80 = .ok (.getfield 68, 3) := by decide +kernel
theorem dX7_lay_83 : decode cX7_lay 83 = .ok (.iload 4, 2) := by decide +kernel
theorem dX7_lay_85 : decode cX7_lay 85 = .ok (.laload, 1) := by decide +kernel
theorem dX7_lay_86 : decode cX7_lay 86 = .ok (.lload_n 1, 1) := by decide +kernel
theorem dX7_lay_87 : decode cX7_lay 87 = .ok (.ldiv, 1) := by decide +kernel
theorem dX7_lay_88 : decode cX7_lay 88 = .ok (.invokestatic 137, 3) := by decide +kernel
theorem dX7_lay_91 : decode cX7_lay 91 = .ok (.ldc2_w 230, 3) := by decide +kernel
theorem dX7_lay_94 : decode cX7_lay 94 = .ok (.lcmp, 1) := by decide +kernel
theorem dX7_lay_95 : decode cX7_lay 95 = .ok (.ifCond .gt 7, 3) := by decide +kernel
theorem dX7_lay_98 : decode cX7_lay 98 = .ok (.iconst 1, 1) := by decide +kernel
theorem dX7_lay_99 : decode cX7_lay 99 = .ok (.goto 4, 3) := by decide +kernel
theorem dX7_lay_102 : decode cX7_lay 102 = .ok (.iconst 0, 1) := by decide +kernel
theorem dX7_lay_103 : decode cX7_lay 103 = .ok (.istore_n 3, 1) := by decide +kernel
theorem dX7_lay_104 : decode cX7_lay 104 = .ok (.iinc 4 1, 3) := by decide +kernel
theorem dX7_lay_107 : decode cX7_lay 107 = .ok (.goto (-41), 3) := by decide +kernel
theorem dX7_lay_110 : decode cX7_lay 110 = .ok (.iload_n 3, 1) := by decide +kernel
theorem dX7_lay_111 : decode cX7_lay 111 = .ok (.ifCond .ne 6, 3) := by decide +kernel
theorem dX7_lay_114 : decode cX7_lay 114 = .ok (.bipush (-4), 2) := by decide +kernel
theorem dX7_lay_116 : decode cX7_lay 116 = .ok (.ireturn, 1) := by decide +kernel
theorem dX7_lay_117 : decode cX7_lay 117 = .ok (.aload_n 0, 1) := by decide +kernel
theorem dX7_lay_118 : decode cX7_lay 118 = .ok (.aload_n 0, 1) := by decide +kernel
theorem dX7_lay_119 : decode cX7_lay 119 = .ok (.getfield 282, 3) := by decide +kernel
theorem dX7_lay_122 : decode cX7_lay 122 = .ok (.lload_n 1, 1) := by decide +kernel
theorem dX7_lay_123 : decode cX7_lay 123 = .ok (.ldiv, 1) := by decide +kernel
theorem dX7_lay_124 : decode cX7_lay 124 = .ok (.putfield 28, 3) := by decide +kernel
theorem dX7_lay_127 : decode cX7_lay 127 = .ok (.iconst 0, 1) := by decide +kernel
theorem dX7_lay_128 : decode cX7_lay 128 = .ok (.istore 4, 2) := by decide +kernel
theorem dX7_lay_130 : decode cX7_lay 130 = .ok (.iload 4, 2) := by decide +kernel
theorem dX7_lay_132 : decode cX7_lay 132 = .ok (.aload_n 0, 1) := by decide +kernel
theorem dX7_lay_133 : decode cX7_lay 133 = .ok (.getfield 129, 3) := by decide +kernel
theorem dX7_lay_136 : decode cX7_lay 136 = .ok (.if_icmp .ge 25, 3) := by decide +kernel
theorem dX7_lay_139 : decode cX7_lay 139 = .ok (.aload_n 0, 1) := by decide +kernel
theorem dX7_lay_140 : decode cX7_lay 140 = .ok (.getfield 24, 3) := by decide +kernel
theorem dX7_lay_143 : decode cX7_lay 143 = .ok (.iload 4, 2) := by decide +kernel
theorem dX7_lay_145 : decode cX7_lay 145 = .ok (.aload_n 0, 1) := by decide +kernel
theorem dX7_lay_146 : decode cX7_lay 146 = .ok (.getfield 68, 3) := by decide +kernel
theorem dX7_lay_149 : decode cX7_lay 149 = .ok (.iload 4, 2) := by decide +kernel
theorem dX7_lay_151 : decode cX7_lay 151 = .ok (.laload, 1) := by decide +kernel
theorem dX7_lay_152 : decode cX7_lay 152 = .ok (.lload_n 1, 1) := by decide +kernel
theorem dX7_lay_153 : decode cX7_lay 153 = .ok (.ldiv, 1) := by decide +kernel
theorem dX7_lay_154 : decode cX7_lay 154 = .ok (.lastore, 1) := by decide +kernel
theorem dX7_lay_155 : decode cX7_lay 155 = .ok (.iinc 4 1, 3) := by decide +kernel
theorem dX7_lay_158 : decode cX7_lay 158 = .ok (.goto (-28), 3) := by decide +kernel
theorem dX7_lay_161 : decode cX7_lay 161 = .ok (.iconst 1, 1) := by decide +kernel
theorem dX7_lay_162 : decode cX7_lay 162 = .ok (.ireturn, 1) := by decide +kernel
theorem dX7_isSteady_0 : decode cX7_isSteady 0 = .ok (.aload_n 0, 1) := by decide +kernel
theorem dX7_isSteady_1 : decode cX7_isSteady 1 = .ok (.invokevirtual 232, 3) := by decide +kernel
theorem dX7_isSteady_4 : decode cX7_isSteady 4 = .ok (.iconst 1, 1) := by decide +kernel
theorem dX7_isSteady_5 : decode cX7_isSteady 5 = .ok (.istore_n 1, 1) := by decide +kernel
theorem dX7_isSteady_6 : decode cX7_isSteady 6 = .ok (.iconst 0, 1) := by decide +kernel
theorem dX7_isSteady_7 : decode cX7_isSteady 7 = .ok (.istore_n 2, 1) := by decide +kernel
theorem dX7_isSteady_8 : decode cX7_isSteady 8 = .ok (.iload_n 2, 1) := by decide +kernel
theorem dX7_isSteady_9 : decode cX7_isSteady 9 = .ok (.aload_n 0, 1) := by decide +kernel
theorem dX7_isSteady_10 : decode cX7_isSteady 10 = .ok (.getfield 129, 3) := by decide +kernel
theorem dX7_isSteady_13 : decode cX7_isSteady 13 = .ok (.if_icmp .ge 29, 3) := by decide +kernel
theorem dX7_isSteady_16 : decode cX7_isSteady 16 = .ok (.iload_n 1, 1) := by decide +kernel
theorem dX7_isSteady_17 : decode cX7_isSteady 17 = .ok (.ifCond .eq 17, 3) := by decide +kernel
theorem dX7_isSteady_20 : decode cX7_isSteady 20 = .ok (.aload_n 0, 1) := by decide +kernel
theorem dX7_isSteady_21 : decode cX7_isSteady 21 = .ok (.iload_n 2, 1) := by decide +kernel
theorem dX7_isSteady_22 : decode cX7_isSteady 22 = .ok (.invokevirtual 220, 3) := by decide +kernel
theorem dX7_isSteady_25 : decode cX7_isSteady 25 = .ok (.lconst 0, 1) := by decide +kernel
theorem dX7_isSteady_26 : decode cX7_isSteady 26 = .ok (.lcmp, 1) := by decide +kernel
theorem dX7_isSteady_27 : decode cX7_isSteady 27 = .ok (.ifCond .ne 7, 3) := by decide +kernel
theorem dX7_isSteady_30 : decode cX7_isSteady 30 = .ok (.iconst 1, 1) := by decide +kernel
theorem dX7_isSteady_31 : decode cX7_isSteady 31 = .ok (.goto 4, 3) := by decide +kernel
theorem dX7_isSteady_34 : decode cX7_isSteady 34 = .ok (.iconst 0, 1) := by decide +kernel
theorem dX7_isSteady_35 : decode cX7_isSteady 35 = .ok (.istore_n 1, 1) := by decide +kernel
theorem dX7_isSteady_36 : decode cX7_isSteady 36 = .ok (.iinc 2 1, 3) := by decide +kernel
theorem dX7_isSteady_39 : decode cX7_isSteady 39 = .ok (.goto (-31), 3) := by decide +kernel
theorem dX7_isSteady_42 : decode cX7_isSteady 42 = .ok (.iload_n 1, 1) := by decide +kernel
theorem dX7_isSteady_43 : decode cX7_isSteady 43 = .ok (.ifCond .eq 7, 3) := by decide +kernel
theorem dX7_isSteady_46 : decode cX7_isSteady 46 = .ok (.iconst 1, 1) := by decide +kernel
theorem dX7_isSteady_47 : decode cX7_isSteady 47 = .ok (.goto 4, 3) := by decide +kernel
theorem dX7_isSteady_50 : decode cX7_isSteady 50 = .ok (.iconst 0, 1) := by decide +kernel
theorem dX7_isSteady_51 : decode cX7_isSteady 51 = .ok (.ireturn, 1) := by decide +kernel
theorem dX7_isSo_0 : decode cX7_isSo 0 = .ok (.iconst 1, 1) := by decide +kernel
theorem dX7_isSo_1 : decode cX7_isSo 1 = .ok (.istore_n 2, 1) := by decide +kernel
theorem dX7_isSo_2 : decode cX7_isSo 2 = .ok (.iconst 0, 1) := by decide +kernel
theorem dX7_isSo_3 : decode cX7_isSo 3 = .ok (.istore_n 3, 1) := by decide +kernel
theorem dX7_isSo_4 : decode cX7_isSo 4 = .ok (.iload_n 3, 1) := by decide +kernel
theorem dX7_isSo_5 : decode cX7_isSo 5 = .ok (.aload_n 0, 1) := by decide +kernel
theorem dX7_isSo_6 : decode cX7_isSo 6 = .ok (.getfield 120, 3) := by decide +kernel
theorem dX7_isSo_9 : decode cX7_isSo 9 = .ok (.iload_n 1, 1) := by decide +kernel
theorem dX7_isSo_10 : decode cX7_isSo 10 = .ok (.iaload, 1) := by decide +kernel
theorem dX7_isSo_11 : decode cX7_isSo 11 = .ok (.if_icmp .ge 48, 3) := by decide +kernel
theorem dX7_isSo_14 : decode cX7_isSo 14 = .ok (.iload_n 2, 1) := by decide +kernel
theorem dX7_isSo_15 : decode cX7_isSo 15 = .ok (.ifCond .eq 36, 3) := by decide +kernel
theorem dX7_isSo_18 : decode cX7_isSo 18 = .ok (.aload_n 0, 1) := by decide +kernel
theorem dX7_isSo_19 : decode cX7_isSo 19 = .ok (.getfield 68, 3) := by decide +kernel
theorem dX7_isSo_22 : decode cX7_isSo 22 = .ok (.iload_n 3, 1) := by decide +kernel
theorem dX7_isSo_23 : decode cX7_isSo 23 = .ok (.laload, 1) := by decide +kernel
theorem dX7_isSo_24 : decode cX7_isSo 24 = .ok (.aload_n 0, 1) := by decide +kernel
theorem dX7_isSo_25 : decode cX7_isSo 25 = .ok (.getfield 282, 3) := by decide +kernel
theorem dX7_isSo_28 : decode cX7_isSo 28 = .ok (.invokestatic 245, 3) := by decide +kernel
theorem dX7_isSo_31 : decode cX7_isSo 31 = .ok (.aload_n 0, 1) := by decide +kernel
theorem dX7_isSo_32 : decode cX7_isSo 32 = .ok (.getfield 123, 3) := by decide +kernel
theorem dX7_isSo_35 : decode cX7_isSo 35 = .ok (.bipush 40, 2) := by decide +kernel
theorem dX7_isSo_37 : decode cX7_isSo 37 = .ok (.iload_n 1, 1) := by decide +kernel
theorem dX7_isSo_38 : decode cX7_isSo 38 = .ok (.imul, 1) := by decide +kernel
theorem dX7_isSo_39 : decode cX7_isSo 39 = .ok (.iload_n 3, 1) := by decide +kernel
theorem dX7_isSo_40 : decode cX7_isSo 40 = .ok (.iadd, 1) := by decide +kernel
theorem dX7_isSo_41 : decode cX7_isSo 41 = .ok (.iaload, 1) := by decide +kernel
theorem dX7_isSo_42 : decode cX7_isSo 42 = .ok (.i2l, 1) := by decide +kernel
theorem dX7_isSo_43 : decode cX7_isSo 43 = .ok (.lcmp, 1) := by decide +kernel
theorem dX7_isSo_44 : decode cX7_isSo 44 = .ok (.ifCond .ne 7, 3) := by decide +kernel
theorem dX7_isSo_47 : decode cX7_isSo 47 = .ok (.iconst 1, 1) := by decide +kernel
theorem dX7_isSo_48 : decode cX7_isSo 48 = .ok (.goto 4, 3) := by decide +kernel
theorem dX7_isSo_51 : decode cX7_isSo 51 = .ok (.iconst 0, 1) := by decide +kernel
theorem dX7_isSo_52 : decode cX7_isSo 52 = .ok (.istore_n 2, 1) := by decide +kernel
theorem dX7_isSo_53 : decode cX7_isSo 53 = .ok (.iinc 3 1, 3) := by decide +kernel
theorem dX7_isSo_56 : decode cX7_isSo 56 = .ok (.goto (-52), 3) := by decide +kernel
theorem dX7_isSo_59 : decode cX7_isSo 59 = .ok (.iload_n 2, 1) := by decide +kernel
theorem dX7_isSo_60 : decode cX7_isSo 60 = .ok (.ireturn, 1) := by decide +kernel
theorem dX7_buried_0 : decode cX7_buried 0 = .ok (.iload_n 1, 1) := by decide +kernel
theorem dX7_buried_1 : decode cX7_buried 1 = .ok (.invokestatic 292, 3) := by decide +kernel
theorem dX7_buried_4 : decode cX7_buried 4 = .ok (.ifCond .eq 13, 3) := by decide +kernel
theorem dX7_buried_7 : decode cX7_buried 7 = .ok (.iload_n 2, 1) := by decide +kernel
theorem dX7_buried_8 : decode cX7_buried 8 = .ok (.i2l, 1) := by decide +kernel
theorem dX7_buried_9 : decode cX7_buried 9 = .ok (.lconst 0, 1) := by decide +kernel
theorem dX7_buried_10 : decode cX7_buried 10 = .ok (.lconst 1, 1) := by decide +kernel
theorem dX7_buried_11 : decode cX7_buried 11 = .ok (.invokestatic 133, 3) := by decide +kernel
theorem dX7_buried_14 : decode cX7_buried 14 = .ok (.ifCond .ne 6, 3) := by decide +kernel
theorem dX7_buried_17 : decode cX7_buried 17 = .ok (.bipush (-2), 2) := by decide +kernel
theorem dX7_buried_19 : decode cX7_buried 19 = .ok (.ireturn, 1) := by decide +kernel
theorem dX7_buried_20 : decode cX7_buried 20 = .ok (.aload_n 0, 1) := by decide +kernel
theorem dX7_buried_21 : decode cX7_buried 21 = .ok (.getfield 117, 3) := by decide +kernel
theorem dX7_buried_24 : decode cX7_buried 24 = .ok (.iload_n 1, 1) := by decide +kernel
theorem dX7_buried_25 : decode cX7_buried 25 = .ok (.iaload, 1) := by decide +kernel
theorem dX7_buried_26 : decode cX7_buried 26 = .ok (.iconst (-1), 1) := by decide +kernel
theorem dX7_buried_27 : decode cX7_buried 27 = .ok (.if_icmp .ne 6, 3) := by decide +kernel
theorem dX7_buried_30 : decode cX7_buried 30 = .ok (.bipush (-11), 2) := by decide +kernel
theorem dX7_buried_32 : decode cX7_buried 32 = .ok (.ireturn, 1) := by decide +kernel
theorem dX7_buried_33 : decode cX7_buried 33 = .ok (.aload_n 0, 1) := by decide +kernel
theorem dX7_buried_34 : decode cX7_buried 34 = .ok (.getfield 120, 3) := by decide +kernel
theorem dX7_buried_37 : decode cX7_buried 37 = .ok (.iload_n 1, 1) := by decide +kernel
theorem dX7_buried_38 : decode cX7_buried 38 = .ok (.iaload, 1) := by decide +kernel
theorem dX7_buried_39 : decode cX7_buried 39 = .ok (.aload_n 0, 1) := by decide +kernel
theorem dX7_buried_40 : decode cX7_buried 40 = .ok (.getfield 129, 3) := by decide +kernel
theorem dX7_buried_43 : decode cX7_buried 43 = .ok (.if_icmp .le 6, 3) := by decide +kernel
theorem dX7_buried_46 : decode cX7_buried 46 = .ok (.bipush (-2), 2) := by decide +kernel
theorem dX7_buried_48 : decode cX7_buried 48 = .ok (.ireturn, 1) := by decide +kernel
theorem dX7_buried_49 : decode cX7_buried 49 = .ok (.aload_n 0, 1) := by decide +kernel
theorem dX7_buried_50 : decode cX7_buried 50 = .ok (.getfield 129, 3) := by decide +kernel
theorem dX7_buried_53 : decode cX7_buried 53 = .ok (.ifCond .le 15, 3) := by decide +kernel
theorem dX7_buried_56 : decode cX7_buried 56 = .ok (.aload_n 0, 1) := by decide +kernel
theorem dX7_buried_57 : decode cX7_buried 57 = .ok (.iconst (-1), 1) := by decide +kernel
theorem dX7_buried_58 : decode cX7_buried 58 = .ok (.iconst 0, 1) := by decide +kernel
theorem dX7_buried_59 : decode cX7_buried 59 = .ok (.invokevirtual 289, 3) := by decide +kernel
theorem dX7_buried_62 : decode cX7_buried 62 = .ok (.ifCond .ne 6, 3) := by decide +kernel
theorem dX7_buried_65 : decode cX7_buried 65 = .ok (.bipush (-3), 2) := by decide +kernel
theorem dX7_buried_67 : decode cX7_buried 67 = .ok (.ireturn, 1) := by decide +kernel
theorem dX7_buried_68 : decode cX7_buried 68 = .ok (.iconst 0, 1) := by decide +kernel
theorem dX7_buried_69 : decode cX7_buried 69 = .ok (.istore_n 3, 1) := by decide +kernel
theorem dX7_buried_70 : decode cX7_buried 70 = .ok (.iconst (-1), 1) := by decide +kernel
theorem dX7_buried_71 : decode cX7_buried 71 = .ok (.istore 4, 2) := by decide +kernel
theorem dX7_buried_73 : decode cX7_buried 73 = .ok (.iconst 0, 1) := by decide +kernel
theorem dX7_buried_74 : decode cX7_buried 74 = .ok (.istore 5, 2) := by decide +kernel
theorem dX7_buried_76 : decode cX7_buried 76 = .ok (.iload 5, 2) := by decide +kernel
theorem dX7_buried_78 : decode cX7_buried 78 = .ok (.aload_n 0, 1) := by decide +kernel
theorem dX7_buried_79 : decode cX7_buried 79 = .ok (.getfield 129, 3) := by decide +kernel
theorem dX7_buried_82 : decode cX7_buried 82 = .ok (.if_icmp .ge 68, 3) := by decide +kernel
theorem dX7_buried_85 : decode cX7_buried 85 = .ok (.bipush (-9), 2) := by decide +kernel
theorem dX7_buried_87 : decode cX7_buried 87 = .ok (.istore 6, 2) := by decide +kernel
theorem dX7_buried_89 : decode cX7_buried 89 = .ok (.iload 6, 2) := by decide +kernel
theorem dX7_buried_91 : decode cX7_buried 91 = .ok (.bipush 9, 2) := by decide +kernel
theorem dX7_buried_93 : decode cX7_buried 93 = .ok (.if_icmp .gt 51, 3) := by decide +kernel
theorem dX7_buried_96 : decode cX7_buried 96 = .ok (.aload_n 0, 1) := by decide +kernel
theorem dX7_buried_97 : decode cX7_buried 97 = .ok (.iload 5, 2) := by decide +kernel
theorem dX7_buried_99 : decode cX7_buried 99 = .ok (.iload 6, 2) := by decide +kernel
theorem dX7_buried_101 : decode cX7_buried 101 = .ok (.invokevirtual 289, 3) := by decide +kernel
theorem dX7_buried_104 : decode cX7_buried 104 = .ok (.pop, 1) := by decide +kernel
theorem dX7_buried_105 : decode cX7_buried 105 = .ok (.aload_n 0, 1) := by decide +kernel
theorem dX7_buried_106 : decode cX7_buried 106 = .ok (.iload_n 1, 1) := by decide +kernel
theorem dX7_buried_107 : decode cX7_buried 107 = .ok (.invokevirtual 295, 3) := by decide +kernel
theorem dX7_buried_110 : decode cX7_buried 110 = .ok (.ifCond .eq 28, 3) := by decide +kernel
theorem dX7_buried_113 : decode cX7_buried 113 = .ok (.iload_n 3, 1) := by decide +kernel
theorem dX7_buried_114 : decode cX7_buried 114 = .ok (.ifCond .ne 17, 3) := by decide +kernel
theorem dX7_buried_117 : decode cX7_buried 117 = .ok (.bipush 100, 2) := by decide +kernel
theorem dX7_buried_119 : decode cX7_buried 119 = .ok (.iload 5, 2) := by decide +kernel
theorem dX7_buried_121 : decode cX7_buried 121 = .ok (.imul, 1) := by decide +kernel
theorem dX7_buried_122 : decode cX7_buried 122 = .ok (.iload 6, 2) := by decide +kernel
theorem dX7_buried_124 : decode cX7_buried 124 = .ok (.iadd, 1) := by decide +kernel
theorem dX7_buried_125 : decode cX7_buried 125 = .ok (.bipush 9, 2) := by decide +kernel
theorem dX7_buried_127 : decode cX7_buried 127 = .ok (.iadd, 1) := by decide +kernel
theorem dX7_buried_128 : decode cX7_buried 128 = .ok (.goto 5, 3) := by decide +kernel
theorem dX7_buried_131 : decode cX7_buried 131 = .ok (.iload 4, 2) := by decide +kernel
theorem dX7_buried_133 : decode cX7_buried 133 = .ok (.istore 4, 2) := by decide +kernel
theorem dX7_buried_135 : decode cX7_buried 135 = .ok (.iinc 3 1, 3) := by decide +kernel
theorem dX7_buried_138 : decode cX7_buried 138 = .ok (.iinc 6 1, 3) := by decide +kernel
theorem dX7_buried_141 : decode cX7_buried 141 = .ok (.goto (-52), 3) := by decide +kernel
theorem dX7_buried_144 : decode cX7_buried 144 = .ok (.iinc 5 1, 3) := by decide +kernel
theorem dX7_buried_147 : decode cX7_buried 147 = .ok (.goto (-71), 3) := by decide +kernel
theorem dX7_buried_150 : decode cX7_buried 150 = .ok (.iload_n 2, 1) := by decide +kernel
theorem dX7_buried_151 : decode cX7_buried 151 = .ok (.ifCond .ne 8, 3) := by decide +kernel
theorem dX7_buried_154 : decode cX7_buried 154 = .ok (.iload 4, 2) := by decide +kernel
theorem dX7_buried_156 : decode cX7_buried 156 = .ok (.goto 4, 3) := by decide +kernel
theorem dX7_buried_159 : decode cX7_buried 159 = .ok (.iload_n 3, 1) := by decide +kernel
theorem dX7_buried_160 : decode cX7_buried 160 = .ok (.ireturn, 1) := by decide +kernel
theorem dX7_otherwise_0 : decode cX7_otherwise 0 = .ok (.aload_n 0, 1) := by decide +kernel
theorem dX7_otherwise_1 : decode cX7_otherwise 1 = .ok (.invokevirtual 232, 3) := by decide +kernel
theorem dX7_otherwise_4 : decode cX7_otherwise 4 = .ok (.iconst 0, 1) := by decide +kernel
theorem dX7_otherwise_5 : decode cX7_otherwise 5 = .ok (.istore_n 3, 1) := by decide +kernel
theorem dX7_otherwise_6 : decode cX7_otherwise 6 = .ok (.iload_n 3, 1) := by decide +kernel
theorem dX7_otherwise_7 : decode cX7_otherwise 7 = .ok (.aload_n 0, 1) := by decide +kernel
theorem dX7_otherwise_8 : decode cX7_otherwise 8 = .ok (.getfield 120, 3) := by decide +kernel
theorem dX7_otherwise_11 : decode cX7_otherwise 11 = .ok (.iload_n 1, 1) := by decide +kernel
theorem dX7_otherwise_12 : decode cX7_otherwise 12 = .ok (.iaload, 1) := by decide +kernel
theorem dX7_otherwise_13 : decode cX7_otherwise 13 = .ok (.if_icmp .ge 51, 3) := by decide +kernel
theorem dX7_otherwise_16 : decode cX7_otherwise 16 = .ok (.iload_n 3, 1) := by decide +kernel
theorem dX7_otherwise_17 : decode cX7_otherwise 17 = .ok (.ifCond .le 10, 3) := by decide +kernel
theorem dX7_otherwise_20 : decode cX7_otherwise 20 = .ok (.aload_n 0, 1) := by decide +kernel
theorem dX7_otherwise_21 : decode cX7_otherwise 21 = .ok (.invokevirtual 235, 3) := by decide +kernel
theorem dX7_otherwise_24 : decode cX7_otherwise 24 = .ok (.ifCond .eq 32, 3) := by decide +kernel
theorem dX7_otherwise_27 : decode cX7_otherwise 27 = .ok (.aload_n 0, 1) := by decide +kernel
theorem dX7_otherwise_28 : decode cX7_otherwise 28 = .ok (.getfield 47, 3) := by decide +kernel
theorem dX7_otherwise_31 : decode cX7_otherwise 31 = .ok (.iload_n 2, 1) := by decide +kernel
theorem dX7_otherwise_32 : decode cX7_otherwise 32 = .ok (.laload, 1) := by decide +kernel
theorem dX7_otherwise_33 : decode cX7_otherwise 33 = .ok (.aload_n 0, 1) := by decide +kernel
theorem dX7_otherwise_34 : decode cX7_otherwise 34 = .ok (.getfield 207, 3) := by decide +kernel
theorem dX7_otherwise_37 : decode cX7_otherwise 37 = .ok (.invokestatic 245, 3) := by decide +kernel
theorem dX7_otherwise_40 : decode cX7_otherwise 40 = .ok (.aload_n 0, 1) := by decide +kernel
theorem dX7_otherwise_41 : decode cX7_otherwise 41 = .ok (.getfield 123, 3) := by decide +kernel
theorem dX7_otherwise_44 : decode cX7_otherwise 44 = .ok (.bipush 40, 2) := by decide +kernel
theorem dX7_otherwise_46 : decode cX7_otherwise 46 = .ok (.iload_n 1, 1) := by decide +kernel
theorem dX7_otherwise_47 : decode cX7_otherwise 47 = .ok (.imul, 1) := by decide +kernel
theorem dX7_otherwise_48 : decode cX7_otherwise 48 = .ok (.iload_n 3, 1) := by decide +kernel
theorem dX7_otherwise_49 : decode cX7_otherwise 49 = .ok (.iadd, 1) := by decide +kernel
theorem dX7_otherwise_50 : decode cX7_otherwise 50 = .ok (.iaload, 1) := by decide +kernel
theorem dX7_otherwise_51 : decode cX7_otherwise 51 = .ok (.i2l, 1) := by decide +kernel
theorem dX7_otherwise_52 : decode cX7_otherwise 52 = .ok (.lcmp, 1) := by decide +kernel
theorem dX7_otherwise_53 : decode cX7_otherwise 53 = .ok (.ifCond .eq 5, 3) := by decide +kernel
theorem dX7_otherwise_56 : decode cX7_otherwise 56 = .ok (.iload_n 3, 1) := by decide +kernel
theorem dX7_otherwise_57 : decode cX7_otherwise 57 = .ok (.ireturn, 1) := by decide +kernel
theorem dX7_otherwise_58 : decode cX7_otherwise 58 = .ok (.iinc 3 1, 3) := by decide +kernel
theorem dX7_otherwise_61 : decode cX7_otherwise 61 = .ok (.goto (-55), 3) := by decide +kernel
theorem dX7_otherwise_64 : decode cX7_otherwise 64 = .ok (.iconst (-1), 1) := by decide +kernel
theorem dX7_otherwise_65 : decode cX7_otherwise 65 = .ok (.ireturn, 1) := by decide +kernel
theorem dX7_tells_0 : decode cX7_tells 0 = .ok (.iload_n 1, 1) := by decide +kernel
theorem dX7_tells_1 : decode cX7_tells 1 = .ok (.invokestatic 292, 3) := by decide +kernel
theorem dX7_tells_4 : decode cX7_tells 4 = .ok (.ifCond .eq 21, 3) := by decide +kernel
theorem dX7_tells_7 : decode cX7_tells 7 = .ok (.aload_n 0, 1) := by decide +kernel
theorem dX7_tells_8 : decode cX7_tells 8 = .ok (.iload_n 2, 1) := by decide +kernel
theorem dX7_tells_9 : decode cX7_tells 9 = .ok (.invokevirtual 177, 3) := by decide +kernel
theorem dX7_tells_12 : decode cX7_tells 12 = .ok (.ifCond .eq 13, 3) := by decide +kernel
theorem dX7_tells_15 : decode cX7_tells 15 = .ok (.iload_n 3, 1) := by decide +kernel
theorem dX7_tells_16 : decode cX7_tells 16 = .ok (.i2l, 1) := by decide +kernel
theorem dX7_tells_17 : decode cX7_tells 17 = .ok (.lconst 0, 1) := by decide +kernel
theorem dX7_tells_18 : decode cX7_tells 18 = .ok (.lconst 1, 1) := by decide +kernel
theorem dX7_tells_19 : decode cX7_tells 19 = .ok (.invokestatic 133, 3) := by decide +kernel
theorem dX7_tells_22 : decode cX7_tells 22 = .ok (.ifCond .ne 6, 3) := by decide +kernel
theorem dX7_tells_25 : decode cX7_tells 25 = .ok (.bipush (-2), 2) := by decide +kernel
theorem dX7_tells_27 : decode cX7_tells 27 = .ok (.ireturn, 1) := by decide +kernel
theorem dX7_tells_28 : decode cX7_tells 28 = .ok (.aload_n 0, 1) := by decide +kernel
theorem dX7_tells_29 : decode cX7_tells 29 = .ok (.getfield 117, 3) := by decide +kernel
theorem dX7_tells_32 : decode cX7_tells 32 = .ok (.iload_n 1, 1) := by decide +kernel
theorem dX7_tells_33 : decode cX7_tells 33 = .ok (.iaload, 1) := by decide +kernel
theorem dX7_tells_34 : decode cX7_tells 34 = .ok (.iconst (-1), 1) := by decide +kernel
theorem dX7_tells_35 : decode cX7_tells 35 = .ok (.if_icmp .ne 6, 3) := by decide +kernel
theorem dX7_tells_38 : decode cX7_tells 38 = .ok (.bipush (-11), 2) := by decide +kernel
theorem dX7_tells_40 : decode cX7_tells 40 = .ok (.ireturn, 1) := by decide +kernel
theorem dX7_tells_41 : decode cX7_tells 41 = .ok (.aload_n 0, 1) := by decide +kernel
theorem dX7_tells_42 : decode cX7_tells 42 = .ok (.getfield 120, 3) := by decide +kernel
theorem dX7_tells_45 : decode cX7_tells 45 = .ok (.iload_n 1, 1) := by decide +kernel
theorem dX7_tells_46 : decode cX7_tells 46 = .ok (.iaload, 1) := by decide +kernel
theorem dX7_tells_47 : decode cX7_tells 47 = .ok (.bipush 10, 2) := by decide +kernel
theorem dX7_tells_49 : decode cX7_tells 49 = .ok (.if_icmp .le 6, 3) := by decide +kernel
theorem dX7_tells_52 : decode cX7_tells 52 = .ok (.bipush (-2), 2) := by decide +kernel
theorem dX7_tells_54 : decode cX7_tells 54 = .ok (.ireturn, 1) := by decide +kernel
theorem dX7_tells_55 : decode cX7_tells 55 = .ok (.iload_n 3, 1) := by decide +kernel
theorem dX7_tells_56 : decode cX7_tells 56 = .ok (.ifCond .ne 10, 3) := by decide +kernel
theorem dX7_tells_59 : decode cX7_tells 59 = .ok (.aload_n 0, 1) := by decide +kernel
theorem dX7_tells_60 : decode cX7_tells 60 = .ok (.iload_n 1, 1) := by decide +kernel
theorem dX7_tells_61 : decode cX7_tells 61 = .ok (.iload_n 2, 1) := by decide +kernel
theorem dX7_tells_62 : decode cX7_tells 62 = .ok (.invokevirtual 298, 3) := by decide +kernel
theorem dX7_tells_65 : decode cX7_tells 65 = .ok (.ireturn, 1) := by decide +kernel
theorem dX7_tells_66 : decode cX7_tells 66 = .ok (.aload_n 0, 1) := by decide +kernel
theorem dX7_tells_67 : decode cX7_tells 67 = .ok (.getfield 11, 3) := by decide +kernel
theorem dX7_tells_70 : decode cX7_tells 70 = .ok (.iload_n 2, 1) := by decide +kernel
theorem dX7_tells_71 : decode cX7_tells 71 = .ok (.iaload, 1) := by decide +kernel
theorem dX7_tells_72 : decode cX7_tells 72 = .ok (.istore 4, 2) := by decide +kernel
theorem dX7_tells_74 : decode cX7_tells 74 = .ok (.iconst 0, 1) := by decide +kernel
theorem dX7_tells_75 : decode cX7_tells 75 = .ok (.istore 5, 2) := by decide +kernel
theorem dX7_tells_77 : decode cX7_tells 77 = .ok (.iconst 0, 1) := by decide +kernel
theorem dX7_tells_78 : decode cX7_tells 78 = .ok (.istore 6, 2) := by decide +kernel
theorem dX7_tells_80 : decode cX7_tells 80 = .ok (.iload 6, 2) := by decide +kernel
theorem dX7_tells_82 : decode cX7_tells 82 = .ok (.bipush 6, 2) := by decide +kernel
theorem dX7_tells_84 : decode cX7_tells 84 = .ok (.if_icmp .ge 40, 3) := by decide +kernel
theorem dX7_tells_87 : decode cX7_tells 87 = .ok (.aload_n 0, 1) := by decide +kernel
theorem dX7_tells_88 : decode cX7_tells 88 = .ok (.getfield 11, 3) := by decide +kernel
theorem dX7_tells_91 : decode cX7_tells 91 = .ok (.iload_n 2, 1) := by decide +kernel
theorem dX7_tells_92 : decode cX7_tells 92 = .ok (.iload 6, 2) := by decide +kernel
theorem dX7_tells_94 : decode cX7_tells 94 = .ok (.iastore, 1) := by decide +kernel
theorem dX7_tells_95 : decode cX7_tells 95 = .ok (.iload 5, 2) := by decide +kernel
theorem dX7_tells_97 : decode cX7_tells 97 = .ok (.aload_n 0, 1) := by decide +kernel
theorem dX7_tells_98 : decode cX7_tells 98 = .ok (.iload_n 1, 1) := by decide +kernel
theorem dX7_tells_99 : decode cX7_tells 99 = .ok (.iload_n 2, 1) := by decide +kernel
theorem dX7_tells_100 : decode cX7_tells 100 = .ok (.invokevirtual 298, 3) := by decide +kernel
theorem dX7_tells_103 : decode cX7_tells 103 = .ok (.iconst (-1), 1) := by decide +kernel
theorem dX7_tells_104 : decode cX7_tells 104 = .ok (.if_icmp .ne 10, 3) := by decide +kernel
theorem dX7_tells_107 : decode cX7_tells 107 = .ok (.iconst 1, 1) := by decide +kernel
theorem dX7_tells_108 : decode cX7_tells 108 = .ok (.iload 6, 2) := by decide +kernel
theorem dX7_tells_110 : decode cX7_tells 110 = .ok (.ishl, 1) := by decide +kernel
theorem dX7_tells_111 : decode cX7_tells 111 = .ok (.goto 4, 3) := by decide +kernel
theorem dX7_tells_114 : decode cX7_tells 114 = .ok (.iconst 0, 1) := by decide +kernel
theorem dX7_tells_115 : decode cX7_tells 115 = .ok (.ior, 1) := by decide +kernel
theorem dX7_tells_116 : decode cX7_tells 116 = .ok (.istore 5, 2) := by decide +kernel
theorem dX7_tells_118 : decode cX7_tells 118 = .ok (.iinc 6 1, 3) := by decide +kernel
theorem dX7_tells_121 : decode cX7_tells 121 = .ok (.goto (-41), 3) := by decide +kernel
theorem dX7_tells_124 : decode cX7_tells 124 = .ok (.aload_n 0, 1) := by decide +kernel
theorem dX7_tells_125 : decode cX7_tells 125 = .ok (.getfield 11, 3) := by decide +kernel
theorem dX7_tells_128 : decode cX7_tells 128 = .ok (.iload_n 2, 1) := by decide +kernel
theorem dX7_tells_129 : decode cX7_tells 129 = .ok (.iload 4, 2) := by decide +kernel
theorem dX7_tells_131 : decode cX7_tells 131 = .ok (.iastore, 1) := by decide +kernel
theorem dX7_tells_132 : decode cX7_tells 132 = .ok (.iload 5, 2) := by decide +kernel
theorem dX7_tells_134 : decode cX7_tells 134 = .ok (.ireturn, 1) := by decide +kernel
