theorem dX6_steady_0 : decode cX6_steady 0 = .ok (.aload_n 0, 1) := by decide +kernel
theorem dX6_steady_1 : decode cX6_steady 1 = .ok (.getfield 12, 3) := by decide +kernel
theorem dX6_steady_4 : decode cX6_steady 4 = .ok (.iload_n 1, 1) := by decide +kernel
theorem dX6_steady_5 : decode cX6_steady 5 = .ok (.invokevirtual 77, 3) := by decide +kernel
theorem dX6_steady_8 : decode cX6_steady 8 = .ok (.ifCond .eq 20, 3) := by decide +kernel
theorem dX6_steady_11 : decode cX6_steady 11 = .ok (.iload_n 2, 1) := by decide +kernel
theorem dX6_steady_12 : decode cX6_steady 12 = .ok (.invokestatic 134, 3) := by decide +kernel
theorem dX6_steady_15 : decode cX6_steady 15 = .ok (.ifCond .eq 13, 3) := by decide +kernel
theorem dX6_steady_18 : decode cX6_steady 18 = .ok (.aload_n 0, 1) := by decide +kernel
theorem dX6_steady_19 : decode cX6_steady 19 = .ok (.getfield 12, 3) := by decide +kernel
theorem dX6_steady_22 : decode cX6_steady 22 = .ok (.invokevirtual 239, 3) := by decide +kernel
theorem dX6_steady_25 : decode cX6_steady 25 = .ok (.ifCond .ne 7, 3) := by decide +kernel
theorem dX6_steady_28 : decode cX6_steady 28 = .ok (.ldc2_w 150, 3) := by decide +kernel
theorem dX6_steady_31 : decode cX6_steady 31 = .ok (.lreturn, 1) := by decide +kernel
theorem dX6_steady_32 : decode cX6_steady 32 = .ok (.aload_n 0, 1) := by decide +kernel
theorem dX6_steady_33 : decode cX6_steady 33 = .ok (.getfield 27, 3) := by decide +kernel
theorem dX6_steady_36 : decode cX6_steady 36 = .ok (.aload_n 0, 1) := by decide +kernel
theorem dX6_steady_37 : decode cX6_steady 37 = .ok (.getfield 12, 3) := by decide +kernel
theorem dX6_steady_40 : decode cX6_steady 40 = .ok (.invokevirtual 243, 3) := by decide +kernel
theorem dX6_steady_43 : decode cX6_steady 43 = .ok (.aload_n 0, 1) := by decide +kernel
theorem dX6_steady_44 : decode cX6_steady 44 = .ok (.getfield 27, 3) := by decide +kernel
theorem dX6_steady_47 : decode cX6_steady 47 = .ok (.getfield 246, 3) := by decide +kernel
theorem dX6_steady_50 : decode cX6_steady 50 = .ok (.iload_n 1, 1) := by decide +kernel
theorem dX6_steady_51 : decode cX6_steady 51 = .ok (.laload, 1) := by decide +kernel
theorem dX6_steady_52 : decode cX6_steady 52 = .ok (.aload_n 0, 1) := by decide +kernel
theorem dX6_steady_53 : decode cX6_steady 53 = .ok (.getfield 27, 3) := by decide +kernel
theorem dX6_steady_56 : decode cX6_steady 56 = .ok (.getfield 247, 3) := by decide +kernel
theorem dX6_steady_59 : decode cX6_steady 59 = .ok (.iload_n 2, 1) := by decide +kernel
theorem dX6_steady_60 : decode cX6_steady 60 = .ok (.invokestatic 160, 3) := by decide +kernel
theorem dX6_steady_63 : decode cX6_steady 63 = .ok (.lreturn, 1) := by decide +kernel
theorem dX6_steadyFlow_0 : decode cX6_steadyFlow 0 = .ok (.aload_n 0, 1) := by decide +kernel
theorem dX6_steadyFlow_1 : decode cX6_steadyFlow 1 = .ok (.getfield 12, 3) := by decide +kernel
theorem dX6_steadyFlow_4 : decode cX6_steadyFlow 4 = .ok (.iload_n 1, 1) := by decide +kernel
theorem dX6_steadyFlow_5 : decode cX6_steadyFlow 5 = .ok (.invokevirtual 167, 3) := by decide +kernel
theorem dX6_steadyFlow_8 : decode cX6_steadyFlow 8 = .ok (.ifCond .eq 20, 3) := by decide +kernel
theorem dX6_steadyFlow_11 : decode cX6_steadyFlow 11 = .ok (.iload_n 2, 1) := by decide +kernel
theorem dX6_steadyFlow_12 : decode cX6_steadyFlow 12 = .ok (.invokestatic 134, 3) := by decide +kernel
theorem dX6_steadyFlow_15 : decode cX6_steadyFlow 15 = .ok (.ifCond .eq 13, 3) := by decide +kernel
theorem dX6_steadyFlow_18 : decode cX6_steadyFlow 18 = .ok (.aload_n 0, 1) := by decide +kernel
theorem dX6_steadyFlow_19 : decode cX6_steadyFlow 19 = .ok (.getfield 12, 3) := by decide +kernel
theorem dX6_steadyFlow_22 : decode cX6_steadyFlow 22 = .ok (.invokevirtual 239, 3) := by decide +kernel
theorem dX6_steadyFlow_25 : decode cX6_steadyFlow 25 = .ok (.ifCond .ne 7, 3) := by decide +kernel
theorem dX6_steadyFlow_28 : decode cX6_steadyFlow 28 = .ok (.ldc2_w 150, 3) := by decide +kernel
theorem dX6_steadyFlow_31 : decode cX6_steadyFlow 31 = .ok (.lreturn, 1) := by decide +kernel
theorem dX6_steadyFlow_32 : decode cX6_steadyFlow 32 = .ok (.aload_n 0, 1) := by decide +kernel
theorem dX6_steadyFlow_33 : decode cX6_steadyFlow 33 = .ok (.getfield 27, 3) := by decide +kernel
theorem dX6_steadyFlow_36 : decode cX6_steadyFlow 36 = .ok (.aload_n 0, 1) := by decide +kernel
theorem dX6_steadyFlow_37 : decode cX6_steadyFlow 37 = .ok (.getfield 12, 3) := by decide +kernel
theorem dX6_steadyFlow_40 : decode cX6_steadyFlow 40 = .ok (.invokevirtual 243, 3) := by decide +kernel
theorem dX6_steadyFlow_43 : decode cX6_steadyFlow 43 = .ok (.aload_n 0, 1) := by decide +kernel
theorem dX6_steadyFlow_44 : decode cX6_steadyFlow 44 = .ok (.getfield 12, 3) := by decide +kernel
theorem dX6_steadyFlow_47 : decode cX6_steadyFlow 47 = .ok (.iload_n 1, 1) := by decide +kernel
theorem dX6_steadyFlow_48 : decode cX6_steadyFlow 48 = .ok (.aload_n 0, 1) := by decide +kernel
theorem dX6_steadyFlow_49 : decode cX6_steadyFlow 49 = .ok (.getfield 27, 3) := by decide +kernel
theorem dX6_steadyFlow_52 : decode cX6_steadyFlow 52 = .ok (.getfield 246, 3) := by decide +kernel
theorem dX6_steadyFlow_55 : decode cX6_steadyFlow 55 = .ok (.aload_n 0, 1) := by decide +kernel
theorem dX6_steadyFlow_56 : decode cX6_steadyFlow 56 = .ok (.getfield 27, 3) := by decide +kernel
theorem dX6_steadyFlow_59 : decode cX6_steadyFlow 59 = .ok (.getfield 247, 3) := by decide +kernel
theorem dX6_steadyFlow_62 : decode cX6_steadyFlow 62 = .ok (.invokevirtual 170, 3) := by decide +kernel
theorem dX6_steadyFlow_65 : decode cX6_steadyFlow 65 = .ok (.aload_n 0, 1) := by decide +kernel
theorem dX6_steadyFlow_66 : decode cX6_steadyFlow 66 = .ok (.getfield 27, 3) := by decide +kernel
theorem dX6_steadyFlow_69 : decode cX6_steadyFlow 69 = .ok (.getfield 247, 3) := by decide +kernel
theorem dX6_steadyFlow_72 : decode cX6_steadyFlow 72 = .ok (.iload_n 2, 1) := by decide +kernel
theorem dX6_steadyFlow_73 : decode cX6_steadyFlow 73 = .ok (.invokestatic 160, 3) := by decide +kernel
theorem dX6_steadyFlow_76 : decode cX6_steadyFlow 76 = .ok (.lreturn, 1) := by decide +kernel
theorem dX6_hottest_0 : decode cX6_hottest 0 = .ok (.aload_n 0, 1) := by decide +kernel
theorem dX6_hottest_1 : decode cX6_hottest 1 = .ok (.getfield 12, 3) := by decide +kernel
theorem dX6_hottest_4 : decode cX6_hottest 4 = .ok (.invokevirtual 239, 3) := by decide +kernel
theorem dX6_hottest_7 : decode cX6_hottest 7 = .ok (.ifCond .ne 5, 3) := by decide +kernel
theorem dX6_hottest_10 : decode cX6_hottest 10 = .ok (.iconst (-1), 1) := by decide +kernel
theorem dX6_hottest_11 : decode cX6_hottest 11 = .ok (.ireturn, 1) := by decide +kernel
theorem dX6_hottest_12 : decode cX6_hottest 12 = .ok (.aload_n 0, 1) := by decide +kernel
theorem dX6_hottest_13 : decode cX6_hottest 13 = .ok (.getfield 27, 3) := by decide +kernel
theorem dX6_hottest_16 : decode cX6_hottest 16 = .ok (.aload_n 0, 1) := by decide +kernel
theorem dX6_hottest_17 : decode cX6_hottest 17 = .ok (.getfield 12, 3) := by decide +kernel
theorem dX6_hottest_20 : decode cX6_hottest 20 = .ok (.invokevirtual 243, 3) := by decide +kernel
theorem dX6_hottest_23 : decode cX6_hottest 23 = .ok (.aload_n 0, 1) := by decide +kernel
theorem dX6_hottest_24 : decode cX6_hottest 24 = .ok (.getfield 27, 3) := by decide +kernel
theorem dX6_hottest_27 : decode cX6_hottest 27 = .ok (.getfield 246, 3) := by decide +kernel
theorem dX6_hottest_30 : decode cX6_hottest 30 = .ok (.aload_n 0, 1) := by decide +kernel
theorem dX6_hottest_31 : decode cX6_hottest 31 = .ok (.getfield 12, 3) := by decide +kernel
theorem dX6_hottest_34 : decode cX6_hottest 34 = .ok (.getfield 70, 3) := by decide +kernel
theorem dX6_hottest_37 : decode cX6_hottest 37 = .ok (.invokestatic 248, 3) := by decide +kernel
theorem dX6_hottest_40 : decode cX6_hottest 40 = .ok (.ireturn, 1) := by decide +kernel
theorem dX6_lay_0 : decode cX6_lay 0 = .ok (.aload_n 0, 1) := by decide +kernel
theorem dX6_lay_1 : decode cX6_lay 1 = .ok (.getfield 12, 3) := by decide +kernel
theorem dX6_lay_4 : decode cX6_lay 4 = .ok (.invokevirtual 239, 3) := by decide +kernel
theorem dX6_lay_7 : decode cX6_lay 7 = .ok (.ifCond .ne 6, 3) := by decide +kernel
theorem dX6_lay_10 : decode cX6_lay 10 = .ok (.bipush (-3), 2) := by decide +kernel
theorem dX6_lay_12 : decode cX6_lay 12 = .ok (.ireturn, 1) := by decide +kernel
theorem dX6_lay_13 : decode cX6_lay 13 = .ok (.aload_n 0, 1) := by decide +kernel
theorem dX6_lay_14 : decode cX6_lay 14 = .ok (.getfield 27, 3) := by decide +kernel
theorem dX6_lay_17 : decode cX6_lay 17 = .ok (.aload_n 0, 1) := by decide +kernel
theorem dX6_lay_18 : decode cX6_lay 18 = .ok (.getfield 12, 3) := by decide +kernel
theorem dX6_lay_21 : decode cX6_lay 21 = .ok (.invokevirtual 243, 3) := by decide +kernel
theorem dX6_lay_24 : decode cX6_lay 24 = .ok (.aload_n 0, 1) := by decide +kernel
theorem dX6_lay_25 : decode cX6_lay 25 = .ok (.getfield 12, 3) := by decide +kernel
theorem dX6_lay_28 : decode cX6_lay 28 = .ok (.aload_n 0, 1) := by decide +kernel
theorem dX6_lay_29 : decode cX6_lay 29 = .ok (.getfield 27, 3) := by decide +kernel
theorem dX6_lay_32 : decode cX6_lay 32 = .ok (.getfield 246, 3) := by decide +kernel
theorem dX6_lay_35 : decode cX6_lay 35 = .ok (.aload_n 0, 1) := by decide +kernel
theorem dX6_lay_36 : decode cX6_lay 36 = .ok (.getfield 27, 3) := by decide +kernel
theorem dX6_lay_39 : decode cX6_lay 39 = .ok (.getfield 247, 3) := by decide +kernel
theorem dX6_lay_42 : decode cX6_lay 42 = .ok (.invokevirtual 252, 3) := by decide +kernel
theorem dX6_lay_45 : decode cX6_lay 45 = .ok (.bipush (-2), 2) := by decide +kernel
theorem dX6_lay_47 : decode cX6_lay 47 = .ok (.if_icmp .ne 7, 3) := by decide +kernel
theorem dX6_lay_50 : decode cX6_lay 50 = .ok (.iconst 1, 1) := by decide +kernel
theorem dX6_lay_51 : decode cX6_lay 51 = .ok (.goto 5, 3) := by decide +kernel
theorem dX6_lay_54 : decode cX6_lay 54 = .ok (.bipush (-4), 2) := by decide +kernel
theorem dX6_lay_56 : decode cX6_lay 56 = .ok (.ireturn, 1) := by decide +kernel
theorem dX6_isSteady_0 : decode cX6_isSteady 0 = .ok (.iconst 0, 1) := by decide +kernel
theorem dX6_isSteady_1 : decode cX6_isSteady 1 = .ok (.istore_n 1, 1) := by decide +kernel
theorem dX6_isSteady_2 : decode cX6_isSteady 2 = .ok (.iload_n 1, 1) := by decide +kernel
theorem dX6_isSteady_3 : decode cX6_isSteady 3 = .ok (.aload_n 0, 1) := by decide +kernel
theorem dX6_isSteady_4 : decode cX6_isSteady 4 = .ok (.getfield 12, 3) := by decide +kernel
theorem dX6_isSteady_7 : decode cX6_isSteady 7 = .ok (.getfield 70, 3) := by decide +kernel
theorem dX6_isSteady_10 : decode cX6_isSteady 10 = .ok (.if_icmp .ge 24, 3) := by decide +kernel
theorem dX6_isSteady_13 : decode cX6_isSteady 13 = .ok (.aload_n 0, 1) := by decide +kernel
theorem dX6_isSteady_14 : decode cX6_isSteady 14 = .ok (.getfield 12, 3) := by decide +kernel
theorem dX6_isSteady_17 : decode cX6_isSteady 17 = .ok (.iload_n 1, 1) := by decide +kernel
theorem dX6_isSteady_18 : decode cX6_isSteady 18 = .ok (.invokevirtual 256, 3) := by decide +kernel
theorem dX6_isSteady_21 : decode cX6_isSteady 21 = .ok (.lconst 0, 1) := by decide +kernel
theorem dX6_isSteady_22 : decode cX6_isSteady 22 = .ok (.lcmp, 1) := by decide +kernel
theorem dX6_isSteady_23 : decode cX6_isSteady 23 = .ok (.ifCond .eq 5, 3) := by decide +kernel
theorem dX6_isSteady_26 : decode cX6_isSteady 26 = .ok (.iconst 0, 1) := by decide +kernel
theorem dX6_isSteady_27 : decode cX6_isSteady 27 = .ok (.ireturn, 1) := by decide +kernel
theorem dX6_isSteady_28 : decode cX6_isSteady 28 = .ok (.iinc 1 1, 3) := by decide +kernel
theorem dX6_isSteady_31 : decode cX6_isSteady 31 = .ok (.goto (-29), 3) := by decide +kernel
theorem dX6_isSteady_34 : decode cX6_isSteady 34 = .ok (.iconst 1, 1) := by decide +kernel
theorem dX6_isSteady_35 : decode cX6_isSteady 35 = .ok (.ireturn, 1) := by decide +kernel
theorem dX6_buried_0 : decode cX6_buried 0 = .ok (.iload_n 1, 1) := by decide +kernel
theorem dX6_buried_1 : decode cX6_buried 1 = .ok (.invokestatic 260, 3) := by decide +kernel
theorem dX6_buried_4 : decode cX6_buried 4 = .ok (.ifCond .eq 10, 3) := by decide +kernel
theorem dX6_buried_7 : decode cX6_buried 7 = .ok (.iload_n 2, 1) := by decide +kernel
theorem dX6_buried_8 : decode cX6_buried 8 = .ok (.invokestatic 134, 3) := by decide +kernel
theorem dX6_buried_11 : decode cX6_buried 11 = .ok (.ifCond .ne 6, 3) := by decide +kernel
theorem dX6_buried_14 : decode cX6_buried 14 = .ok (.bipush (-2), 2) := by decide +kernel
theorem dX6_buried_16 : decode cX6_buried 16 = .ok (.ireturn, 1) := by decide +kernel
theorem dX6_buried_17 : decode cX6_buried 17 = .ok (.aload_n 0, 1) := by decide +kernel
theorem dX6_buried_18 : decode cX6_buried 18 = .ok (.getfield 34, 3) := by decide +kernel
theorem dX6_buried_21 : decode cX6_buried 21 = .ok (.iload_n 1, 1) := by decide +kernel
theorem dX6_buried_22 : decode cX6_buried 22 = .ok (.invokevirtual 263, 3) := by decide +kernel
theorem dX6_buried_25 : decode cX6_buried 25 = .ok (.ifCond .eq 6, 3) := by decide +kernel
theorem dX6_buried_28 : decode cX6_buried 28 = .ok (.bipush (-11), 2) := by decide +kernel
theorem dX6_buried_30 : decode cX6_buried 30 = .ok (.ireturn, 1) := by decide +kernel
theorem dX6_buried_31 : decode cX6_buried 31 = .ok (.aload_n 0, 1) := by decide +kernel
theorem dX6_buried_32 : decode cX6_buried 32 = .ok (.getfield 34, 3) := by decide +kernel
theorem dX6_buried_35 : decode cX6_buried 35 = .ok (.getfield 266, 3) := by decide +kernel
theorem dX6_buried_38 : decode cX6_buried 38 = .ok (.iload_n 1, 1) := by decide +kernel
theorem dX6_buried_39 : decode cX6_buried 39 = .ok (.iaload, 1) := by decide +kernel
theorem dX6_buried_40 : decode cX6_buried 40 = .ok (.aload_n 0, 1) := by decide +kernel
theorem dX6_buried_41 : decode cX6_buried 41 = .ok (.getfield 12, 3) := by decide +kernel
theorem dX6_buried_44 : decode cX6_buried 44 = .ok (.getfield 70, 3) := by decide +kernel
theorem dX6_buried_47 : decode cX6_buried 47 = .ok (.if_icmp .le 6, 3) := by decide +kernel
theorem dX6_buried_50 : decode cX6_buried 50 = .ok (.bipush (-2), 2) := by decide +kernel
theorem dX6_buried_52 : decode cX6_buried 52 = .ok (.ireturn, 1) := by decide +kernel
theorem dX6_buried_53 : decode cX6_buried 53 = .ok (.aload_n 0, 1) := by decide +kernel
theorem dX6_buried_54 : decode cX6_buried 54 = .ok (.getfield 12, 3) := by decide +kernel
theorem dX6_buried_57 : decode cX6_buried 57 = .ok (.getfield 70, 3) := by decide +kernel
theorem dX6_buried_60 : decode cX6_buried 60 = .ok (.ifCond .le 16, 3) := by decide +kernel
theorem dX6_buried_63 : decode cX6_buried 63 = .ok (.aload_n 0, 1) := by decide +kernel
theorem dX6_buried_64 : decode cX6_buried 64 = .ok (.getfield 12, 3) := by decide +kernel
theorem dX6_buried_67 : decode cX6_buried 67 = .ok (.invokevirtual 239, 3) := by decide +kernel
theorem dX6_buried_70 : decode cX6_buried 70 = .ok (.ifCond .ne 6, 3) := by decide +kernel
theorem dX6_buried_73 : decode cX6_buried 73 = .ok (.bipush (-3), 2) := by decide +kernel
theorem dX6_buried_75 : decode cX6_buried 75 = .ok (.ireturn, 1) := by decide +kernel
theorem dX6_buried_76 : decode cX6_buried 76 = .ok (.iload_n 2, 1) := by decide +kernel
theorem dX6_buried_77 : decode cX6_buried 77 = .ok (.ifCond .ne 11, 3) := by decide +kernel
theorem dX6_buried_80 : decode cX6_buried 80 = .ok (.aload_n 0, 1) := by decide +kernel
theorem dX6_buried_81 : decode cX6_buried 81 = .ok (.iload_n 1, 1) := by decide +kernel
theorem dX6_buried_82 : decode cX6_buried 82 = .ok (.invokevirtual 268, 3) := by decide +kernel
theorem dX6_buried_85 : decode cX6_buried 85 = .ok (.goto 8, 3) := by decide +kernel
theorem dX6_buried_88 : decode cX6_buried 88 = .ok (.aload_n 0, 1) := by decide +kernel
theorem dX6_buried_89 : decode cX6_buried 89 = .ok (.iload_n 1, 1) := by decide +kernel
theorem dX6_buried_90 : decode cX6_buried 90 = .ok (.invokevirtual 271, 3) := by decide +kernel
theorem dX6_buried_93 : decode cX6_buried 93 = .ok (.ireturn, 1) := by decide +kernel
theorem dX6_firstBuried_0 : decode cX6_firstBuried 0 = .ok (.aload_n 0, 1) := by decide +kernel
theorem dX6_firstBuried_1 : decode cX6_firstBuried 1 = .ok (.getfield 18, 3) := by decide +kernel
theorem dX6_firstBuried_4 : decode cX6_firstBuried 4 = .ok (.aload_n 0, 1) := by decide +kernel
theorem dX6_firstBuried_5 : decode cX6_firstBuried 5 = .ok (.getfield 12, 3) := by decide +kernel
theorem dX6_firstBuried_8 : decode cX6_firstBuried 8 = .ok (.invokevirtual 197, 3) := by decide +kernel
theorem dX6_firstBuried_11 : decode cX6_firstBuried 11 = .ok (.iconst 0, 1) := by decide +kernel
theorem dX6_firstBuried_12 : decode cX6_firstBuried 12 = .ok (.istore_n 2, 1) := by decide +kernel
theorem dX6_firstBuried_13 : decode cX6_firstBuried 13 = .ok (.iload_n 2, 1) := by decide +kernel
theorem dX6_firstBuried_14 : decode cX6_firstBuried 14 = .ok (.aload_n 0, 1) := by decide +kernel
theorem dX6_firstBuried_15 : decode cX6_firstBuried 15 = .ok (.getfield 12, 3) := by decide +kernel
theorem dX6_firstBuried_18 : decode cX6_firstBuried 18 = .ok (.getfield 70, 3) := by decide +kernel
theorem dX6_firstBuried_21 : decode cX6_firstBuried 21 = .ok (.if_icmp .ge 62, 3) := by decide +kernel
theorem dX6_firstBuried_24 : decode cX6_firstBuried 24 = .ok (.bipush (-9), 2) := by decide +kernel
theorem dX6_firstBuried_26 : decode cX6_firstBuried 26 = .ok (.istore_n 3, 1) := by decide +kernel
theorem dX6_firstBuried_27 : decode cX6_firstBuried 27 = .ok (.iload_n 3, 1) := by decide +kernel
theorem dX6_firstBuried_28 : decode cX6_firstBuried 28 = .ok (.bipush 9, 2) := by decide +kernel
theorem dX6_firstBuried_30 : decode cX6_firstBuried 30 = .ok (.if_icmp .gt 29, 3) := by decide +kernel
theorem dX6_firstBuried_33 : decode cX6_firstBuried 33 = .ok (.aload_n 0, 1) := by decide +kernel
theorem dX6_firstBuried_34 : decode cX6_firstBuried 34 = .ok (.iload_n 1, 1) := by decide +kernel
theorem dX6_firstBuried_35 : decode cX6_firstBuried 35 = .ok (.iload_n 2, 1) := by decide +kernel
theorem dX6_firstBuried_36 : decode cX6_firstBuried 36 = .ok (.iload_n 3, 1) := by decide +kernel
theorem dX6_firstBuried_37 : decode cX6_firstBuried 37 = .ok (.invokevirtual 274, 3) := by decide +kernel
theorem dX6_firstBuried_40 : decode cX6_firstBuried 40 = .ok (.ifCond .eq 13, 3) := by decide +kernel
theorem dX6_firstBuried_43 : decode cX6_firstBuried 43 = .ok (.bipush 100, 2) := by decide +kernel
theorem dX6_firstBuried_45 : decode cX6_firstBuried 45 = .ok (.iload_n 2, 1) := by decide +kernel
theorem dX6_firstBuried_46 : decode cX6_firstBuried 46 = .ok (.imul, 1) := by decide +kernel
theorem dX6_firstBuried_47 : decode cX6_firstBuried 47 = .ok (.iload_n 3, 1) := by decide +kernel
theorem dX6_firstBuried_48 : decode cX6_firstBuried 48 = .ok (.iadd, 1) := by decide +kernel
theorem dX6_firstBuried_49 : decode cX6_firstBuried 49 = .ok (.bipush 9, 2) := by decide +kernel
theorem dX6_firstBuried_51 : decode cX6_firstBuried 51 = .ok (.iadd, 1) := by decide +kernel
theorem dX6_firstBuried_52 : decode cX6_firstBuried 52 = .ok (.ireturn, 1) := by decide +kernel
theorem dX6_firstBuried_53 : decode cX6_firstBuried 53 = .ok (.iinc 3 1, 3) := by decide +kernel
theorem dX6_firstBuried_56 : decode cX6_firstBuried 56 = .ok (.goto (-29), 3) := by decide +kernel
theorem dX6_firstBuried_59 : decode cX6_firstBuried 59 = .ok (.aload_n 0, 1) := by decide +kernel
theorem dX6_firstBuried_60 : decode cX6_firstBuried 60 = .ok (.getfield 18, 3) := by decide +kernel
theorem dX6_firstBuried_63 : decode cX6_firstBuried 63 = .ok (.getfield 109, 3) := by decide +kernel
theorem dX6_firstBuried_66 : decode cX6_firstBuried 66 = .ok (.iload_n 2, 1) := by decide +kernel
theorem dX6_firstBuried_67 : decode cX6_firstBuried 67 = .ok (.aload_n 0, 1) := by decide +kernel
theorem dX6_firstBuried_68 : decode cX6_firstBuried 68 = .ok (.getfield 12, 3) := by decide +kernel
theorem dX6_firstBuried_71 : decode cX6_firstBuried 71 = .ok (.getfield 109, 3) := by decide +kernel
theorem dX6_firstBuried_74 : decode cX6_firstBuried 74 = .ok (.iload_n 2, 1) := by decide +kernel
theorem dX6_firstBuried_75 : decode cX6_firstBuried 75 = .ok (.iaload, 1) := by decide +kernel
theorem dX6_firstBuried_76 : decode cX6_firstBuried 76 = .ok (.iastore, 1) := by decide +kernel
theorem dX6_firstBuried_77 : decode cX6_firstBuried 77 = .ok (.iinc 2 1, 3) := by decide +kernel
theorem dX6_firstBuried_80 : decode cX6_firstBuried 80 = .ok (.goto (-67), 3) := by decide +kernel
theorem dX6_firstBuried_83 : decode cX6_firstBuried 83 = .ok (.iconst (-1), 1) := by decide +kernel
theorem dX6_firstBuried_84 : decode cX6_firstBuried 84 = .ok (.ireturn, 1) := by decide +kernel
theorem dX6_howManyBuried_0 : decode cX6_howManyBuried 0 = .ok (.aload_n 0, 1) := by decide +kernel
theorem dX6_howManyBuried_1 : decode cX6_howManyBuried 1 = .ok (.getfield 18, 3) := by decide +kernel
theorem dX6_howManyBuried_4 : decode cX6_howManyBuried 4 = .ok (.aload_n 0, 1) := by decide +kernel
theorem dX6_howManyBuried_5 : decode cX6_howManyBuried 5 = .ok (.getfield 12, 3) := by decide +kernel
theorem dX6_howManyBuried_8 : decode cX6_howManyBuried 8 = .ok (.invokevirtual 197, 3) := by decide +kernel
theorem dX6_howManyBuried_11 : decode cX6_howManyBuried 11 = .ok (.iconst 0, 1) := by decide +kernel
theorem dX6_howManyBuried_12 : decode cX6_howManyBuried 12 = .ok (.istore_n 2, 1) := by decide +kernel
theorem dX6_howManyBuried_13 : decode cX6_howManyBuried 13 = .ok (.iconst 0, 1) := by decide +kernel
theorem dX6_howManyBuried_14 : decode cX6_howManyBuried 14 = .ok (.istore_n 3, 1) := by decide +kernel
theorem dX6_howManyBuried_15 : decode cX6_howManyBuried 15 = .ok (.iload_n 3, 1) := by decide +kernel
theorem dX6_howManyBuried_16 : decode cX6_howManyBuried 16 = .ok (.aload_n 0, 1) := by decide +kernel
theorem dX6_howManyBuried_17 : decode cX6_howManyBuried 17 = .ok (.getfield 12, 3) := by decide +kernel
theorem dX6_howManyBuried_20 : decode cX6_howManyBuried 20 = .ok (.getfield 70, 3) := by decide +kernel
theorem dX6_howManyBuried_23 : decode cX6_howManyBuried 23 = .ok (.if_icmp .ge 63, 3) := by decide +kernel
theorem dX6_howManyBuried_26 : decode cX6_howManyBuried 26 = .ok (.bipush (-9), 2) := by decide +kernel
theorem dX6_howManyBuried_28 : decode cX6_howManyBuried 28 = .ok (.istore 4, 2) := by decide +kernel
theorem dX6_howManyBuried_30 : decode cX6_howManyBuried 30 = .ok (.iload 4, 2) := by decide +kernel
theorem dX6_howManyBuried_32 : decode cX6_howManyBuried 32 = .ok (.bipush 9, 2) := by decide +kernel
theorem dX6_howManyBuried_34 : decode cX6_howManyBuried 34 = .ok (.if_icmp .gt 28, 3) := by decide +kernel
theorem dX6_howManyBuried_37 : decode cX6_howManyBuried 37 = .ok (.iload_n 2, 1) := by decide +kernel
theorem dX6_howManyBuried_38 : decode cX6_howManyBuried 38 = .ok (.aload_n 0, 1) := by decide +kernel
theorem dX6_howManyBuried_39 : decode cX6_howManyBuried 39 = .ok (.iload_n 1, 1) := by decide +kernel
theorem dX6_howManyBuried_40 : decode cX6_howManyBuried 40 = .ok (.iload_n 3, 1) := by decide +kernel
theorem dX6_howManyBuried_41 : decode cX6_howManyBuried 41 = .ok (.iload 4, 2) := by decide +kernel
theorem dX6_howManyBuried_43 : decode cX6_howManyBuried 43 = .ok (.invokevirtual 274, 3) := by decide +kernel
theorem dX6_howManyBuried_46 : decode cX6_howManyBuried 46 = .ok (.ifCond .eq 7, 3) := by decide +kernel
theorem dX6_howManyBuried_49 : decode cX6_howManyBuried 49 = .ok (.iconst 1, 1) := by decide +kernel
theorem dX6_howManyBuried_50 : decode cX6_howManyBuried 50 = .ok (.goto 4, 3) := by decide +kernel
theorem dX6_howManyBuried_53 : decode cX6_howManyBuried 53 = .ok (.iconst 0, 1) := by decide +kernel
theorem dX6_howManyBuried_54 : decode cX6_howManyBuried 54 = .ok (.iadd, 1) := by decide +kernel
theorem dX6_howManyBuried_55 : decode cX6_howManyBuried 55 = .ok (.istore_n 2, 1) := by decide +kernel
theorem dX6_howManyBuried_56 : decode cX6_howManyBuried 56 = .ok (.iinc 4 1, 3) := by decide +kernel
theorem dX6_howManyBuried_59 : decode cX6_howManyBuried 59 = .ok (.goto (-29), 3) := by decide +kernel
theorem dX6_howManyBuried_62 : decode cX6_howManyBuried 62 = .ok (.aload_n 0, 1) := by decide +kernel
theorem dX6_howManyBuried_63 : decode cX6_howManyBuried 63 = .ok (.getfield 18, 3) := by decide +kernel
theorem dX6_howManyBuried_66 : decode cX6_howManyBuried 66 = .ok (.getfield 109, 3) := by decide +kernel
theorem dX6_howManyBuried_69 : decode cX6_howManyBuried 69 = .ok (.iload_n 3, 1) := by decide +kernel
theorem dX6_howManyBuried_70 : decode cX6_howManyBuried 70 = .ok (.aload_n 0, 1) := by decide +kernel
theorem dX6_howManyBuried_71 : decode cX6_howManyBuried 71 = .ok (.getfield 12, 3) := by decide +kernel
theorem dX6_howManyBuried_74 : decode cX6_howManyBuried 74 = .ok (.getfield 109, 3) := by decide +kernel
theorem dX6_howManyBuried_77 : decode cX6_howManyBuried 77 = .ok (.iload_n 3, 1) := by decide +kernel
theorem dX6_howManyBuried_78 : decode cX6_howManyBuried 78 = .ok (.iaload, 1) := by decide +kernel
theorem dX6_howManyBuried_79 : decode cX6_howManyBuried 79 = .ok (.iastore, 1) := by decide +kernel
theorem dX6_howManyBuried_80 : decode cX6_howManyBuried 80 = .ok (.iinc 3 1, 3) := by decide +kernel
theorem dX6_howManyBuried_83 : decode cX6_howManyBuried 83 = .ok (.goto (-68), 3) := by decide +kernel
theorem dX6_howManyBuried_86 : decode cX6_howManyBuried 86 = .ok (.iload_n 2, 1) := by decide +kernel
theorem dX6_howManyBuried_87 : decode cX6_howManyBuried 87 = .ok (.ireturn, 1) := by decide +kernel
theorem dX6_mayBeBuried_0 : decode cX6_mayBeBuried 0 = .ok (.aload_n 0, 1) := by decide +kernel
theorem dX6_mayBeBuried_1 : decode cX6_mayBeBuried 1 = .ok (.getfield 18, 3) := by decide +kernel
theorem dX6_mayBeBuried_4 : decode cX6_mayBeBuried 4 = .ok (.getfield 109, 3) := by decide +kernel
theorem dX6_mayBeBuried_7 : decode cX6_mayBeBuried 7 = .ok (.iload_n 2, 1) := by decide +kernel
theorem dX6_mayBeBuried_8 : decode cX6_mayBeBuried 8 = .ok (.iload_n 3, 1) := by decide +kernel
theorem dX6_mayBeBuried_9 : decode cX6_mayBeBuried 9 = .ok (.iastore, 1) := by decide +kernel
theorem dX6_mayBeBuried_10 : decode cX6_mayBeBuried 10 = .ok (.aload_n 0, 1) := by decide +kernel
theorem dX6_mayBeBuried_11 : decode cX6_mayBeBuried 11 = .ok (.getfield 27, 3) := by decide +kernel
theorem dX6_mayBeBuried_14 : decode cX6_mayBeBuried 14 = .ok (.aload_n 0, 1) := by decide +kernel
theorem dX6_mayBeBuried_15 : decode cX6_mayBeBuried 15 = .ok (.getfield 18, 3) := by decide +kernel
theorem dX6_mayBeBuried_18 : decode cX6_mayBeBuried 18 = .ok (.invokevirtual 243, 3) := by decide +kernel
theorem dX6_mayBeBuried_21 : decode cX6_mayBeBuried 21 = .ok (.iconst 0, 1) := by decide +kernel
theorem dX6_mayBeBuried_22 : decode cX6_mayBeBuried 22 = .ok (.istore 4, 2) := by decide +kernel
theorem dX6_mayBeBuried_24 : decode cX6_mayBeBuried 24 = .ok (.iload 4, 2) := by decide +kernel
theorem dX6_mayBeBuried_26 : decode cX6_mayBeBuried 26 = .ok (.aload_n 0, 1) := by decide +kernel
theorem dX6_mayBeBuried_27 : decode cX6_mayBeBuried 27 = .ok (.getfield 34, 3) := by decide +kernel
theorem dX6_mayBeBuried_30 : decode cX6_mayBeBuried 30 = .ok (.getfield 266, 3) := by decide +kernel
theorem dX6_mayBeBuried_33 : decode cX6_mayBeBuried 33 = .ok (.iload_n 1, 1) := by decide +kernel
theorem dX6_mayBeBuried_34 : decode cX6_mayBeBuried 34 = .ok (.iaload, 1) := by decide +kernel
theorem dX6_mayBeBuried_35 : decode cX6_mayBeBuried 35 = .ok (.if_icmp .ge 48, 3) := by decide +kernel
theorem dX6_mayBeBuried_38 : decode cX6_mayBeBuried 38 = .ok (.aload_n 0, 1) := by decide +kernel
theorem dX6_mayBeBuried_39 : decode cX6_mayBeBuried 39 = .ok (.getfield 27, 3) := by decide +kernel
theorem dX6_mayBeBuried_42 : decode cX6_mayBeBuried 42 = .ok (.getfield 246, 3) := by decide +kernel
theorem dX6_mayBeBuried_45 : decode cX6_mayBeBuried 45 = .ok (.iload 4, 2) := by decide +kernel
theorem dX6_mayBeBuried_47 : decode cX6_mayBeBuried 47 = .ok (.laload, 1) := by decide +kernel
theorem dX6_mayBeBuried_48 : decode cX6_mayBeBuried 48 = .ok (.aload_n 0, 1) := by decide +kernel
theorem dX6_mayBeBuried_49 : decode cX6_mayBeBuried 49 = .ok (.getfield 27, 3) := by decide +kernel
theorem dX6_mayBeBuried_52 : decode cX6_mayBeBuried 52 = .ok (.getfield 247, 3) := by decide +kernel
theorem dX6_mayBeBuried_55 : decode cX6_mayBeBuried 55 = .ok (.invokestatic 277, 3) := by decide +kernel
theorem dX6_mayBeBuried_58 : decode cX6_mayBeBuried 58 = .ok (.aload_n 0, 1) := by decide +kernel
theorem dX6_mayBeBuried_59 : decode cX6_mayBeBuried 59 = .ok (.getfield 34, 3) := by decide +kernel
theorem dX6_mayBeBuried_62 : decode cX6_mayBeBuried 62 = .ok (.getfield 280, 3) := by decide +kernel
theorem dX6_mayBeBuried_65 : decode cX6_mayBeBuried 65 = .ok (.iload_n 1, 1) := by decide +kernel
theorem dX6_mayBeBuried_66 : decode cX6_mayBeBuried 66 = .ok (.aaload, 1) := by decide +kernel
theorem dX6_mayBeBuried_67 : decode cX6_mayBeBuried 67 = .ok (.iload 4, 2) := by decide +kernel
theorem dX6_mayBeBuried_69 : decode cX6_mayBeBuried 69 = .ok (.iaload, 1) := by decide +kernel
theorem dX6_mayBeBuried_70 : decode cX6_mayBeBuried 70 = .ok (.i2l, 1) := by decide +kernel
theorem dX6_mayBeBuried_71 : decode cX6_mayBeBuried 71 = .ok (.lcmp, 1) := by decide +kernel
theorem dX6_mayBeBuried_72 : decode cX6_mayBeBuried 72 = .ok (.ifCond .eq 5, 3) := by decide +kernel
theorem dX6_mayBeBuried_75 : decode cX6_mayBeBuried 75 = .ok (.iconst 0, 1) := by decide +kernel
theorem dX6_mayBeBuried_76 : decode cX6_mayBeBuried 76 = .ok (.ireturn, 1) := by decide +kernel
theorem dX6_mayBeBuried_77 : decode cX6_mayBeBuried 77 = .ok (.iinc 4 1, 3) := by decide +kernel
theorem dX6_mayBeBuried_80 : decode cX6_mayBeBuried 80 = .ok (.goto (-56), 3) := by decide +kernel
theorem dX6_mayBeBuried_83 : decode cX6_mayBeBuried 83 = .ok (.iconst 1, 1) := by decide +kernel
theorem dX6_mayBeBuried_84 : decode cX6_mayBeBuried 84 = .ok (.ireturn, 1) := by decide +kernel
theorem dX6_tells_0 : decode cX6_tells 0 = .ok (.iload_n 1, 1) := by decide +kernel
theorem dX6_tells_1 : decode cX6_tells 1 = .ok (.invokestatic 260, 3) := by decide +kernel
theorem dX6_tells_4 : decode cX6_tells 4 = .ok (.ifCond .eq 21, 3) := by decide +kernel
theorem dX6_tells_7 : decode cX6_tells 7 = .ok (.aload_n 0, 1) := by decide +kernel
theorem dX6_tells_8 : decode cX6_tells 8 = .ok (.getfield 12, 3) := by decide +kernel
theorem dX6_tells_11 : decode cX6_tells 11 = .ok (.iload_n 2, 1) := by decide +kernel
theorem dX6_tells_12 : decode cX6_tells 12 = .ok (.invokevirtual 77, 3) := by decide +kernel
theorem dX6_tells_15 : decode cX6_tells 15 = .ok (.ifCond .eq 10, 3) := by decide +kernel
theorem dX6_tells_18 : decode cX6_tells 18 = .ok (.iload_n 3, 1) := by decide +kernel
theorem dX6_tells_19 : decode cX6_tells 19 = .ok (.invokestatic 134, 3) := by decide +kernel
theorem dX6_tells_22 : decode cX6_tells 22 = .ok (.ifCond .ne 6, 3) := by decide +kernel
theorem dX6_tells_25 : decode cX6_tells 25 = .ok (.bipush (-2), 2) := by decide +kernel
theorem dX6_tells_27 : decode cX6_tells 27 = .ok (.ireturn, 1) := by decide +kernel
theorem dX6_tells_28 : decode cX6_tells 28 = .ok (.aload_n 0, 1) := by decide +kernel
theorem dX6_tells_29 : decode cX6_tells 29 = .ok (.getfield 34, 3) := by decide +kernel
theorem dX6_tells_32 : decode cX6_tells 32 = .ok (.iload_n 1, 1) := by decide +kernel
theorem dX6_tells_33 : decode cX6_tells 33 = .ok (.invokevirtual 263, 3) := by decide +kernel
theorem dX6_tells_36 : decode cX6_tells 36 = .ok (.ifCond .eq 6, 3) := by decide +kernel
theorem dX6_tells_39 : decode cX6_tells 39 = .ok (.bipush (-11), 2) := by decide +kernel
theorem dX6_tells_41 : decode cX6_tells 41 = .ok (.ireturn, 1) := by decide +kernel
theorem dX6_tells_42 : decode cX6_tells 42 = .ok (.aload_n 0, 1) := by decide +kernel
theorem dX6_tells_43 : decode cX6_tells 43 = .ok (.getfield 34, 3) := by decide +kernel
theorem dX6_tells_46 : decode cX6_tells 46 = .ok (.getfield 266, 3) := by decide +kernel
theorem dX6_tells_49 : decode cX6_tells 49 = .ok (.iload_n 1, 1) := by decide +kernel
theorem dX6_tells_50 : decode cX6_tells 50 = .ok (.iaload, 1) := by decide +kernel
theorem dX6_tells_51 : decode cX6_tells 51 = .ok (.bipush 10, 2) := by decide +kernel
theorem dX6_tells_53 : decode cX6_tells 53 = .ok (.if_icmp .le 6, 3) := by decide +kernel
theorem dX6_tells_56 : decode cX6_tells 56 = .ok (.bipush (-2), 2) := by decide +kernel
theorem dX6_tells_58 : decode cX6_tells 58 = .ok (.ireturn, 1) := by decide +kernel
theorem dX6_tells_59 : decode cX6_tells 59 = .ok (.iload_n 3, 1) := by decide +kernel
theorem dX6_tells_60 : decode cX6_tells 60 = .ok (.ifCond .ne 19, 3) := by decide +kernel
theorem dX6_tells_63 : decode cX6_tells 63 = .ok (.aload_n 0, 1) := by decide +kernel
theorem dX6_tells_64 : decode cX6_tells 64 = .ok (.iload_n 1, 1) := by decide +kernel
theorem dX6_tells_65 : decode cX6_tells 65 = .ok (.iload_n 2, 1) := by decide +kernel
theorem dX6_tells_66 : decode cX6_tells 66 = .ok (.aload_n 0, 1) := by decide +kernel
theorem dX6_tells_67 : decode cX6_tells 67 = .ok (.getfield 12, 3) := by decide +kernel
theorem dX6_tells_70 : decode cX6_tells 70 = .ok (.getfield 100, 3) := by decide +kernel
theorem dX6_tells_73 : decode cX6_tells 73 = .ok (.iload_n 2, 1) := by decide +kernel
theorem dX6_tells_74 : decode cX6_tells 74 = .ok (.iaload, 1) := by decide +kernel
theorem dX6_tells_75 : decode cX6_tells 75 = .ok (.invokevirtual 284, 3) := by decide +kernel
theorem dX6_tells_78 : decode cX6_tells 78 = .ok (.ireturn, 1) := by decide +kernel
theorem dX6_tells_79 : decode cX6_tells 79 = .ok (.iconst 0, 1) := by decide +kernel
theorem dX6_tells_80 : decode cX6_tells 80 = .ok (.istore 4, 2) := by decide +kernel
theorem dX6_tells_82 : decode cX6_tells 82 = .ok (.iconst 0, 1) := by decide +kernel
theorem dX6_tells_83 : decode cX6_tells 83 = .ok (.istore 5, 2) := by decide +kernel
theorem dX6_tells_85 : decode cX6_tells 85 = .ok (.iload 5, 2) := by decide +kernel
theorem dX6_tells_87 : decode cX6_tells 87 = .ok (.bipush 6, 2) := by decide +kernel
theorem dX6_tells_89 : decode cX6_tells 89 = .ok (.if_icmp .ge 30, 3) := by decide +kernel
theorem dX6_tells_92 : decode cX6_tells 92 = .ok (.aload_n 0, 1) := by decide +kernel
theorem dX6_tells_93 : decode cX6_tells 93 = .ok (.iload_n 1, 1) := by decide +kernel
theorem dX6_tells_94 : decode cX6_tells 94 = .ok (.iload_n 2, 1) := by decide +kernel
theorem dX6_tells_95 : decode cX6_tells 95 = .ok (.iload 5, 2) := by decide +kernel
theorem dX6_tells_97 : decode cX6_tells 97 = .ok (.invokevirtual 284, 3) := by decide +kernel
theorem dX6_tells_100 : decode cX6_tells 100 = .ok (.iconst (-1), 1) := by decide +kernel
theorem dX6_tells_101 : decode cX6_tells 101 = .ok (.if_icmp .ne 12, 3) := by decide +kernel
theorem dX6_tells_104 : decode cX6_tells 104 = .ok (.iload 4, 2) := by decide +kernel
theorem dX6_tells_106 : decode cX6_tells 106 = .ok (.iconst 1, 1) := by decide +kernel
theorem dX6_tells_107 : decode cX6_tells 107 = .ok (.iload 5, 2) := by decide +kernel
theorem dX6_tells_109 : decode cX6_tells 109 = .ok (.ishl, 1) := by decide +kernel
theorem dX6_tells_110 : decode cX6_tells 110 = .ok (.ior, 1) := by decide +kernel
theorem dX6_tells_111 : decode cX6_tells 111 = .ok (.istore 4, 2) := by decide +kernel
theorem dX6_tells_113 : decode cX6_tells 113 = .ok (.iinc 5 1, 3) := by decide +kernel
theorem dX6_tells_116 : decode cX6_tells 116 = .ok (.goto (-31), 3) := by decide +kernel
theorem dX6_tells_119 : decode cX6_tells 119 = .ok (.iload 4, 2) := by decide +kernel
theorem dX6_tells_121 : decode cX6_tells 121 = .ok (.ireturn, 1) := by decide +kernel
theorem dX6_firstOtherwise_0 : decode cX6_firstOtherwise 0 = .ok (.aload_n 0, 1) := by decide +kernel
theorem dX6_firstOtherwise_1 : decode cX6_firstOtherwise 1 = .ok (.getfield 18, 3) := by decide +kernel
theorem dX6_firstOtherwise_4 : decode cX6_firstOtherwise 4 = .ok (.aload_n 0, 1) := by decide +kernel
theorem dX6_firstOtherwise_5 : decode cX6_firstOtherwise 5 = .ok (.getfield 12, 3) := by decide +kernel
theorem dX6_firstOtherwise_8 : decode cX6_firstOtherwise 8 = .ok (.invokevirtual 197, 3) := by decide +kernel
theorem dX6_firstOtherwise_11 : decode cX6_firstOtherwise 11 = .ok (.aload_n 0, 1) := by decide +kernel
theorem dX6_firstOtherwise_12 : decode cX6_firstOtherwise 12 = .ok (.getfield 18, 3) := by decide +kernel
theorem dX6_firstOtherwise_15 : decode cX6_firstOtherwise 15 = .ok (.iload_n 2, 1) := by decide +kernel
theorem dX6_firstOtherwise_16 : decode cX6_firstOtherwise 16 = .ok (.iload_n 3, 1) := by decide +kernel
theorem dX6_firstOtherwise_17 : decode cX6_firstOtherwise 17 = .ok (.invokevirtual 87, 3) := by decide +kernel
theorem dX6_firstOtherwise_20 : decode cX6_firstOtherwise 20 = .ok (.pop, 1) := by decide +kernel
theorem dX6_firstOtherwise_21 : decode cX6_firstOtherwise 21 = .ok (.iconst 0, 1) := by decide +kernel
theorem dX6_firstOtherwise_22 : decode cX6_firstOtherwise 22 = .ok (.istore 4, 2) := by decide +kernel
theorem dX6_firstOtherwise_24 : decode cX6_firstOtherwise 24 = .ok (.iload 4, 2) := by decide +kernel
theorem dX6_firstOtherwise_26 : decode cX6_firstOtherwise 26 = .ok (.aload_n 0, 1) := by decide +kernel
theorem dX6_firstOtherwise_27 : decode cX6_firstOtherwise 27 = .ok (.getfield 34, 3) := by decide +kernel
theorem dX6_firstOtherwise_30 : decode cX6_firstOtherwise 30 = .ok (.getfield 266, 3) := by decide +kernel
theorem dX6_firstOtherwise_33 : decode cX6_firstOtherwise 33 = .ok (.iload_n 1, 1) := by decide +kernel
theorem dX6_firstOtherwise_34 : decode cX6_firstOtherwise 34 = .ok (.iaload, 1) := by decide +kernel
theorem dX6_firstOtherwise_35 : decode cX6_firstOtherwise 35 = .ok (.if_icmp .ge 68, 3) := by decide +kernel
theorem dX6_firstOtherwise_38 : decode cX6_firstOtherwise 38 = .ok (.iload 4, 2) := by decide +kernel
theorem dX6_firstOtherwise_40 : decode cX6_firstOtherwise 40 = .ok (.ifCond .le 18, 3) := by decide +kernel
theorem dX6_firstOtherwise_43 : decode cX6_firstOtherwise 43 = .ok (.aload_n 0, 1) := by decide +kernel
theorem dX6_firstOtherwise_44 : decode cX6_firstOtherwise 44 = .ok (.getfield 18, 3) := by decide +kernel
theorem dX6_firstOtherwise_47 : decode cX6_firstOtherwise 47 = .ok (.invokevirtual 201, 3) := by decide +kernel
theorem dX6_firstOtherwise_50 : decode cX6_firstOtherwise 50 = .ok (.bipush (-2), 2) := by decide +kernel
theorem dX6_firstOtherwise_52 : decode cX6_firstOtherwise 52 = .ok (.if_icmp .eq 6, 3) := by decide +kernel
theorem dX6_firstOtherwise_55 : decode cX6_firstOtherwise 55 = .ok (.iload 4, 2) := by decide +kernel
theorem dX6_firstOtherwise_57 : decode cX6_firstOtherwise 57 = .ok (.ireturn, 1) := by decide +kernel
theorem dX6_firstOtherwise_58 : decode cX6_firstOtherwise 58 = .ok (.aload_n 0, 1) := by decide +kernel
theorem dX6_firstOtherwise_59 : decode cX6_firstOtherwise 59 = .ok (.getfield 18, 3) := by decide +kernel
theorem dX6_firstOtherwise_62 : decode cX6_firstOtherwise 62 = .ok (.getfield 152, 3) := by decide +kernel
theorem dX6_firstOtherwise_65 : decode cX6_firstOtherwise 65 = .ok (.iload_n 2, 1) := by decide +kernel
theorem dX6_firstOtherwise_66 : decode cX6_firstOtherwise 66 = .ok (.laload, 1) := by decide +kernel
theorem dX6_firstOtherwise_67 : decode cX6_firstOtherwise 67 = .ok (.aload_n 0, 1) := by decide +kernel
theorem dX6_firstOtherwise_68 : decode cX6_firstOtherwise 68 = .ok (.getfield 18, 3) := by decide +kernel
theorem dX6_firstOtherwise_71 : decode cX6_firstOtherwise 71 = .ok (.getfield 156, 3) := by decide +kernel
theorem dX6_firstOtherwise_74 : decode cX6_firstOtherwise 74 = .ok (.invokestatic 277, 3) := by decide +kernel
theorem dX6_firstOtherwise_77 : decode cX6_firstOtherwise 77 = .ok (.aload_n 0, 1) := by decide +kernel
theorem dX6_firstOtherwise_78 : decode cX6_firstOtherwise 78 = .ok (.getfield 34, 3) := by decide +kernel
theorem dX6_firstOtherwise_81 : decode cX6_firstOtherwise 81 = .ok (.getfield 280, 3) := by decide +kernel
theorem dX6_firstOtherwise_84 : decode cX6_firstOtherwise 84 = .ok (.iload_n 1, 1) := by decide +kernel
theorem dX6_firstOtherwise_85 : decode cX6_firstOtherwise 85 = .ok (.aaload, 1) := by decide +kernel
theorem dX6_firstOtherwise_86 : decode cX6_firstOtherwise 86 = .ok (.iload 4, 2) := by decide +kernel
theorem dX6_firstOtherwise_88 : decode cX6_firstOtherwise 88 = .ok (.iaload, 1) := by decide +kernel
theorem dX6_firstOtherwise_89 : decode cX6_firstOtherwise 89 = .ok (.i2l, 1) := by decide +kernel
theorem dX6_firstOtherwise_90 : decode cX6_firstOtherwise 90 = .ok (.lcmp, 1) := by decide +kernel
theorem dX6_firstOtherwise_91 : decode cX6_firstOtherwise 91 = .ok (.ifCond .eq 6, 3) := by decide +kernel
theorem dX6_firstOtherwise_94 : decode cX6_firstOtherwise 94 = .ok (.iload 4, 2) := by decide +kernel
theorem dX6_firstOtherwise_96 : decode cX6_firstOtherwise 96 = .ok (.ireturn, 1) := by decide +kernel
theorem dX6_firstOtherwise_97 : decode cX6_firstOtherwise 97 = .ok (.iinc 4 1, 3) := by decide +kernel
theorem dX6_firstOtherwise_100 : decode cX6_firstOtherwise 100 = .ok (.goto (-76), 3) := by decide +kernel
theorem dX6_firstOtherwise_103 : decode cX6_firstOtherwise 103 = .ok (.iconst (-1), 1) := by decide +kernel
theorem dX6_firstOtherwise_104 : decode cX6_firstOtherwise 104 = .ok (.ireturn, 1) := by decide +kernel
theorem dX6_film_0 : decode cX6_film 0 = .ok (.iload_n 1, 1) := by decide +kernel
theorem dX6_film_1 : decode cX6_film 1 = .ok (.invokestatic 260, 3) := by decide +kernel
theorem dX6_film_4 : decode cX6_film 4 = .ok (.ifCond .eq 24, 3) := by decide +kernel
theorem dX6_film_7 : decode cX6_film 7 = .ok (.aload_n 0, 1) := by decide +kernel
theorem dX6_film_8 : decode cX6_film 8 = .ok (.getfield 12, 3) := by decide +kernel
theorem dX6_film_11 : decode cX6_film 11 = .ok (.iload_n 2, 1) := by decide +kernel
theorem dX6_film_12 : decode cX6_film 12 = .ok (.invokevirtual 77, 3) := by decide +kernel
theorem dX6_film_15 : decode cX6_film 15 = .ok (.ifCond .eq 13, 3) := by decide +kernel
theorem dX6_film_18 : decode cX6_film 18 = .ok (.iload_n 3, 1) := by decide +kernel
theorem dX6_film_19 : decode cX6_film 19 = .ok (.iconst 0, 1) := by decide +kernel
theorem dX6_film_20 : decode cX6_film 20 = .ok (.bipush 10, 2) := by decide +kernel
theorem dX6_film_22 : decode cX6_film 22 = .ok (.invokestatic 137, 3) := by decide +kernel
theorem dX6_film_25 : decode cX6_film 25 = .ok (.ifCond .ne 6, 3) := by decide +kernel
theorem dX6_film_28 : decode cX6_film 28 = .ok (.bipush (-2), 2) := by decide +kernel
theorem dX6_film_30 : decode cX6_film 30 = .ok (.ireturn, 1) := by decide +kernel
theorem dX6_film_31 : decode cX6_film 31 = .ok (.aload_n 0, 1) := by decide +kernel
theorem dX6_film_32 : decode cX6_film 32 = .ok (.getfield 18, 3) := by decide +kernel
theorem dX6_film_35 : decode cX6_film 35 = .ok (.aload_n 0, 1) := by decide +kernel
theorem dX6_film_36 : decode cX6_film 36 = .ok (.getfield 12, 3) := by decide +kernel
theorem dX6_film_39 : decode cX6_film 39 = .ok (.invokevirtual 197, 3) := by decide +kernel
theorem dX6_film_42 : decode cX6_film 42 = .ok (.iconst 0, 1) := by decide +kernel
theorem dX6_film_43 : decode cX6_film 43 = .ok (.istore 4, 2) := by decide +kernel
theorem dX6_film_45 : decode cX6_film 45 = .ok (.iload 4, 2) := by decide +kernel
theorem dX6_film_47 : decode cX6_film 47 = .ok (.iload_n 3, 1) := by decide +kernel
theorem dX6_film_48 : decode cX6_film 48 = .ok (.if_icmp .ge 72, 3) := by decide +kernel
theorem dX6_film_51 : decode cX6_film 51 = .ok (.iload 4, 2) := by decide +kernel
theorem dX6_film_53 : decode cX6_film 53 = .ok (.ifCond .le 18, 3) := by decide +kernel
theorem dX6_film_56 : decode cX6_film 56 = .ok (.aload_n 0, 1) := by decide +kernel
theorem dX6_film_57 : decode cX6_film 57 = .ok (.getfield 18, 3) := by decide +kernel
theorem dX6_film_60 : decode cX6_film 60 = .ok (.invokevirtual 201, 3) := by decide +kernel
theorem dX6_film_63 : decode cX6_film 63 = .ok (.bipush (-2), 2) := by decide +kernel
theorem dX6_film_65 : decode cX6_film 65 = .ok (.if_icmp .eq 6, 3) := by decide +kernel
theorem dX6_film_68 : decode cX6_film 68 = .ok (.bipush (-3), 2) := by decide +kernel
theorem dX6_film_70 : decode cX6_film 70 = .ok (.ireturn, 1) := by decide +kernel
theorem dX6_film_71 : decode cX6_film 71 = .ok (.aload_n 0, 1) := by decide +kernel
theorem dX6_film_72 : decode cX6_film 72 = .ok (.getfield 18, 3) := by decide +kernel
theorem dX6_film_75 : decode cX6_film 75 = .ok (.getfield 152, 3) := by decide +kernel
theorem dX6_film_78 : decode cX6_film 78 = .ok (.iload_n 2, 1) := by decide +kernel
theorem dX6_film_79 : decode cX6_film 79 = .ok (.laload, 1) := by decide +kernel
theorem dX6_film_80 : decode cX6_film 80 = .ok (.aload_n 0, 1) := by decide +kernel
theorem dX6_film_81 : decode cX6_film 81 = .ok (.getfield 18, 3) := by decide +kernel
theorem dX6_film_84 : decode cX6_film 84 = .ok (.getfield 156, 3) := by decide +kernel
theorem dX6_film_87 : decode cX6_film 87 = .ok (.invokestatic 277, 3) := by decide +kernel
theorem dX6_film_90 : decode cX6_film 90 = .ok (.lstore 5, 2) := by decide +kernel
theorem dX6_film_92 : decode cX6_film 92 = .ok (.aload_n 0, 1) := by decide +kernel
theorem dX6_film_93 : decode cX6_film 93 = .ok (.getfield 45, 3) := by decide +kernel
theorem dX6_film_96 : decode cX6_film 96 = .ok (.iload 4, 2) := by decide +kernel
theorem dX6_film_98 : decode cX6_film 98 = .ok (.ldc2_w 287, 3) := by decide +kernel
theorem dX6_film_101 : decode cX6_film 101 = .ok (.ldc2_w 289, 3) := by decide +kernel
theorem dX6_film_104 : decode cX6_film 104 = .ok (.lload 5, 2) := by decide +kernel
theorem dX6_film_106 : decode cX6_film 106 = .ok (.invokestatic 291, 3) := by decide +kernel
theorem dX6_film_109 : decode cX6_film 109 = .ok (.invokestatic 294, 3) := by decide +kernel
theorem dX6_film_112 : decode cX6_film 112 = .ok (.l2i, 1) := by decide +kernel
theorem dX6_film_113 : decode cX6_film 113 = .ok (.iastore, 1) := by decide +kernel
theorem dX6_film_114 : decode cX6_film 114 = .ok (.iinc 4 1, 3) := by decide +kernel
theorem dX6_film_117 : decode cX6_film 117 = .ok (.goto (-72), 3) := by decide +kernel
theorem dX6_film_120 : decode cX6_film 120 = .ok (.aload_n 0, 1) := by decide +kernel
theorem dX6_film_121 : decode cX6_film 121 = .ok (.getfield 34, 3) := by decide +kernel
theorem dX6_film_124 : decode cX6_film 124 = .ok (.iload_n 1, 1) := by decide +kernel
theorem dX6_film_125 : decode cX6_film 125 = .ok (.iconst 1, 1) := by decide +kernel
theorem dX6_film_126 : decode cX6_film 126 = .ok (.iload_n 3, 1) := by decide +kernel
theorem dX6_film_127 : decode cX6_film 127 = .ok (.invokevirtual 296, 3) := by decide +kernel
theorem dX6_film_130 : decode cX6_film 130 = .ok (.aload_n 0, 1) := by decide +kernel
theorem dX6_film_131 : decode cX6_film 131 = .ok (.getfield 45, 3) := by decide +kernel
theorem dX6_film_134 : decode cX6_film 134 = .ok (.iconst 0, 1) := by decide +kernel
theorem dX6_film_135 : decode cX6_film 135 = .ok (.aload_n 0, 1) := by decide +kernel
theorem dX6_film_136 : decode cX6_film 136 = .ok (.getfield 34, 3) := by decide +kernel
theorem dX6_film_139 : decode cX6_film 139 = .ok (.getfield 280, 3) := by decide +kernel
theorem dX6_film_142 : decode cX6_film 142 = .ok (.iload_n 1, 1) := by decide +kernel
theorem dX6_film_143 : decode cX6_film 143 = .ok (.aaload, 1) := by decide +kernel
theorem dX6_film_144 : decode cX6_film 144 = .ok (.iconst 0, 1) := by decide +kernel
theorem dX6_film_145 : decode cX6_film 145 = .ok (.iload_n 3, 1) := by decide +kernel
theorem dX6_film_146 : decode cX6_film 146 = .ok (.invokestatic 300, 3) := by decide +kernel
theorem dX6_film_149 : decode cX6_film 149 = .ok (.iload_n 3, 1) := by decide +kernel
theorem dX6_film_150 : decode cX6_film 150 = .ok (.ireturn, 1) := by decide +kernel
theorem dX6_drawn_0 : decode cX6_drawn 0 = .ok (.iload_n 2, 1) := by decide +kernel
theorem dX6_drawn_1 : decode cX6_drawn 1 = .ok (.iconst 0, 1) := by decide +kernel
theorem dX6_drawn_2 : decode cX6_drawn 2 = .ok (.bipush 20, 2) := by decide +kernel
theorem dX6_drawn_4 : decode cX6_drawn 4 = .ok (.invokestatic 137, 3) := by decide +kernel
theorem dX6_drawn_7 : decode cX6_drawn 7 = .ok (.ifCond .eq 13, 3) := by decide +kernel
theorem dX6_drawn_10 : decode cX6_drawn 10 = .ok (.aload_n 0, 1) := by decide +kernel
theorem dX6_drawn_11 : decode cX6_drawn 11 = .ok (.getfield 12, 3) := by decide +kernel
theorem dX6_drawn_14 : decode cX6_drawn 14 = .ok (.getfield 70, 3) := by decide +kernel
theorem dX6_drawn_17 : decode cX6_drawn 17 = .ok (.ifCond .ne 7, 3) := by decide +kernel
theorem dX6_drawn_20 : decode cX6_drawn 20 = .ok (.ldc2_w 150, 3) := by decide +kernel
theorem dX6_drawn_23 : decode cX6_drawn 23 = .ok (.lreturn, 1) := by decide +kernel
theorem dX6_drawn_24 : decode cX6_drawn 24 = .ok (.aload_n 0, 1) := by decide +kernel
theorem dX6_drawn_25 : decode cX6_drawn 25 = .ok (.getfield 18, 3) := by decide +kernel
theorem dX6_drawn_28 : decode cX6_drawn 28 = .ok (.aload_n 0, 1) := by decide +kernel
theorem dX6_drawn_29 : decode cX6_drawn 29 = .ok (.getfield 12, 3) := by decide +kernel
theorem dX6_drawn_32 : decode cX6_drawn 32 = .ok (.invokevirtual 197, 3) := by decide +kernel
theorem dX6_drawn_35 : decode cX6_drawn 35 = .ok (.iload_n 1, 1) := by decide +kernel
theorem dX6_drawn_36 : decode cX6_drawn 36 = .ok (.istore_n 3, 1) := by decide +kernel
theorem dX6_drawn_37 : decode cX6_drawn 37 = .ok (.iconst 0, 1) := by decide +kernel
theorem dX6_drawn_38 : decode cX6_drawn 38 = .ok (.istore 4, 2) := by decide +kernel
theorem dX6_drawn_40 : decode cX6_drawn 40 = .ok (.iload 4, 2) := by decide +kernel
theorem dX6_drawn_42 : decode cX6_drawn 42 = .ok (.iload_n 2, 1) := by decide +kernel
theorem dX6_drawn_43 : decode cX6_drawn 43 = .ok (.if_icmp .ge 66, 3) := by decide +kernel
theorem dX6_drawn_46 : decode cX6_drawn 46 = .ok (.iload_n 3, 1) := by decide +kernel
theorem dX6_drawn_47 : decode cX6_drawn 47 = .ok (.ldc_w 306, 3) := by decide +kernel
theorem dX6_drawn_50 : decode cX6_drawn 50 = .ok (.imul, 1) := by decide +kernel
theorem dX6_drawn_51 : decode cX6_drawn 51 = .ok (.sipush 12345, 3) := by decide +kernel
theorem dX6_drawn_54 : decode cX6_drawn 54 = .ok (.iadd, 1) := by decide +kernel
theorem dX6_drawn_55 : decode cX6_drawn 55 = .ok (.istore_n 3, 1) := by decide +kernel
theorem dX6_drawn_56 : decode cX6_drawn 56 = .ok (.aload_n 0, 1) := by decide +kernel
theorem dX6_drawn_57 : decode cX6_drawn 57 = .ok (.getfield 18, 3) := by decide +kernel
theorem dX6_drawn_60 : decode cX6_drawn 60 = .ok (.iload_n 3, 1) := by decide +kernel
theorem dX6_drawn_61 : decode cX6_drawn 61 = .ok (.bipush 9, 2) := by decide +kernel
theorem dX6_drawn_63 : decode cX6_drawn 63 = .ok (.iushr, 1) := by decide +kernel
theorem dX6_drawn_64 : decode cX6_drawn 64 = .ok (.i2l, 1) := by decide +kernel
theorem dX6_drawn_65 : decode cX6_drawn 65 = .ok (.aload_n 0, 1) := by decide +kernel
theorem dX6_drawn_66 : decode cX6_drawn 66 = .ok (.getfield 12, 3) := by decide +kernel
theorem dX6_drawn_69 : decode cX6_drawn 69 = .ok (.getfield 70, 3) := by decide +kernel
theorem dX6_drawn_72 : decode cX6_drawn 72 = .ok (.i2l, 1) := by decide +kernel
theorem dX6_drawn_73 : decode cX6_drawn 73 = .ok (.invokestatic 307, 3) := by decide +kernel
theorem dX6_drawn_76 : decode cX6_drawn 76 = .ok (.l2i, 1) := by decide +kernel
theorem dX6_drawn_77 : decode cX6_drawn 77 = .ok (.iload_n 3, 1) := by decide +kernel
theorem dX6_drawn_78 : decode cX6_drawn 78 = .ok (.bipush 20, 2) := by decide +kernel
theorem dX6_drawn_80 : decode cX6_drawn 80 = .ok (.iushr, 1) := by decide +kernel
theorem dX6_drawn_81 : decode cX6_drawn 81 = .ok (.bipush 10, 2) := by decide +kernel
theorem dX6_drawn_83 : decode cX6_drawn 83 = .ok (.irem, 1) := by decide +kernel
theorem dX6_drawn_84 : decode cX6_drawn 84 = .ok (.invokevirtual 310, 3) := by decide +kernel
theorem dX6_drawn_87 : decode cX6_drawn 87 = .ok (.aload_n 0, 1) := by decide +kernel
theorem dX6_drawn_88 : decode cX6_drawn 88 = .ok (.getfield 18, 3) := by decide +kernel
theorem dX6_drawn_91 : decode cX6_drawn 91 = .ok (.invokevirtual 201, 3) := by decide +kernel
theorem dX6_drawn_94 : decode cX6_drawn 94 = .ok (.bipush (-2), 2) := by decide +kernel
theorem dX6_drawn_96 : decode cX6_drawn 96 = .ok (.if_icmp .eq 7, 3) := by decide +kernel
theorem dX6_drawn_99 : decode cX6_drawn 99 = .ok (.ldc2_w 150, 3) := by decide +kernel
theorem dX6_drawn_102 : decode cX6_drawn 102 = .ok (.lreturn, 1) := by decide +kernel
theorem dX6_drawn_103 : decode cX6_drawn 103 = .ok (.iinc 4 1, 3) := by decide +kernel
theorem dX6_drawn_106 : decode cX6_drawn 106 = .ok (.goto (-66), 3) := by decide +kernel
theorem dX6_drawn_109 : decode cX6_drawn 109 = .ok (.aload_n 0, 1) := by decide +kernel
theorem dX6_drawn_110 : decode cX6_drawn 110 = .ok (.getfield 18, 3) := by decide +kernel
theorem dX6_drawn_113 : decode cX6_drawn 113 = .ok (.invokevirtual 204, 3) := by decide +kernel
theorem dX6_drawn_116 : decode cX6_drawn 116 = .ok (.aload_n 0, 1) := by decide +kernel
theorem dX6_drawn_117 : decode cX6_drawn 117 = .ok (.getfield 18, 3) := by decide +kernel
theorem dX6_drawn_120 : decode cX6_drawn 120 = .ok (.getfield 156, 3) := by decide +kernel
theorem dX6_drawn_123 : decode cX6_drawn 123 = .ok (.invokestatic 277, 3) := by decide +kernel
theorem dX6_drawn_126 : decode cX6_drawn 126 = .ok (.lreturn, 1) := by decide +kernel
theorem dX6_feed_0 : decode cX6_feed 0 = .ok (.iload_n 2, 1) := by decide +kernel
theorem dX6_feed_1 : decode cX6_feed 1 = .ok (.invokestatic 313, 3) := by decide +kernel
theorem dX6_feed_4 : decode cX6_feed 4 = .ok (.ifCond .eq 38, 3) := by decide +kernel
theorem dX6_feed_7 : decode cX6_feed 7 = .ok (.iload_n 3, 1) := by decide +kernel
theorem dX6_feed_8 : decode cX6_feed 8 = .ok (.invokestatic 313, 3) := by decide +kernel
theorem dX6_feed_11 : decode cX6_feed 11 = .ok (.ifCond .eq 31, 3) := by decide +kernel
theorem dX6_feed_14 : decode cX6_feed 14 = .ok (.iload 4, 2) := by decide +kernel
theorem dX6_feed_16 : decode cX6_feed 16 = .ok (.invokestatic 313, 3) := by decide +kernel
theorem dX6_feed_19 : decode cX6_feed 19 = .ok (.ifCond .eq 23, 3) := by decide +kernel
theorem dX6_feed_22 : decode cX6_feed 22 = .ok (.iload 5, 2) := by decide +kernel
theorem dX6_feed_24 : decode cX6_feed 24 = .ok (.invokestatic 313, 3) := by decide +kernel
theorem dX6_feed_27 : decode cX6_feed 27 = .ok (.ifCond .eq 15, 3) := by decide +kernel
theorem dX6_feed_30 : decode cX6_feed 30 = .ok (.iload 6, 2) := by decide +kernel
theorem dX6_feed_32 : decode cX6_feed 32 = .ok (.invokestatic 313, 3) := by decide +kernel
theorem dX6_feed_35 : decode cX6_feed 35 = .ok (.ifCond .eq 7, 3) := by decide +kernel
theorem dX6_feed_38 : decode cX6_feed 38 = .ok (.iconst 1, 1) := by decide +kernel
theorem dX6_feed_39 : decode cX6_feed 39 = .ok (.goto 4, 3) := by decide +kernel
theorem dX6_feed_42 : decode cX6_feed 42 = .ok (.iconst 0, 1) := by decide +kernel
theorem dX6_feed_43 : decode cX6_feed 43 = .ok (.istore 7, 2) := by decide +kernel
theorem dX6_feed_45 : decode cX6_feed 45 = .ok (.iload_n 1, 1) := by decide +kernel
theorem dX6_feed_46 : decode cX6_feed 46 = .ok (.iconst 1, 1) := by decide +kernel
theorem dX6_feed_47 : decode cX6_feed 47 = .ok (.iconst 5, 1) := by decide +kernel
theorem dX6_feed_48 : decode cX6_feed 48 = .ok (.invokestatic 137, 3) := by decide +kernel
theorem dX6_feed_51 : decode cX6_feed 51 = .ok (.ifCond .eq 8, 3) := by decide +kernel
theorem dX6_feed_54 : decode cX6_feed 54 = .ok (.iload 7, 2) := by decide +kernel
theorem dX6_feed_56 : decode cX6_feed 56 = .ok (.ifCond .ne 6, 3) := by decide +kernel
theorem dX6_feed_59 : decode cX6_feed 59 = .ok (.bipush (-2), 2) := by decide +kernel
theorem dX6_feed_61 : decode cX6_feed 61 = .ok (.ireturn, 1) := by decide +kernel
theorem dX6_feed_62 : decode cX6_feed 62 = .ok (.aload_n 0, 1) := by decide +kernel
theorem dX6_feed_63 : decode cX6_feed 63 = .ok (.getfield 41, 3) := by decide +kernel
theorem dX6_feed_66 : decode cX6_feed 66 = .ok (.getfield 316, 3) := by decide +kernel
theorem dX6_feed_69 : decode cX6_feed 69 = .ok (.iload_n 1, 1) := by decide +kernel
theorem dX6_feed_70 : decode cX6_feed 70 = .ok (.iadd, 1) := by decide +kernel
theorem dX6_feed_71 : decode cX6_feed 71 = .ok (.bipush 60, 2) := by decide +kernel
theorem dX6_feed_73 : decode cX6_feed 73 = .ok (.if_icmp .le 6, 3) := by decide +kernel
theorem dX6_feed_76 : decode cX6_feed 76 = .ok (.bipush (-4), 2) := by decide +kernel
theorem dX6_feed_78 : decode cX6_feed 78 = .ok (.ireturn, 1) := by decide +kernel
theorem dX6_feed_79 : decode cX6_feed 79 = .ok (.aload_n 0, 1) := by decide +kernel
theorem dX6_feed_80 : decode cX6_feed 80 = .ok (.getfield 41, 3) := by decide +kernel
theorem dX6_feed_83 : decode cX6_feed 83 = .ok (.getfield 316, 3) := by decide +kernel
theorem dX6_feed_86 : decode cX6_feed 86 = .ok (.iload_n 1, 1) := by decide +kernel
theorem dX6_feed_87 : decode cX6_feed 87 = .ok (.iadd, 1) := by decide +kernel
theorem dX6_feed_88 : decode cX6_feed 88 = .ok (.istore 8, 2) := by decide +kernel
theorem dX6_feed_90 : decode cX6_feed 90 = .ok (.aload_n 0, 1) := by decide +kernel
theorem dX6_feed_91 : decode cX6_feed 91 = .ok (.getfield 41, 3) := by decide +kernel
theorem dX6_feed_94 : decode cX6_feed 94 = .ok (.iload_n 2, 1) := by decide +kernel
theorem dX6_feed_95 : decode cX6_feed 95 = .ok (.iload 8, 2) := by decide +kernel
theorem dX6_feed_97 : decode cX6_feed 97 = .ok (.invokevirtual 317, 3) := by decide +kernel
theorem dX6_feed_100 : decode cX6_feed 100 = .ok (.aload_n 0, 1) := by decide +kernel
theorem dX6_feed_101 : decode cX6_feed 101 = .ok (.getfield 41, 3) := by decide +kernel
theorem dX6_feed_104 : decode cX6_feed 104 = .ok (.iload_n 3, 1) := by decide +kernel
theorem dX6_feed_105 : decode cX6_feed 105 = .ok (.iload 8, 2) := by decide +kernel
theorem dX6_feed_107 : decode cX6_feed 107 = .ok (.invokevirtual 317, 3) := by decide +kernel
theorem dX6_feed_110 : decode cX6_feed 110 = .ok (.aload_n 0, 1) := by decide +kernel
theorem dX6_feed_111 : decode cX6_feed 111 = .ok (.getfield 41, 3) := by decide +kernel
theorem dX6_feed_114 : decode cX6_feed 114 = .ok (.iload 4, 2) := by decide +kernel
theorem dX6_feed_116 : decode cX6_feed 116 = .ok (.iload 8, 2) := by decide +kernel
theorem dX6_feed_118 : decode cX6_feed 118 = .ok (.invokevirtual 317, 3) := by decide +kernel
theorem dX6_feed_121 : decode cX6_feed 121 = .ok (.aload_n 0, 1) := by decide +kernel
theorem dX6_feed_122 : decode cX6_feed 122 = .ok (.getfield 41, 3) := by decide +kernel
theorem dX6_feed_125 : decode cX6_feed 125 = .ok (.iload 5, 2) := by decide +kernel
theorem dX6_feed_127 : decode cX6_feed 127 = .ok (.iload 8, 2) := by decide +kernel
theorem dX6_feed_129 : decode cX6_feed 129 = .ok (.invokevirtual 317, 3) := by decide +kernel
theorem dX6_feed_132 : decode cX6_feed 132 = .ok (.aload_n 0, 1) := by decide +kernel
theorem dX6_feed_133 : decode cX6_feed 133 = .ok (.getfield 41, 3) := by decide +kernel
theorem dX6_feed_136 : decode cX6_feed 136 = .ok (.iload 6, 2) := by decide +kernel
theorem dX6_feed_138 : decode cX6_feed 138 = .ok (.iload 8, 2) := by decide +kernel
theorem dX6_feed_140 : decode cX6_feed 140 = .ok (.invokevirtual 317, 3) := by decide +kernel
theorem dX6_feed_143 : decode cX6_feed 143 = .ok (.aload_n 0, 1) := by decide +kernel
theorem dX6_feed_144 : decode cX6_feed 144 = .ok (.getfield 41, 3) := by decide +kernel
theorem dX6_feed_147 : decode cX6_feed 147 = .ok (.getfield 316, 3) := by decide +kernel
theorem dX6_feed_150 : decode cX6_feed 150 = .ok (.ireturn, 1) := by decide +kernel
theorem dX6_text_0 : decode cX6_text 0 = .ok (.aload_n 0, 1) := by decide +kernel
theorem dX6_text_1 : decode cX6_text 1 = .ok (.getfield 41, 3) := by decide +kernel
theorem dX6_text_4 : decode cX6_text 4 = .ok (.invokevirtual 319, 3) := by decide +kernel
theorem dX6_text_7 : decode cX6_text 7 = .ok (.istore_n 1, 1) := by decide +kernel
theorem dX6_text_8 : decode cX6_text 8 = .ok (.aload_n 0, 1) := by decide +kernel
theorem dX6_text_9 : decode cX6_text 9 = .ok (.getfield 41, 3) := by decide +kernel
theorem dX6_text_12 : decode cX6_text 12 = .ok (.iconst 0, 1) := by decide +kernel
theorem dX6_text_13 : decode cX6_text 13 = .ok (.putfield 316, 3) := by decide +kernel
theorem dX6_text_16 : decode cX6_text 16 = .ok (.iload_n 1, 1) := by decide +kernel
theorem dX6_text_17 : decode cX6_text 17 = .ok (.iconst (-1), 1) := by decide +kernel
theorem dX6_text_18 : decode cX6_text 18 = .ok (.if_icmp .ne 10, 3) := by decide +kernel
theorem dX6_text_21 : decode cX6_text 21 = .ok (.aload_n 0, 1) := by decide +kernel
theorem dX6_text_22 : decode cX6_text 22 = .ok (.invokevirtual 322, 3) := by decide +kernel
theorem dX6_text_25 : decode cX6_text 25 = .ok (.goto 7, 3) := by decide +kernel
theorem dX6_text_28 : decode cX6_text 28 = .ok (.bipush (-100), 2) := by decide +kernel
theorem dX6_text_30 : decode cX6_text 30 = .ok (.iload_n 1, 1) := by decide +kernel
theorem dX6_text_31 : decode cX6_text 31 = .ok (.isub, 1) := by decide +kernel
theorem dX6_text_32 : decode cX6_text 32 = .ok (.ireturn, 1) := by decide +kernel
theorem dX6_clausesDone_0 : decode cX6_clausesDone 0 = .ok (.iconst 0, 1) := by decide +kernel
theorem dX6_clausesDone_1 : decode cX6_clausesDone 1 = .ok (.istore_n 1, 1) := by decide +kernel
theorem dX6_clausesDone_2 : decode cX6_clausesDone 2 = .ok (.iconst 0, 1) := by decide +kernel
theorem dX6_clausesDone_3 : decode cX6_clausesDone 3 = .ok (.istore_n 2, 1) := by decide +kernel
theorem dX6_clausesDone_4 : decode cX6_clausesDone 4 = .ok (.iconst 0, 1) := by decide +kernel
theorem dX6_clausesDone_5 : decode cX6_clausesDone 5 = .ok (.istore_n 3, 1) := by decide +kernel
theorem dX6_clausesDone_6 : decode cX6_clausesDone 6 = .ok (.iload_n 3, 1) := by decide +kernel
theorem dX6_clausesDone_7 : decode cX6_clausesDone 7 = .ok (.bipush 60, 2) := by decide +kernel
theorem dX6_clausesDone_9 : decode cX6_clausesDone 9 = .ok (.if_icmp .ge 52, 3) := by decide +kernel
theorem dX6_clausesDone_12 : decode cX6_clausesDone 12 = .ok (.iload_n 2, 1) := by decide +kernel
theorem dX6_clausesDone_13 : decode cX6_clausesDone 13 = .ok (.aload_n 0, 1) := by decide +kernel
theorem dX6_clausesDone_14 : decode cX6_clausesDone 14 = .ok (.getfield 41, 3) := by decide +kernel
theorem dX6_clausesDone_17 : decode cX6_clausesDone 17 = .ok (.getfield 325, 3) := by decide +kernel
theorem dX6_clausesDone_20 : decode cX6_clausesDone 20 = .ok (.if_icmp .ge 41, 3) := by decide +kernel
theorem dX6_clausesDone_23 : decode cX6_clausesDone 23 = .ok (.iload_n 1, 1) := by decide +kernel
theorem dX6_clausesDone_24 : decode cX6_clausesDone 24 = .ok (.aload_n 0, 1) := by decide +kernel
theorem dX6_clausesDone_25 : decode cX6_clausesDone 25 = .ok (.iload_n 2, 1) := by decide +kernel
theorem dX6_clausesDone_26 : decode cX6_clausesDone 26 = .ok (.invokevirtual 328, 3) := by decide +kernel
theorem dX6_clausesDone_29 : decode cX6_clausesDone 29 = .ok (.ifCond .eq 7, 3) := by decide +kernel
theorem dX6_clausesDone_32 : decode cX6_clausesDone 32 = .ok (.iconst 1, 1) := by decide +kernel
theorem dX6_clausesDone_33 : decode cX6_clausesDone 33 = .ok (.goto 4, 3) := by decide +kernel
theorem dX6_clausesDone_36 : decode cX6_clausesDone 36 = .ok (.iconst 0, 1) := by decide +kernel
theorem dX6_clausesDone_37 : decode cX6_clausesDone 37 = .ok (.iadd, 1) := by decide +kernel
theorem dX6_clausesDone_38 : decode cX6_clausesDone 38 = .ok (.istore_n 1, 1) := by decide +kernel
theorem dX6_clausesDone_39 : decode cX6_clausesDone 39 = .ok (.iload_n 2, 1) := by decide +kernel
theorem dX6_clausesDone_40 : decode cX6_clausesDone 40 = .ok (.iconst 1, 1) := by decide +kernel
theorem dX6_clausesDone_41 : decode cX6_clausesDone 41 = .ok (.aload_n 0, 1) := by decide +kernel
theorem dX6_clausesDone_42 : decode cX6_clausesDone 42 = .ok (.getfield 41, 3) := by decide +kernel
theorem dX6_clausesDone_45 : decode cX6_clausesDone 45 = .ok (.iload_n 2, 1) := by decide +kernel
theorem dX6_clausesDone_46 : decode cX6_clausesDone 46 = .ok (.invokevirtual 331, 3) := by decide +kernel
theorem dX6_clausesDone_49 : decode cX6_clausesDone 49 = .ok (.invokestatic 334, 3) := by decide +kernel
theorem dX6_clausesDone_52 : decode cX6_clausesDone 52 = .ok (.iadd, 1) := by decide +kernel
theorem dX6_clausesDone_53 : decode cX6_clausesDone 53 = .ok (.iadd, 1) := by decide +kernel
theorem dX6_clausesDone_54 : decode cX6_clausesDone 54 = .ok (.istore_n 2, 1) := by decide +kernel
theorem dX6_clausesDone_55 : decode cX6_clausesDone 55 = .ok (.iinc 3 1, 3) := by decide +kernel
theorem dX6_clausesDone_58 : decode cX6_clausesDone 58 = .ok (.goto (-52), 3) := by decide +kernel
theorem dX6_clausesDone_61 : decode cX6_clausesDone 61 = .ok (.iload_n 1, 1) := by decide +kernel
theorem dX6_clausesDone_62 : decode cX6_clausesDone 62 = .ok (.ireturn, 1) := by decide +kernel
theorem dX6_isClauseDone_0 : decode cX6_isClauseDone 0 = .ok (.aload_n 0, 1) := by decide +kernel
theorem dX6_isClauseDone_1 : decode cX6_isClauseDone 1 = .ok (.getfield 41, 3) := by decide +kernel
theorem dX6_isClauseDone_4 : decode cX6_isClauseDone 4 = .ok (.iload_n 1, 1) := by decide +kernel
theorem dX6_isClauseDone_5 : decode cX6_isClauseDone 5 = .ok (.iconst 1, 1) := by decide +kernel
theorem dX6_isClauseDone_6 : decode cX6_isClauseDone 6 = .ok (.iadd, 1) := by decide +kernel
theorem dX6_isClauseDone_7 : decode cX6_isClauseDone 7 = .ok (.invokevirtual 331, 3) := by decide +kernel
theorem dX6_isClauseDone_10 : decode cX6_isClauseDone 10 = .ok (.istore_n 2, 1) := by decide +kernel
theorem dX6_isClauseDone_11 : decode cX6_isClauseDone 11 = .ok (.aload_n 0, 1) := by decide +kernel
theorem dX6_isClauseDone_12 : decode cX6_isClauseDone 12 = .ok (.getfield 41, 3) := by decide +kernel
theorem dX6_isClauseDone_15 : decode cX6_isClauseDone 15 = .ok (.iload_n 1, 1) := by decide +kernel
theorem dX6_isClauseDone_16 : decode cX6_isClauseDone 16 = .ok (.iconst 2, 1) := by decide +kernel
theorem dX6_isClauseDone_17 : decode cX6_isClauseDone 17 = .ok (.iadd, 1) := by decide +kernel
theorem dX6_isClauseDone_18 : decode cX6_isClauseDone 18 = .ok (.invokevirtual 331, 3) := by decide +kernel
theorem dX6_isClauseDone_21 : decode cX6_isClauseDone 21 = .ok (.istore_n 3, 1) := by decide +kernel
theorem dX6_isClauseDone_22 : decode cX6_isClauseDone 22 = .ok (.aload_n 0, 1) := by decide +kernel
theorem dX6_isClauseDone_23 : decode cX6_isClauseDone 23 = .ok (.getfield 41, 3) := by decide +kernel
theorem dX6_isClauseDone_26 : decode cX6_isClauseDone 26 = .ok (.iload_n 1, 1) := by decide +kernel
theorem dX6_isClauseDone_27 : decode cX6_isClauseDone 27 = .ok (.iconst 3, 1) := by decide +kernel
theorem dX6_isClauseDone_28 : decode cX6_isClauseDone 28 = .ok (.iadd, 1) := by decide +kernel
theorem dX6_isClauseDone_29 : decode cX6_isClauseDone 29 = .ok (.invokevirtual 331, 3) := by decide +kernel
theorem dX6_isClauseDone_32 : decode cX6_isClauseDone 32 = .ok (.istore 4, 2) := by decide +kernel
theorem dX6_isClauseDone_34 : decode cX6_isClauseDone 34 = .ok (.aload_n 0, 1) := by decide +kernel
theorem dX6_isClauseDone_35 : decode cX6_isClauseDone 35 = .ok (.getfield 41, 3) := by decide +kernel
theorem dX6_isClauseDone_38 : decode cX6_isClauseDone 38 = .ok (.iload_n 1, 1) := by decide +kernel
theorem dX6_isClauseDone_39 : decode cX6_isClauseDone 39 = .ok (.invokevirtual 331, 3) := by decide +kernel
theorem dX6_isClauseDone_42 : decode cX6_isClauseDone 42 = .ok (.tableswitch 192 0 7 #[46, 73, 89, 108, 126, 144, 162, 179], 46) := by decide +kernel
theorem dX6_isClauseDone_88 : decode cX6_isClauseDone 88 = .ok (.aload_n 0, 1) := by decide +kernel
theorem dX6_isClauseDone_89 : decode cX6_isClauseDone 89 = .ok (.iload_n 2, 1) := by decide +kernel
theorem dX6_isClauseDone_90 : decode cX6_isClauseDone 90 = .ok (.iload_n 3, 1) := by decide +kernel
theorem dX6_isClauseDone_91 : decode cX6_isClauseDone 91 = .ok (.iload 4, 2) := by decide +kernel
theorem dX6_isClauseDone_93 : decode cX6_isClauseDone 93 = .ok (.aload_n 0, 1) := by decide +kernel
theorem dX6_isClauseDone_94 : decode cX6_isClauseDone 94 = .ok (.getfield 41, 3) := by decide +kernel
theorem dX6_isClauseDone_97 : decode cX6_isClauseDone 97 = .ok (.iload_n 1, 1) := by decide +kernel
theorem dX6_isClauseDone_98 : decode cX6_isClauseDone 98 = .ok (.iconst 4, 1) := by decide +kernel
theorem dX6_isClauseDone_99 : decode cX6_isClauseDone 99 = .ok (.iadd, 1) := by decide +kernel
theorem dX6_isClauseDone_100 : decode cX6_isClauseDone 100 = .ok (.invokevirtual 331, 3) := by decide +kernel
theorem dX6_isClauseDone_103 : decode cX6_isClauseDone 103 = .ok (.invokevirtual 337, 3) := by decide +kernel
theorem dX6_isClauseDone_106 : decode cX6_isClauseDone 106 = .ok (.ifCond .lt 7, 3) := by decide +kernel
theorem dX6_isClauseDone_109 : decode cX6_isClauseDone 109 = .ok (.iconst 1, 1) := by decide +kernel
theorem dX6_isClauseDone_110 : decode cX6_isClauseDone 110 = .ok (.goto 4, 3) := by decide +kernel
theorem dX6_isClauseDone_113 : decode cX6_isClauseDone 113 = .ok (.iconst 0, 1) := by decide +kernel
theorem dX6_isClauseDone_114 : decode cX6_isClauseDone 114 = .ok (.ireturn, 1) := by decide +kernel
theorem dX6_isClauseDone_115 : decode cX6_isClauseDone 115 = .ok (.aload_n 0, 1) := by decide +kernel
theorem dX6_isClauseDone_116 : decode cX6_isClauseDone 116 = .ok (.iload_n 2, 1) := by decide +kernel
theorem dX6_isClauseDone_117 : decode cX6_isClauseDone 117 = .ok (.iload_n 3, 1) := by decide +kernel
theorem dX6_isClauseDone_118 : decode cX6_isClauseDone 118 = .ok (.invokevirtual 339, 3) := by decide +kernel
theorem dX6_isClauseDone_121 : decode cX6_isClauseDone 121 = .ok (.iconst 1, 1) := by decide +kernel
theorem dX6_isClauseDone_122 : decode cX6_isClauseDone 122 = .ok (.if_icmp .ne 7, 3) := by decide +kernel
theorem dX6_isClauseDone_125 : decode cX6_isClauseDone 125 = .ok (.iconst 1, 1) := by decide +kernel
theorem dX6_isClauseDone_126 : decode cX6_isClauseDone 126 = .ok (.goto 4, 3) := by decide +kernel
theorem dX6_isClauseDone_129 : decode cX6_isClauseDone 129 = .ok (.iconst 0, 1) := by decide +kernel
theorem dX6_isClauseDone_130 : decode cX6_isClauseDone 130 = .ok (.ireturn, 1) := by decide +kernel
theorem dX6_isClauseDone_131 : decode cX6_isClauseDone 131 = .ok (.aload_n 0, 1) := by decide +kernel
theorem dX6_isClauseDone_132 : decode cX6_isClauseDone 132 = .ok (.iload_n 2, 1) := by decide +kernel
theorem dX6_isClauseDone_133 : decode cX6_isClauseDone 133 = .ok (.iconst 3, 1) := by decide +kernel
theorem dX6_isClauseDone_134 : decode cX6_isClauseDone 134 = .ok (.iload_n 3, 1) := by decide +kernel
theorem dX6_isClauseDone_135 : decode cX6_isClauseDone 135 = .ok (.invokevirtual 341, 3) := by decide +kernel
theorem dX6_isClauseDone_138 : decode cX6_isClauseDone 138 = .ok (.sipush (-1000), 3) := by decide +kernel
theorem dX6_isClauseDone_141 : decode cX6_isClauseDone 141 = .ok (.if_icmp .eq 7, 3) := by decide +kernel
theorem dX6_isClauseDone_144 : decode cX6_isClauseDone 144 = .ok (.iconst 1, 1) := by decide +kernel
theorem dX6_isClauseDone_145 : decode cX6_isClauseDone 145 = .ok (.goto 4, 3) := by decide +kernel
theorem dX6_isClauseDone_148 : decode cX6_isClauseDone 148 = .ok (.iconst 0, 1) := by decide +kernel
theorem dX6_isClauseDone_149 : decode cX6_isClauseDone 149 = .ok (.ireturn, 1) := by decide +kernel
theorem dX6_isClauseDone_150 : decode cX6_isClauseDone 150 = .ok (.aload_n 0, 1) := by decide +kernel
theorem dX6_isClauseDone_151 : decode cX6_isClauseDone 151 = .ok (.iconst 0, 1) := by decide +kernel
theorem dX6_isClauseDone_152 : decode cX6_isClauseDone 152 = .ok (.iload_n 2, 1) := by decide +kernel
theorem dX6_isClauseDone_153 : decode cX6_isClauseDone 153 = .ok (.invokevirtual 344, 3) := by decide +kernel
theorem dX6_isClauseDone_156 : decode cX6_isClauseDone 156 = .ok (.sipush (-1000), 3) := by decide +kernel
theorem dX6_isClauseDone_159 : decode cX6_isClauseDone 159 = .ok (.if_icmp .eq 7, 3) := by decide +kernel
theorem dX6_isClauseDone_162 : decode cX6_isClauseDone 162 = .ok (.iconst 1, 1) := by decide +kernel
theorem dX6_isClauseDone_163 : decode cX6_isClauseDone 163 = .ok (.goto 4, 3) := by decide +kernel
theorem dX6_isClauseDone_166 : decode cX6_isClauseDone 166 = .ok (.iconst 0, 1) := by decide +kernel
theorem dX6_isClauseDone_167 : decode cX6_isClauseDone 167 = .ok (.ireturn, 1) := by decide +kernel
theorem dX6_isClauseDone_168 : decode cX6_isClauseDone 168 = .ok (.aload_n 0, 1) := by decide +kernel
theorem dX6_isClauseDone_169 : decode cX6_isClauseDone 169 = .ok (.iconst 1, 1) := by decide +kernel
theorem dX6_isClauseDone_170 : decode cX6_isClauseDone 170 = .ok (.iload_n 2, 1) := by decide +kernel
theorem dX6_isClauseDone_171 : decode cX6_isClauseDone 171 = .ok (.invokevirtual 344, 3) := by decide +kernel
theorem dX6_isClauseDone_174 : decode cX6_isClauseDone 174 = .ok (.sipush (-1000), 3) := by decide +kernel
theorem dX6_isClauseDone_177 : decode cX6_isClauseDone 177 = .ok (.if_icmp .eq 7, 3) := by decide +kernel
theorem dX6_isClauseDone_180 : decode cX6_isClauseDone 180 = .ok (.iconst 1, 1) := by decide +kernel
theorem dX6_isClauseDone_181 : decode cX6_isClauseDone 181 = .ok (.goto 4, 3) := by decide +kernel
theorem dX6_isClauseDone_184 : decode cX6_isClauseDone 184 = .ok (.iconst 0, 1) := by decide +kernel
theorem dX6_isClauseDone_185 : decode cX6_isClauseDone 185 = .ok (.ireturn, 1) := by decide +kernel
theorem dX6_isClauseDone_186 : decode cX6_isClauseDone 186 = .ok (.aload_n 0, 1) := by decide +kernel
theorem dX6_isClauseDone_187 : decode cX6_isClauseDone 187 = .ok (.iconst 0, 1) := by decide +kernel
theorem dX6_isClauseDone_188 : decode cX6_isClauseDone 188 = .ok (.iload_n 2, 1) := by decide +kernel
theorem dX6_isClauseDone_189 : decode cX6_isClauseDone 189 = .ok (.invokevirtual 347, 3) := by decide +kernel
theorem dX6_isClauseDone_192 : decode cX6_isClauseDone 192 = .ok (.sipush (-1000), 3) := by decide +kernel
theorem dX6_isClauseDone_195 : decode cX6_isClauseDone 195 = .ok (.if_icmp .eq 7, 3) := by decide +kernel
theorem dX6_isClauseDone_198 : decode cX6_isClauseDone 198 = .ok (.iconst 1, 1) := by decide +kernel
theorem dX6_isClauseDone_199 : decode cX6_isClauseDone 199 = .ok (.goto 4, 3) := by decide +kernel
theorem dX6_isClauseDone_202 : decode cX6_isClauseDone 202 = .ok (.iconst 0, 1) := by decide +kernel
theorem dX6_isClauseDone_203 : decode cX6_isClauseDone 203 = .ok (.ireturn, 1) := by decide +kernel
theorem dX6_isClauseDone_204 : decode cX6_isClauseDone 204 = .ok (.aload_n 0, 1) := by decide +kernel
theorem dX6_isClauseDone_205 : decode cX6_isClauseDone 205 = .ok (.iload_n 2, 1) := by decide +kernel
theorem dX6_isClauseDone_206 : decode cX6_isClauseDone 206 = .ok (.iload_n 3, 1) := by decide +kernel
theorem dX6_isClauseDone_207 : decode cX6_isClauseDone 207 = .ok (.iload 4, 2) := by decide +kernel
theorem dX6_isClauseDone_209 : decode cX6_isClauseDone 209 = .ok (.invokevirtual 350, 3) := by decide +kernel
theorem dX6_isClauseDone_212 : decode cX6_isClauseDone 212 = .ok (.ifCond .lt 7, 3) := by decide +kernel
theorem dX6_isClauseDone_215 : decode cX6_isClauseDone 215 = .ok (.iconst 1, 1) := by decide +kernel
theorem dX6_isClauseDone_216 : decode cX6_isClauseDone 216 = .ok (.goto 4, 3) := by decide +kernel
theorem dX6_isClauseDone_219 : decode cX6_isClauseDone 219 = .ok (.iconst 0, 1) := by decide +kernel
theorem dX6_isClauseDone_220 : decode cX6_isClauseDone 220 = .ok (.ireturn, 1) := by decide +kernel
theorem dX6_isClauseDone_221 : decode cX6_isClauseDone 221 = .ok (.aload_n 0, 1) := by decide +kernel
theorem dX6_isClauseDone_222 : decode cX6_isClauseDone 222 = .ok (.invokevirtual 353, 3) := by decide +kernel
theorem dX6_isClauseDone_225 : decode cX6_isClauseDone 225 = .ok (.ifCond .lt 7, 3) := by decide +kernel
theorem dX6_isClauseDone_228 : decode cX6_isClauseDone 228 = .ok (.iconst 1, 1) := by decide +kernel
theorem dX6_isClauseDone_229 : decode cX6_isClauseDone 229 = .ok (.goto 4, 3) := by decide +kernel
theorem dX6_isClauseDone_232 : decode cX6_isClauseDone 232 = .ok (.iconst 0, 1) := by decide +kernel
theorem dX6_isClauseDone_233 : decode cX6_isClauseDone 233 = .ok (.ireturn, 1) := by decide +kernel
theorem dX6_isClauseDone_234 : decode cX6_isClauseDone 234 = .ok (.iconst 0, 1) := by decide +kernel
theorem dX6_isClauseDone_235 : decode cX6_isClauseDone 235 = .ok (.ireturn, 1) := by decide +kernel
theorem dX6_image_0 : decode cX6_image 0 = .ok (.aload_n 0, 1) := by decide +kernel
theorem dX6_image_1 : decode cX6_image 1 = .ok (.getfield 21, 3) := by decide +kernel
theorem dX6_image_4 : decode cX6_image 4 = .ok (.aload_n 0, 1) := by decide +kernel
theorem dX6_image_5 : decode cX6_image 5 = .ok (.getfield 12, 3) := by decide +kernel
theorem dX6_image_8 : decode cX6_image 8 = .ok (.invokevirtual 197, 3) := by decide +kernel
theorem dX6_image_11 : decode cX6_image 11 = .ok (.aload_n 0, 1) := by decide +kernel
theorem dX6_image_12 : decode cX6_image 12 = .ok (.iconst 1, 1) := by decide +kernel
theorem dX6_image_13 : decode cX6_image 13 = .ok (.putfield 49, 3) := by decide +kernel
theorem dX6_image_16 : decode cX6_image 16 = .ok (.aload_n 0, 1) := by decide +kernel
theorem dX6_image_17 : decode cX6_image 17 = .ok (.getfield 21, 3) := by decide +kernel
theorem dX6_image_20 : decode cX6_image 20 = .ok (.getfield 70, 3) := by decide +kernel
theorem dX6_image_23 : decode cX6_image 23 = .ok (.ireturn, 1) := by decide +kernel
theorem dX6_back_0 : decode cX6_back 0 = .ok (.aload_n 0, 1) := by decide +kernel
theorem dX6_back_1 : decode cX6_back 1 = .ok (.getfield 49, 3) := by decide +kernel
theorem dX6_back_4 : decode cX6_back 4 = .ok (.ifCond .ne 6, 3) := by decide +kernel
theorem dX6_back_7 : decode cX6_back 7 = .ok (.bipush (-3), 2) := by decide +kernel
theorem dX6_back_9 : decode cX6_back 9 = .ok (.ireturn, 1) := by decide +kernel
theorem dX6_back_10 : decode cX6_back 10 = .ok (.aload_n 0, 1) := by decide +kernel
theorem dX6_back_11 : decode cX6_back 11 = .ok (.getfield 12, 3) := by decide +kernel
theorem dX6_back_14 : decode cX6_back 14 = .ok (.aload_n 0, 1) := by decide +kernel
theorem dX6_back_15 : decode cX6_back 15 = .ok (.getfield 21, 3) := by decide +kernel
theorem dX6_back_18 : decode cX6_back 18 = .ok (.invokevirtual 197, 3) := by decide +kernel
theorem dX6_back_21 : decode cX6_back 21 = .ok (.aload_n 0, 1) := by decide +kernel
theorem dX6_back_22 : decode cX6_back 22 = .ok (.getfield 12, 3) := by decide +kernel
theorem dX6_back_25 : decode cX6_back 25 = .ok (.getfield 70, 3) := by decide +kernel
theorem dX6_back_28 : decode cX6_back 28 = .ok (.ireturn, 1) := by decide +kernel
theorem dX6_load_0 : decode cX6_load 0 = .ok (.iload_n 1, 1) := by decide +kernel
theorem dX6_load_1 : decode cX6_load 1 = .ok (.invokestatic 260, 3) := by decide +kernel
theorem dX6_load_4 : decode cX6_load 4 = .ok (.ifCond .eq 21, 3) := by decide +kernel
theorem dX6_load_7 : decode cX6_load 7 = .ok (.iload_n 2, 1) := by decide +kernel
theorem dX6_load_8 : decode cX6_load 8 = .ok (.invokestatic 134, 3) := by decide +kernel
theorem dX6_load_11 : decode cX6_load 11 = .ok (.ifCond .eq 14, 3) := by decide +kernel
theorem dX6_load_14 : decode cX6_load 14 = .ok (.iload 4, 2) := by decide +kernel
theorem dX6_load_16 : decode cX6_load 16 = .ok (.iconst 0, 1) := by decide +kernel
theorem dX6_load_17 : decode cX6_load 17 = .ok (.bipush 8, 2) := by decide +kernel
theorem dX6_load_19 : decode cX6_load 19 = .ok (.invokestatic 137, 3) := by decide +kernel
theorem dX6_load_22 : decode cX6_load 22 = .ok (.ifCond .ne 6, 3) := by decide +kernel
theorem dX6_load_25 : decode cX6_load 25 = .ok (.bipush (-2), 2) := by decide +kernel
theorem dX6_load_27 : decode cX6_load 27 = .ok (.ireturn, 1) := by decide +kernel
theorem dX6_load_28 : decode cX6_load 28 = .ok (.aload_n 0, 1) := by decide +kernel
theorem dX6_load_29 : decode cX6_load 29 = .ok (.getfield 34, 3) := by decide +kernel
theorem dX6_load_32 : decode cX6_load 32 = .ok (.iload_n 1, 1) := by decide +kernel
theorem dX6_load_33 : decode cX6_load 33 = .ok (.invokevirtual 263, 3) := by decide +kernel
theorem dX6_load_36 : decode cX6_load 36 = .ok (.ifCond .eq 6, 3) := by decide +kernel
theorem dX6_load_39 : decode cX6_load 39 = .ok (.bipush (-11), 2) := by decide +kernel
theorem dX6_load_41 : decode cX6_load 41 = .ok (.ireturn, 1) := by decide +kernel
theorem dX6_load_42 : decode cX6_load 42 = .ok (.aload_n 0, 1) := by decide +kernel
theorem dX6_load_43 : decode cX6_load 43 = .ok (.getfield 34, 3) := by decide +kernel
theorem dX6_load_46 : decode cX6_load 46 = .ok (.getfield 356, 3) := by decide +kernel
theorem dX6_load_49 : decode cX6_load 49 = .ok (.iload_n 1, 1) := by decide +kernel
theorem dX6_load_50 : decode cX6_load 50 = .ok (.iaload, 1) := by decide +kernel
theorem dX6_load_51 : decode cX6_load 51 = .ok (.iload_n 2, 1) := by decide +kernel
theorem dX6_load_52 : decode cX6_load 52 = .ok (.if_icmp .eq 6, 3) := by decide +kernel
theorem dX6_load_55 : decode cX6_load 55 = .ok (.bipush (-13), 2) := by decide +kernel
theorem dX6_load_57 : decode cX6_load 57 = .ok (.ireturn, 1) := by decide +kernel
theorem dX6_load_58 : decode cX6_load 58 = .ok (.iconst 0, 1) := by decide +kernel
theorem dX6_load_59 : decode cX6_load 59 = .ok (.istore 5, 2) := by decide +kernel
theorem dX6_load_61 : decode cX6_load 61 = .ok (.iconst 0, 1) := by decide +kernel
theorem dX6_load_62 : decode cX6_load 62 = .ok (.istore 6, 2) := by decide +kernel
theorem dX6_load_64 : decode cX6_load 64 = .ok (.iload 6, 2) := by decide +kernel
theorem dX6_load_66 : decode cX6_load 66 = .ok (.iload 4, 2) := by decide +kernel
theorem dX6_load_68 : decode cX6_load 68 = .ok (.if_icmp .ge 102, 3) := by decide +kernel
theorem dX6_load_71 : decode cX6_load 71 = .ok (.iload_n 3, 1) := by decide +kernel
theorem dX6_load_72 : decode cX6_load 72 = .ok (.iconst 4, 1) := by decide +kernel
theorem dX6_load_73 : decode cX6_load 73 = .ok (.iload 6, 2) := by decide +kernel
theorem dX6_load_75 : decode cX6_load 75 = .ok (.imul, 1) := by decide +kernel
theorem dX6_load_76 : decode cX6_load 76 = .ok (.iadd, 1) := by decide +kernel
theorem dX6_load_77 : decode cX6_load 77 = .ok (.istore 7, 2) := by decide +kernel
theorem dX6_load_79 : decode cX6_load 79 = .ok (.aload_n 0, 1) := by decide +kernel
theorem dX6_load_80 : decode cX6_load 80 = .ok (.getfield 34, 3) := by decide +kernel
theorem dX6_load_83 : decode cX6_load 83 = .ok (.iload_n 1, 1) := by decide +kernel
theorem dX6_load_84 : decode cX6_load 84 = .ok (.iload 7, 2) := by decide +kernel
theorem dX6_load_86 : decode cX6_load 86 = .ok (.invokevirtual 359, 3) := by decide +kernel
theorem dX6_load_89 : decode cX6_load 89 = .ok (.ifCond .eq 18, 3) := by decide +kernel
theorem dX6_load_92 : decode cX6_load 92 = .ok (.aload_n 0, 1) := by decide +kernel
theorem dX6_load_93 : decode cX6_load 93 = .ok (.getfield 34, 3) := by decide +kernel
theorem dX6_load_96 : decode cX6_load 96 = .ok (.iload_n 1, 1) := by decide +kernel
theorem dX6_load_97 : decode cX6_load 97 = .ok (.iload 7, 2) := by decide +kernel
theorem dX6_load_99 : decode cX6_load 99 = .ok (.iconst 3, 1) := by decide +kernel
theorem dX6_load_100 : decode cX6_load 100 = .ok (.iadd, 1) := by decide +kernel
theorem dX6_load_101 : decode cX6_load 101 = .ok (.invokevirtual 359, 3) := by decide +kernel
theorem dX6_load_104 : decode cX6_load 104 = .ok (.ifCond .ne 6, 3) := by decide +kernel
theorem dX6_load_107 : decode cX6_load 107 = .ok (.bipush (-12), 2) := by decide +kernel
theorem dX6_load_109 : decode cX6_load 109 = .ok (.ireturn, 1) := by decide +kernel
theorem dX6_load_110 : decode cX6_load 110 = .ok (.aload_n 0, 1) := by decide +kernel
theorem dX6_load_111 : decode cX6_load 111 = .ok (.getfield 34, 3) := by decide +kernel
theorem dX6_load_114 : decode cX6_load 114 = .ok (.getfield 280, 3) := by decide +kernel
theorem dX6_load_117 : decode cX6_load 117 = .ok (.iload_n 1, 1) := by decide +kernel
theorem dX6_load_118 : decode cX6_load 118 = .ok (.aaload, 1) := by decide +kernel
theorem dX6_load_119 : decode cX6_load 119 = .ok (.astore 8, 2) := by decide +kernel
theorem dX6_load_121 : decode cX6_load 121 = .ok (.iload 5, 2) := by decide +kernel
theorem dX6_load_123 : decode cX6_load 123 = .ok (.aload_n 0, 1) := by decide +kernel
theorem dX6_load_124 : decode cX6_load 124 = .ok (.aload 8, 2) := by decide +kernel
theorem dX6_load_126 : decode cX6_load 126 = .ok (.iload 7, 2) := by decide +kernel
theorem dX6_load_128 : decode cX6_load 128 = .ok (.iaload, 1) := by decide +kernel
theorem dX6_load_129 : decode cX6_load 129 = .ok (.aload 8, 2) := by decide +kernel
theorem dX6_load_131 : decode cX6_load 131 = .ok (.iload 7, 2) := by decide +kernel
theorem dX6_load_133 : decode cX6_load 133 = .ok (.iconst 1, 1) := by decide +kernel
theorem dX6_load_134 : decode cX6_load 134 = .ok (.iadd, 1) := by decide +kernel
theorem dX6_load_135 : decode cX6_load 135 = .ok (.iaload, 1) := by decide +kernel
theorem dX6_load_136 : decode cX6_load 136 = .ok (.aload 8, 2) := by decide +kernel
theorem dX6_load_138 : decode cX6_load 138 = .ok (.iload 7, 2) := by decide +kernel
theorem dX6_load_140 : decode cX6_load 140 = .ok (.iconst 2, 1) := by decide +kernel
theorem dX6_load_141 : decode cX6_load 141 = .ok (.iadd, 1) := by decide +kernel
theorem dX6_load_142 : decode cX6_load 142 = .ok (.iaload, 1) := by decide +kernel
theorem dX6_load_143 : decode cX6_load 143 = .ok (.aload 8, 2) := by decide +kernel
theorem dX6_load_145 : decode cX6_load 145 = .ok (.iload 7, 2) := by decide +kernel
theorem dX6_load_147 : decode cX6_load 147 = .ok (.iconst 3, 1) := by decide +kernel
theorem dX6_load_148 : decode cX6_load 148 = .ok (.iadd, 1) := by decide +kernel
theorem dX6_load_149 : decode cX6_load 149 = .ok (.iaload, 1) := by decide +kernel
theorem dX6_load_150 : decode cX6_load 150 = .ok (.invokevirtual 337, 3) := by decide +kernel
theorem dX6_load_153 : decode cX6_load 153 = .ok (.ifCond .lt 7, 3) := by decide +kernel
theorem dX6_load_156 : decode cX6_load 156 = .ok (.iconst 1, 1) := by decide +kernel
theorem dX6_load_157 : decode cX6_load 157 = .ok (.goto 4, 3) := by decide +kernel
theorem dX6_load_160 : decode cX6_load 160 = .ok (.iconst 0, 1) := by decide +kernel
theorem dX6_load_161 : decode cX6_load 161 = .ok (.iadd, 1) := by decide +kernel
theorem dX6_load_162 : decode cX6_load 162 = .ok (.istore 5, 2) := by decide +kernel
theorem dX6_load_164 : decode cX6_load 164 = .ok (.iinc 6 1, 3) := by decide +kernel
theorem dX6_load_167 : decode cX6_load 167 = .ok (.goto (-103), 3) := by decide +kernel
theorem dX6_load_170 : decode cX6_load 170 = .ok (.iload 5, 2) := by decide +kernel
theorem dX6_load_172 : decode cX6_load 172 = .ok (.ireturn, 1) := by decide +kernel
theorem dX6_count_0 : decode cX6_count 0 = .ok (.iload_n 1, 1) := by decide +kernel
theorem dX6_count_1 : decode cX6_count 1 = .ok (.tableswitch 126 0 5 #[39, 47, 58, 66, 90, 108], 39) := by decide +kernel
theorem dX6_count_40 : decode cX6_count 40 = .ok (.aload_n 0, 1) := by decide +kernel
theorem dX6_count_41 : decode cX6_count 41 = .ok (.getfield 12, 3) := by decide +kernel
theorem dX6_count_44 : decode cX6_count 44 = .ok (.getfield 70, 3) := by decide +kernel
theorem dX6_count_47 : decode cX6_count 47 = .ok (.ireturn, 1) := by decide +kernel
theorem dX6_count_48 : decode cX6_count 48 = .ok (.aload_n 0, 1) := by decide +kernel
theorem dX6_count_49 : decode cX6_count 49 = .ok (.getfield 12, 3) := by decide +kernel
theorem dX6_count_52 : decode cX6_count 52 = .ok (.getfield 215, 3) := by decide +kernel
theorem dX6_count_55 : decode cX6_count 55 = .ok (.getfield 224, 3) := by decide +kernel
theorem dX6_count_58 : decode cX6_count 58 = .ok (.ireturn, 1) := by decide +kernel
theorem dX6_count_59 : decode cX6_count 59 = .ok (.aload_n 0, 1) := by decide +kernel
theorem dX6_count_60 : decode cX6_count 60 = .ok (.getfield 41, 3) := by decide +kernel
theorem dX6_count_63 : decode cX6_count 63 = .ok (.getfield 316, 3) := by decide +kernel
theorem dX6_count_66 : decode cX6_count 66 = .ok (.ireturn, 1) := by decide +kernel
theorem dX6_count_67 : decode cX6_count 67 = .ok (.aload_n 0, 1) := by decide +kernel
theorem dX6_count_68 : decode cX6_count 68 = .ok (.getfield 12, 3) := by decide +kernel
theorem dX6_count_71 : decode cX6_count 71 = .ok (.getfield 215, 3) := by decide +kernel
theorem dX6_count_74 : decode cX6_count 74 = .ok (.getfield 233, 3) := by decide +kernel
theorem dX6_count_77 : decode cX6_count 77 = .ok (.aload_n 0, 1) := by decide +kernel
theorem dX6_count_78 : decode cX6_count 78 = .ok (.getfield 12, 3) := by decide +kernel
theorem dX6_count_81 : decode cX6_count 81 = .ok (.getfield 215, 3) := by decide +kernel
theorem dX6_count_84 : decode cX6_count 84 = .ok (.getfield 224, 3) := by decide +kernel
theorem dX6_count_87 : decode cX6_count 87 = .ok (.invokestatic 361, 3) := by decide +kernel
theorem dX6_count_90 : decode cX6_count 90 = .ok (.ireturn, 1) := by decide +kernel
theorem dX6_count_91 : decode cX6_count 91 = .ok (.aload_n 0, 1) := by decide +kernel
theorem dX6_count_92 : decode cX6_count 92 = .ok (.getfield 12, 3) := by decide +kernel
theorem dX6_count_95 : decode cX6_count 95 = .ok (.getfield 118, 3) := by decide +kernel
theorem dX6_count_98 : decode cX6_count 98 = .ok (.aload_n 0, 1) := by decide +kernel
theorem dX6_count_99 : decode cX6_count 99 = .ok (.getfield 12, 3) := by decide +kernel
theorem dX6_count_102 : decode cX6_count 102 = .ok (.getfield 70, 3) := by decide +kernel
theorem dX6_count_105 : decode cX6_count 105 = .ok (.invokestatic 361, 3) := by decide +kernel
theorem dX6_count_108 : decode cX6_count 108 = .ok (.ireturn, 1) := by decide +kernel
theorem dX6_count_109 : decode cX6_count 109 = .ok (.aload_n 0, 1) := by decide +kernel
theorem dX6_count_110 : decode cX6_count 110 = .ok (.getfield 12, 3) := by decide +kernel
theorem dX6_count_113 : decode cX6_count 113 = .ok (.getfield 109, 3) := by decide +kernel
theorem dX6_count_116 : decode cX6_count 116 = .ok (.aload_n 0, 1) := by decide +kernel
theorem dX6_count_117 : decode cX6_count 117 = .ok (.getfield 12, 3) := by decide +kernel
theorem dX6_count_120 : decode cX6_count 120 = .ok (.getfield 70, 3) := by decide +kernel
theorem dX6_count_123 : decode cX6_count 123 = .ok (.invokestatic 361, 3) := by decide +kernel
theorem dX6_count_126 : decode cX6_count 126 = .ok (.ireturn, 1) := by decide +kernel
theorem dX6_count_127 : decode cX6_count 127 = .ok (.sipush (-1000), 3) := by decide +kernel
theorem dX6_count_130 : decode cX6_count 130 = .ok (.ireturn, 1) := by decide +kernel
theorem dX6_sheet_0 : decode cX6_sheet 0 = .ok (.iload_n 1, 1) := by decide +kernel
theorem dX6_sheet_1 : decode cX6_sheet 1 = .ok (.invokestatic 260, 3) := by decide +kernel
theorem dX6_sheet_4 : decode cX6_sheet 4 = .ok (.ifCond .eq 12, 3) := by decide +kernel
theorem dX6_sheet_7 : decode cX6_sheet 7 = .ok (.iload_n 2, 1) := by decide +kernel
theorem dX6_sheet_8 : decode cX6_sheet 8 = .ok (.iconst (-1), 1) := by decide +kernel
theorem dX6_sheet_9 : decode cX6_sheet 9 = .ok (.iconst 1, 1) := by decide +kernel
theorem dX6_sheet_10 : decode cX6_sheet 10 = .ok (.invokestatic 137, 3) := by decide +kernel
theorem dX6_sheet_13 : decode cX6_sheet 13 = .ok (.ifCond .ne 6, 3) := by decide +kernel
theorem dX6_sheet_16 : decode cX6_sheet 16 = .ok (.bipush (-2), 2) := by decide +kernel
theorem dX6_sheet_18 : decode cX6_sheet 18 = .ok (.ireturn, 1) := by decide +kernel
theorem dX6_sheet_19 : decode cX6_sheet 19 = .ok (.iload_n 2, 1) := by decide +kernel
theorem dX6_sheet_20 : decode cX6_sheet 20 = .ok (.iconst (-1), 1) := by decide +kernel
theorem dX6_sheet_21 : decode cX6_sheet 21 = .ok (.if_icmp .ne 15, 3) := by decide +kernel
theorem dX6_sheet_24 : decode cX6_sheet 24 = .ok (.aload_n 0, 1) := by decide +kernel
theorem dX6_sheet_25 : decode cX6_sheet 25 = .ok (.getfield 34, 3) := by decide +kernel
theorem dX6_sheet_28 : decode cX6_sheet 28 = .ok (.iload_n 1, 1) := by decide +kernel
theorem dX6_sheet_29 : decode cX6_sheet 29 = .ok (.iconst (-1), 1) := by decide +kernel
theorem dX6_sheet_30 : decode cX6_sheet 30 = .ok (.iconst 0, 1) := by decide +kernel
theorem dX6_sheet_31 : decode cX6_sheet 31 = .ok (.invokevirtual 296, 3) := by decide +kernel
theorem dX6_sheet_34 : decode cX6_sheet 34 = .ok (.iconst 1, 1) := by decide +kernel
theorem dX6_sheet_35 : decode cX6_sheet 35 = .ok (.ireturn, 1) := by decide +kernel
theorem dX6_sheet_36 : decode cX6_sheet 36 = .ok (.iload_n 3, 1) := by decide +kernel
theorem dX6_sheet_37 : decode cX6_sheet 37 = .ok (.bipush 40, 2) := by decide +kernel
theorem dX6_sheet_39 : decode cX6_sheet 39 = .ok (.if_icmp .le 6, 3) := by decide +kernel
theorem dX6_sheet_42 : decode cX6_sheet 42 = .ok (.bipush (-2), 2) := by decide +kernel
theorem dX6_sheet_44 : decode cX6_sheet 44 = .ok (.ireturn, 1) := by decide +kernel
theorem dX6_sheet_45 : decode cX6_sheet 45 = .ok (.iload_n 3, 1) := by decide +kernel
theorem dX6_sheet_46 : decode cX6_sheet 46 = .ok (.ifCond .ge 6, 3) := by decide +kernel
theorem dX6_sheet_49 : decode cX6_sheet 49 = .ok (.bipush (-14), 2) := by decide +kernel
theorem dX6_sheet_51 : decode cX6_sheet 51 = .ok (.ireturn, 1) := by decide +kernel
theorem dX6_sheet_52 : decode cX6_sheet 52 = .ok (.aload_n 0, 1) := by decide +kernel
theorem dX6_sheet_53 : decode cX6_sheet 53 = .ok (.getfield 34, 3) := by decide +kernel
theorem dX6_sheet_56 : decode cX6_sheet 56 = .ok (.iload_n 1, 1) := by decide +kernel
theorem dX6_sheet_57 : decode cX6_sheet 57 = .ok (.iload_n 2, 1) := by decide +kernel
theorem dX6_sheet_58 : decode cX6_sheet 58 = .ok (.iload_n 3, 1) := by decide +kernel
theorem dX6_sheet_59 : decode cX6_sheet 59 = .ok (.invokevirtual 296, 3) := by decide +kernel
theorem dX6_sheet_62 : decode cX6_sheet 62 = .ok (.iconst 1, 1) := by decide +kernel
theorem dX6_sheet_63 : decode cX6_sheet 63 = .ok (.ireturn, 1) := by decide +kernel
theorem dX6_put_0 : decode cX6_put 0 = .ok (.iload_n 1, 1) := by decide +kernel
theorem dX6_put_1 : decode cX6_put 1 = .ok (.invokestatic 260, 3) := by decide +kernel
theorem dX6_put_4 : decode cX6_put 4 = .ok (.ifCond .ne 6, 3) := by decide +kernel
theorem dX6_put_7 : decode cX6_put 7 = .ok (.bipush (-2), 2) := by decide +kernel
theorem dX6_put_9 : decode cX6_put 9 = .ok (.ireturn, 1) := by decide +kernel
theorem dX6_put_10 : decode cX6_put 10 = .ok (.aload_n 0, 1) := by decide +kernel
theorem dX6_put_11 : decode cX6_put 11 = .ok (.getfield 34, 3) := by decide +kernel
theorem dX6_put_14 : decode cX6_put 14 = .ok (.iload_n 1, 1) := by decide +kernel
theorem dX6_put_15 : decode cX6_put 15 = .ok (.invokevirtual 263, 3) := by decide +kernel
theorem dX6_put_18 : decode cX6_put 18 = .ok (.ifCond .eq 6, 3) := by decide +kernel
theorem dX6_put_21 : decode cX6_put 21 = .ok (.bipush (-11), 2) := by decide +kernel
theorem dX6_put_23 : decode cX6_put 23 = .ok (.ireturn, 1) := by decide +kernel
theorem dX6_put_24 : decode cX6_put 24 = .ok (.aload_n 0, 1) := by decide +kernel
theorem dX6_put_25 : decode cX6_put 25 = .ok (.getfield 34, 3) := by decide +kernel
theorem dX6_put_28 : decode cX6_put 28 = .ok (.iload_n 1, 1) := by decide +kernel
theorem dX6_put_29 : decode cX6_put 29 = .ok (.iload_n 2, 1) := by decide +kernel
theorem dX6_put_30 : decode cX6_put 30 = .ok (.invokevirtual 359, 3) := by decide +kernel
theorem dX6_put_33 : decode cX6_put 33 = .ok (.ifCond .ne 6, 3) := by decide +kernel
theorem dX6_put_36 : decode cX6_put 36 = .ok (.bipush (-12), 2) := by decide +kernel
theorem dX6_put_38 : decode cX6_put 38 = .ok (.ireturn, 1) := by decide +kernel
theorem dX6_put_39 : decode cX6_put 39 = .ok (.aload_n 0, 1) := by decide +kernel
theorem dX6_put_40 : decode cX6_put 40 = .ok (.getfield 34, 3) := by decide +kernel
theorem dX6_put_43 : decode cX6_put 43 = .ok (.getfield 280, 3) := by decide +kernel
theorem dX6_put_46 : decode cX6_put 46 = .ok (.iload_n 1, 1) := by decide +kernel
theorem dX6_put_47 : decode cX6_put 47 = .ok (.aaload, 1) := by decide +kernel
theorem dX6_put_48 : decode cX6_put 48 = .ok (.iload_n 2, 1) := by decide +kernel
theorem dX6_put_49 : decode cX6_put 49 = .ok (.aload_n 0, 1) := by decide +kernel
theorem dX6_put_50 : decode cX6_put 50 = .ok (.getfield 34, 3) := by decide +kernel
theorem dX6_put_53 : decode cX6_put 53 = .ok (.getfield 356, 3) := by decide +kernel
theorem dX6_put_56 : decode cX6_put 56 = .ok (.iload_n 1, 1) := by decide +kernel
theorem dX6_put_57 : decode cX6_put 57 = .ok (.iaload, 1) := by decide +kernel
theorem dX6_put_58 : decode cX6_put 58 = .ok (.ifCond .ne 8, 3) := by decide +kernel
theorem dX6_put_61 : decode cX6_put 61 = .ok (.iload_n 3, 1) := by decide +kernel
theorem dX6_put_62 : decode cX6_put 62 = .ok (.i2s, 1) := by decide +kernel
theorem dX6_put_63 : decode cX6_put 63 = .ok (.goto 4, 3) := by decide +kernel
theorem dX6_put_66 : decode cX6_put 66 = .ok (.iload_n 3, 1) := by decide +kernel
theorem dX6_put_67 : decode cX6_put 67 = .ok (.iastore, 1) := by decide +kernel
theorem dX6_put_68 : decode cX6_put 68 = .ok (.iconst 1, 1) := by decide +kernel
theorem dX6_put_69 : decode cX6_put 69 = .ok (.ireturn, 1) := by decide +kernel
theorem dX6_copy_0 : decode cX6_copy 0 = .ok (.iload_n 1, 1) := by decide +kernel
theorem dX6_copy_1 : decode cX6_copy 1 = .ok (.invokestatic 260, 3) := by decide +kernel
theorem dX6_copy_4 : decode cX6_copy 4 = .ok (.ifCond .eq 10, 3) := by decide +kernel
theorem dX6_copy_7 : decode cX6_copy 7 = .ok (.iload_n 3, 1) := by decide +kernel
theorem dX6_copy_8 : decode cX6_copy 8 = .ok (.invokestatic 260, 3) := by decide +kernel
theorem dX6_copy_11 : decode cX6_copy 11 = .ok (.ifCond .ne 6, 3) := by decide +kernel
theorem dX6_copy_14 : decode cX6_copy 14 = .ok (.bipush (-2), 2) := by decide +kernel
theorem dX6_copy_16 : decode cX6_copy 16 = .ok (.ireturn, 1) := by decide +kernel
theorem dX6_copy_17 : decode cX6_copy 17 = .ok (.aload_n 0, 1) := by decide +kernel
theorem dX6_copy_18 : decode cX6_copy 18 = .ok (.getfield 34, 3) := by decide +kernel
theorem dX6_copy_21 : decode cX6_copy 21 = .ok (.iload_n 1, 1) := by decide +kernel
theorem dX6_copy_22 : decode cX6_copy 22 = .ok (.invokevirtual 263, 3) := by decide +kernel
theorem dX6_copy_25 : decode cX6_copy 25 = .ok (.ifCond .ne 14, 3) := by decide +kernel
theorem dX6_copy_28 : decode cX6_copy 28 = .ok (.aload_n 0, 1) := by decide +kernel
theorem dX6_copy_29 : decode cX6_copy 29 = .ok (.getfield 34, 3) := by decide +kernel
theorem dX6_copy_32 : decode cX6_copy 32 = .ok (.iload_n 3, 1) := by decide +kernel
theorem dX6_copy_33 : decode cX6_copy 33 = .ok (.invokevirtual 263, 3) := by decide +kernel
theorem dX6_copy_36 : decode cX6_copy 36 = .ok (.ifCond .eq 6, 3) := by decide +kernel
theorem dX6_copy_39 : decode cX6_copy 39 = .ok (.bipush (-11), 2) := by decide +kernel
theorem dX6_copy_41 : decode cX6_copy 41 = .ok (.ireturn, 1) := by decide +kernel
theorem dX6_copy_42 : decode cX6_copy 42 = .ok (.aload_n 0, 1) := by decide +kernel
theorem dX6_copy_43 : decode cX6_copy 43 = .ok (.getfield 34, 3) := by decide +kernel
theorem dX6_copy_46 : decode cX6_copy 46 = .ok (.getfield 356, 3) := by decide +kernel
theorem dX6_copy_49 : decode cX6_copy 49 = .ok (.iload_n 1, 1) := by decide +kernel
theorem dX6_copy_50 : decode cX6_copy 50 = .ok (.iaload, 1) := by decide +kernel
theorem dX6_copy_51 : decode cX6_copy 51 = .ok (.aload_n 0, 1) := by decide +kernel
theorem dX6_copy_52 : decode cX6_copy 52 = .ok (.getfield 34, 3) := by decide +kernel
theorem dX6_copy_55 : decode cX6_copy 55 = .ok (.getfield 356, 3) := by decide +kernel
theorem dX6_copy_58 : decode cX6_copy 58 = .ok (.iload_n 3, 1) := by decide +kernel
theorem dX6_copy_59 : decode cX6_copy 59 = .ok (.iaload, 1) := by decide +kernel
theorem dX6_copy_60 : decode cX6_copy 60 = .ok (.if_icmp .eq 6, 3) := by decide +kernel
theorem dX6_copy_63 : decode cX6_copy 63 = .ok (.bipush (-13), 2) := by decide +kernel
theorem dX6_copy_65 : decode cX6_copy 65 = .ok (.ireturn, 1) := by decide +kernel
theorem dX6_copy_66 : decode cX6_copy 66 = .ok (.aload_n 0, 1) := by decide +kernel
theorem dX6_copy_67 : decode cX6_copy 67 = .ok (.getfield 34, 3) := by decide +kernel
theorem dX6_copy_70 : decode cX6_copy 70 = .ok (.iload_n 1, 1) := by decide +kernel
theorem dX6_copy_71 : decode cX6_copy 71 = .ok (.iload_n 2, 1) := by decide +kernel
theorem dX6_copy_72 : decode cX6_copy 72 = .ok (.iload 5, 2) := by decide +kernel
theorem dX6_copy_74 : decode cX6_copy 74 = .ok (.invokevirtual 365, 3) := by decide +kernel
theorem dX6_copy_77 : decode cX6_copy 77 = .ok (.ifCond .eq 18, 3) := by decide +kernel
theorem dX6_copy_80 : decode cX6_copy 80 = .ok (.aload_n 0, 1) := by decide +kernel
theorem dX6_copy_81 : decode cX6_copy 81 = .ok (.getfield 34, 3) := by decide +kernel
theorem dX6_copy_84 : decode cX6_copy 84 = .ok (.iload_n 3, 1) := by decide +kernel
theorem dX6_copy_85 : decode cX6_copy 85 = .ok (.iload 4, 2) := by decide +kernel
theorem dX6_copy_87 : decode cX6_copy 87 = .ok (.iload 5, 2) := by decide +kernel
theorem dX6_copy_89 : decode cX6_copy 89 = .ok (.invokevirtual 365, 3) := by decide +kernel
theorem dX6_copy_92 : decode cX6_copy 92 = .ok (.ifCond .ne 6, 3) := by decide +kernel
theorem dX6_copy_95 : decode cX6_copy 95 = .ok (.bipush (-12), 2) := by decide +kernel
theorem dX6_copy_97 : decode cX6_copy 97 = .ok (.ireturn, 1) := by decide +kernel
theorem dX6_copy_98 : decode cX6_copy 98 = .ok (.aload_n 0, 1) := by decide +kernel
theorem dX6_copy_99 : decode cX6_copy 99 = .ok (.getfield 34, 3) := by decide +kernel
theorem dX6_copy_102 : decode cX6_copy 102 = .ok (.getfield 280, 3) := by decide +kernel
theorem dX6_copy_105 : decode cX6_copy 105 = .ok (.iload_n 1, 1) := by decide +kernel
theorem dX6_copy_106 : decode cX6_copy 106 = .ok (.aaload, 1) := by decide +kernel
theorem dX6_copy_107 : decode cX6_copy 107 = .ok (.iload_n 2, 1) := by decide +kernel
theorem dX6_copy_108 : decode cX6_copy 108 = .ok (.aload_n 0, 1) := by decide +kernel
theorem dX6_copy_109 : decode cX6_copy 109 = .ok (.getfield 34, 3) := by decide +kernel
theorem dX6_copy_112 : decode cX6_copy 112 = .ok (.getfield 280, 3) := by decide +kernel
theorem dX6_copy_115 : decode cX6_copy 115 = .ok (.iload_n 3, 1) := by decide +kernel
theorem dX6_copy_116 : decode cX6_copy 116 = .ok (.aaload, 1) := by decide +kernel
theorem dX6_copy_117 : decode cX6_copy 117 = .ok (.iload 4, 2) := by decide +kernel
theorem dX6_copy_119 : decode cX6_copy 119 = .ok (.iload 5, 2) := by decide +kernel
theorem dX6_copy_121 : decode cX6_copy 121 = .ok (.invokestatic 300, 3) := by decide +kernel
theorem dX6_copy_124 : decode cX6_copy 124 = .ok (.iload 5, 2) := by decide +kernel
theorem dX6_copy_126 : decode cX6_copy 126 = .ok (.ireturn, 1) := by decide +kernel
theorem dX6_between_0 : decode cX6_between 0 = .ok (.iload_n 0, 1) := by decide +kernel
theorem dX6_between_1 : decode cX6_between 1 = .ok (.iload_n 1, 1) := by decide +kernel
theorem dX6_between_2 : decode cX6_between 2 = .ok (.if_icmp .lt 12, 3) := by decide +kernel
theorem dX6_between_5 : decode cX6_between 5 = .ok (.iload_n 0, 1) := by decide +kernel
theorem dX6_between_6 : decode cX6_between 6 = .ok (.iload_n 2, 1) := by decide +kernel
theorem dX6_between_7 : decode cX6_between 7 = .ok (.if_icmp .gt 7, 3) := by decide +kernel
theorem dX6_between_10 : decode cX6_between 10 = .ok (.iconst 1, 1) := by decide +kernel
theorem dX6_between_11 : decode cX6_between 11 = .ok (.goto 4, 3) := by decide +kernel
theorem dX6_between_14 : decode cX6_between 14 = .ok (.iconst 0, 1) := by decide +kernel
theorem dX6_between_15 : decode cX6_between 15 = .ok (.ireturn, 1) := by decide +kernel
theorem dX6_isKind_0 : decode cX6_isKind 0 = .ok (.iload_n 0, 1) := by decide +kernel
theorem dX6_isKind_1 : decode cX6_isKind 1 = .ok (.iconst 0, 1) := by decide +kernel
theorem dX6_isKind_2 : decode cX6_isKind 2 = .ok (.iconst 5, 1) := by decide +kernel
theorem dX6_isKind_3 : decode cX6_isKind 3 = .ok (.invokestatic 137, 3) := by decide +kernel
theorem dX6_isKind_6 : decode cX6_isKind 6 = .ok (.ireturn, 1) := by decide +kernel
theorem dX6_isK_0 : decode cX6_isK 0 = .ok (.iload_n 0, 1) := by decide +kernel
theorem dX6_isK_1 : decode cX6_isK 1 = .ok (.iconst 1, 1) := by decide +kernel
theorem dX6_isK_2 : decode cX6_isK 2 = .ok (.bipush 9, 2) := by decide +kernel
theorem dX6_isK_4 : decode cX6_isK 4 = .ok (.invokestatic 137, 3) := by decide +kernel
theorem dX6_isK_7 : decode cX6_isK 7 = .ok (.ireturn, 1) := by decide +kernel
theorem dX6_isC_0 : decode cX6_isC 0 = .ok (.iload_n 0, 1) := by decide +kernel
theorem dX6_isC_1 : decode cX6_isC 1 = .ok (.iconst 1, 1) := by decide +kernel
theorem dX6_isC_2 : decode cX6_isC 2 = .ok (.iconst 4, 1) := by decide +kernel
theorem dX6_isC_3 : decode cX6_isC 3 = .ok (.invokestatic 137, 3) := by decide +kernel
theorem dX6_isC_6 : decode cX6_isC 6 = .ok (.ireturn, 1) := by decide +kernel
theorem dX6_isSource_0 : decode cX6_isSource 0 = .ok (.iload_n 0, 1) := by decide +kernel
theorem dX6_isSource_1 : decode cX6_isSource 1 = .ok (.bipush (-9), 2) := by decide +kernel
theorem dX6_isSource_3 : decode cX6_isSource 3 = .ok (.bipush 9, 2) := by decide +kernel
theorem dX6_isSource_5 : decode cX6_isSource 5 = .ok (.invokestatic 137, 3) := by decide +kernel
theorem dX6_isSource_8 : decode cX6_isSource 8 = .ok (.ireturn, 1) := by decide +kernel
theorem dX6_isHeat_0 : decode cX6_isHeat 0 = .ok (.iload_n 0, 1) := by decide +kernel
theorem dX6_isHeat_1 : decode cX6_isHeat 1 = .ok (.iconst 0, 1) := by decide +kernel
theorem dX6_isHeat_2 : decode cX6_isHeat 2 = .ok (.sipush 999, 3) := by decide +kernel
theorem dX6_isHeat_5 : decode cX6_isHeat 5 = .ok (.invokestatic 137, 3) := by decide +kernel
theorem dX6_isHeat_8 : decode cX6_isHeat 8 = .ok (.ireturn, 1) := by decide +kernel
theorem dX6_isBit_0 : decode cX6_isBit 0 = .ok (.iload_n 0, 1) := by decide +kernel
theorem dX6_isBit_1 : decode cX6_isBit 1 = .ok (.ifCond .eq 8, 3) := by decide +kernel
theorem dX6_isBit_4 : decode cX6_isBit 4 = .ok (.iload_n 0, 1) := by decide +kernel
theorem dX6_isBit_5 : decode cX6_isBit 5 = .ok (.iconst 1, 1) := by decide +kernel
theorem dX6_isBit_6 : decode cX6_isBit 6 = .ok (.if_icmp .ne 7, 3) := by decide +kernel
theorem dX6_isBit_9 : decode cX6_isBit 9 = .ok (.iconst 1, 1) := by decide +kernel
theorem dX6_isBit_10 : decode cX6_isBit 10 = .ok (.goto 4, 3) := by decide +kernel
theorem dX6_isBit_13 : decode cX6_isBit 13 = .ok (.iconst 0, 1) := by decide +kernel
theorem dX6_isBit_14 : decode cX6_isBit 14 = .ok (.ireturn, 1) := by decide +kernel
theorem dX6_isByte_0 : decode cX6_isByte 0 = .ok (.iload_n 0, 1) := by decide +kernel
theorem dX6_isByte_1 : decode cX6_isByte 1 = .ok (.iconst 0, 1) := by decide +kernel
theorem dX6_isByte_2 : decode cX6_isByte 2 = .ok (.sipush 255, 3) := by decide +kernel
theorem dX6_isByte_5 : decode cX6_isByte 5 = .ok (.invokestatic 137, 3) := by decide +kernel
theorem dX6_isByte_8 : decode cX6_isByte 8 = .ok (.ireturn, 1) := by decide +kernel
theorem dX6_isSheet_0 : decode cX6_isSheet 0 = .ok (.iload_n 0, 1) := by decide +kernel
theorem dX6_isSheet_1 : decode cX6_isSheet 1 = .ok (.iconst 0, 1) := by decide +kernel
theorem dX6_isSheet_2 : decode cX6_isSheet 2 = .ok (.iconst 3, 1) := by decide +kernel
theorem dX6_isSheet_3 : decode cX6_isSheet 3 = .ok (.invokestatic 137, 3) := by decide +kernel
theorem dX6_isSheet_6 : decode cX6_isSheet 6 = .ok (.ireturn, 1) := by decide +kernel
theorem dX6_quotient_0 : decode cX6_quotient 0 = .ok (.lload_n 2, 1) := by decide +kernel
theorem dX6_quotient_1 : decode cX6_quotient 1 = .ok (.lconst 0, 1) := by decide +kernel
theorem dX6_quotient_2 : decode cX6_quotient 2 = .ok (.lcmp, 1) := by decide +kernel
theorem dX6_quotient_3 : decode cX6_quotient 3 = .ok (.ifCond .ne 7, 3) := by decide +kernel
theorem dX6_quotient_6 : decode cX6_quotient 6 = .ok (.lconst 0, 1) := by decide +kernel
theorem dX6_quotient_7 : decode cX6_quotient 7 = .ok (.goto 6, 3) := by decide +kernel
theorem dX6_quotient_10 : decode cX6_quotient 10 = .ok (.lload_n 0, 1) := by decide +kernel
theorem dX6_quotient_11 : decode cX6_quotient 11 = .ok (.lload_n 2, 1) := by decide +kernel
theorem dX6_quotient_12 : decode cX6_quotient 12 = .ok (.ldiv, 1) := by decide +kernel
theorem dX6_quotient_13 : decode cX6_quotient 13 = .ok (.lreturn, 1) := by decide +kernel
theorem dX6_remainder_0 : decode cX6_remainder 0 = .ok (.lload_n 2, 1) := by decide +kernel
theorem dX6_remainder_1 : decode cX6_remainder 1 = .ok (.lconst 0, 1) := by decide +kernel
theorem dX6_remainder_2 : decode cX6_remainder 2 = .ok (.lcmp, 1) := by decide +kernel
theorem dX6_remainder_3 : decode cX6_remainder 3 = .ok (.ifCond .ne 7, 3) := by decide +kernel
theorem dX6_remainder_6 : decode cX6_remainder 6 = .ok (.lconst 0, 1) := by decide +kernel
theorem dX6_remainder_7 : decode cX6_remainder 7 = .ok (.goto 6, 3) := by decide +kernel
theorem dX6_remainder_10 : decode cX6_remainder 10 = .ok (.lload_n 0, 1) := by decide +kernel
theorem dX6_remainder_11 : decode cX6_remainder 11 = .ok (.lload_n 2, 1) := by decide +kernel
theorem dX6_remainder_12 : decode cX6_remainder 12 = .ok (.lrem, 1) := by decide +kernel
theorem dX6_remainder_13 : decode cX6_remainder 13 = .ok (.lreturn, 1) := by decide +kernel
theorem dX6_wholePart_0 : decode cX6_wholePart 0 = .ok (.lload_n 2, 1) := by decide +kernel
theorem dX6_wholePart_1 : decode cX6_wholePart 1 = .ok (.lconst 0, 1) := by decide +kernel
theorem dX6_wholePart_2 : decode cX6_wholePart 2 = .ok (.lcmp, 1) := by decide +kernel
theorem dX6_wholePart_3 : decode cX6_wholePart 3 = .ok (.ifCond .ne 7, 3) := by decide +kernel
theorem dX6_wholePart_6 : decode cX6_wholePart 6 = .ok (.lconst 0, 1) := by decide +kernel
theorem dX6_wholePart_7 : decode cX6_wholePart 7 = .ok (.goto 8, 3) := by decide +kernel
theorem dX6_wholePart_10 : decode cX6_wholePart 10 = .ok (.lload_n 0, 1) := by decide +kernel
theorem dX6_wholePart_11 : decode cX6_wholePart 11 = .ok (.lload_n 2, 1) := by decide +kernel
theorem dX6_wholePart_12 : decode cX6_wholePart 12 = .ok (.invokestatic 368, 3) := by decide +kernel
theorem dX6_wholePart_15 : decode cX6_wholePart 15 = .ok (.lreturn, 1) := by decide +kernel
theorem dX6_commonDivisor_0 : decode cX6_commonDivisor 0 = .ok (.lload_n 0, 1) := by decide +kernel
theorem dX6_commonDivisor_1 : decode cX6_commonDivisor 1 = .ok (.invokestatic 371, 3) := by decide +kernel
theorem dX6_commonDivisor_4 : decode cX6_commonDivisor 4 = .ok (.lstore 4, 2) := by decide +kernel
theorem dX6_commonDivisor_6 : decode cX6_commonDivisor 6 = .ok (.lload_n 2, 1) := by decide +kernel
theorem dX6_commonDivisor_7 : decode cX6_commonDivisor 7 = .ok (.invokestatic 371, 3) := by decide +kernel
theorem dX6_commonDivisor_10 : decode cX6_commonDivisor 10 = .ok (.lstore 6, 2) := by decide +kernel
theorem dX6_commonDivisor_12 : decode cX6_commonDivisor 12 = .ok (.iconst 0, 1) := by decide +kernel
theorem dX6_commonDivisor_13 : decode cX6_commonDivisor 13 = .ok (.istore 8, 2) := by decide +kernel
theorem dX6_commonDivisor_15 : decode cX6_commonDivisor 15 = .ok (.iload 8, 2) := by decide +kernel
theorem dX6_commonDivisor_17 : decode cX6_commonDivisor 17 = .ok (.sipush 1000, 3) := by decide +kernel
theorem dX6_commonDivisor_20 : decode cX6_commonDivisor 20 = .ok (.if_icmp .ge 31, 3) := by decide +kernel
theorem dX6_commonDivisor_23 : decode cX6_commonDivisor 23 = .ok (.lload 6, 2) := by decide +kernel
theorem dX6_commonDivisor_25 : decode cX6_commonDivisor 25 = .ok (.lconst 0, 1) := by decide +kernel
theorem dX6_commonDivisor_26 : decode cX6_commonDivisor 26 = .ok (.lcmp, 1) := by decide +kernel
theorem dX6_commonDivisor_27 : decode cX6_commonDivisor 27 = .ok (.ifCond .eq 24, 3) := by decide +kernel
theorem dX6_commonDivisor_30 : decode cX6_commonDivisor 30 = .ok (.lload 4, 2) := by decide +kernel
theorem dX6_commonDivisor_32 : decode cX6_commonDivisor 32 = .ok (.lload 6, 2) := by decide +kernel
theorem dX6_commonDivisor_34 : decode cX6_commonDivisor 34 = .ok (.lrem, 1) := by decide +kernel
theorem dX6_commonDivisor_35 : decode cX6_commonDivisor 35 = .ok (.lstore 9, 2) := by decide +kernel
theorem dX6_commonDivisor_37 : decode cX6_commonDivisor 37 = .ok (.lload 6, 2) := by decide +kernel
theorem dX6_commonDivisor_39 : decode cX6_commonDivisor 39 = .ok (.lstore 4, 2) := by decide +kernel
theorem dX6_commonDivisor_41 : decode cX6_commonDivisor 41 = .ok (.lload 9, 2) := by decide +kernel
theorem dX6_commonDivisor_43 : decode cX6_commonDivisor 43 = .ok (.lstore 6, 2) := by decide +kernel
theorem dX6_commonDivisor_45 : decode cX6_commonDivisor 45 = .ok (.iinc 8 1, 3) := by decide +kernel
theorem dX6_commonDivisor_48 : decode cX6_commonDivisor 48 = .ok (.goto (-33), 3) := by decide +kernel
theorem dX6_commonDivisor_51 : decode cX6_commonDivisor 51 = .ok (.lload 4, 2) := by decide +kernel
theorem dX6_commonDivisor_53 : decode cX6_commonDivisor 53 = .ok (.lreturn, 1) := by decide +kernel
theorem dX6_partOf_0 : decode cX6_partOf 0 = .ok (.iload 4, 2) := by decide +kernel
theorem dX6_partOf_2 : decode cX6_partOf 2 = .ok (.ifCond .ne 7, 3) := by decide +kernel
theorem dX6_partOf_5 : decode cX6_partOf 5 = .ok (.lload_n 0, 1) := by decide +kernel
theorem dX6_partOf_6 : decode cX6_partOf 6 = .ok (.goto 4, 3) := by decide +kernel
theorem dX6_partOf_9 : decode cX6_partOf 9 = .ok (.lload_n 2, 1) := by decide +kernel
theorem dX6_partOf_10 : decode cX6_partOf 10 = .ok (.lload_n 0, 1) := by decide +kernel
theorem dX6_partOf_11 : decode cX6_partOf 11 = .ok (.lload_n 2, 1) := by decide +kernel
theorem dX6_partOf_12 : decode cX6_partOf 12 = .ok (.invokestatic 375, 3) := by decide +kernel
theorem dX6_partOf_15 : decode cX6_partOf 15 = .ok (.invokestatic 177, 3) := by decide +kernel
theorem dX6_partOf_18 : decode cX6_partOf 18 = .ok (.lreturn, 1) := by decide +kernel
theorem dX6_firstGreatest_0 : decode cX6_firstGreatest 0 = .ok (.iconst (-1), 1) := by decide +kernel
theorem dX6_firstGreatest_1 : decode cX6_firstGreatest 1 = .ok (.istore_n 2, 1) := by decide +kernel
theorem dX6_firstGreatest_2 : decode cX6_firstGreatest 2 = .ok (.iconst 0, 1) := by decide +kernel
theorem dX6_firstGreatest_3 : decode cX6_firstGreatest 3 = .ok (.istore_n 3, 1) := by decide +kernel
theorem dX6_firstGreatest_4 : decode cX6_firstGreatest 4 = .ok (.iload_n 3, 1) := by decide +kernel
theorem dX6_firstGreatest_5 : decode cX6_firstGreatest 5 = .ok (.iload_n 1, 1) := by decide +kernel
theorem dX6_firstGreatest_6 : decode cX6_firstGreatest 6 = .ok (.if_icmp .ge 26, 3) := by decide +kernel
theorem dX6_firstGreatest_9 : decode cX6_firstGreatest 9 = .ok (.iload_n 2, 1) := by decide +kernel
theorem dX6_firstGreatest_10 : decode cX6_firstGreatest 10 = .ok (.iconst (-1), 1) := by decide +kernel
theorem dX6_firstGreatest_11 : decode cX6_firstGreatest 11 = .ok (.if_icmp .eq 13, 3) := by decide +kernel
theorem dX6_firstGreatest_14 : decode cX6_firstGreatest 14 = .ok (.aload_n 0, 1) := by decide +kernel
theorem dX6_firstGreatest_15 : decode cX6_firstGreatest 15 = .ok (.iload_n 3, 1) := by decide +kernel
theorem dX6_firstGreatest_16 : decode cX6_firstGreatest 16 = .ok (.laload, 1) := by decide +kernel
theorem dX6_firstGreatest_17 : decode cX6_firstGreatest 17 = .ok (.aload_n 0, 1) := by decide +kernel
theorem dX6_firstGreatest_18 : decode cX6_firstGreatest 18 = .ok (.iload_n 2, 1) := by decide +kernel
theorem dX6_firstGreatest_19 : decode cX6_firstGreatest 19 = .ok (.laload, 1) := by decide +kernel
theorem dX6_firstGreatest_20 : decode cX6_firstGreatest 20 = .ok (.lcmp, 1) := by decide +kernel
theorem dX6_firstGreatest_21 : decode cX6_firstGreatest 21 = .ok (.ifCond .le 5, 3) := by decide +kernel
theorem dX6_firstGreatest_24 : decode cX6_firstGreatest 24 = .ok (.iload_n 3, 1) := by decide +kernel
theorem dX6_firstGreatest_25 : decode cX6_firstGreatest 25 = .ok (.istore_n 2, 1) := by decide +kernel
theorem dX6_firstGreatest_26 : decode cX6_firstGreatest 26 = .ok (.iinc 3 1, 3) := by decide +kernel
theorem dX6_firstGreatest_29 : decode cX6_firstGreatest 29 = .ok (.goto (-25), 3) := by decide +kernel
theorem dX6_firstGreatest_32 : decode cX6_firstGreatest 32 = .ok (.iload_n 2, 1) := by decide +kernel
theorem dX6_firstGreatest_33 : decode cX6_firstGreatest 33 = .ok (.ireturn, 1) := by decide +kernel
theorem dX6_total_0 : decode cX6_total 0 = .ok (.iconst 0, 1) := by decide +kernel
theorem dX6_total_1 : decode cX6_total 1 = .ok (.istore_n 2, 1) := by decide +kernel
theorem dX6_total_2 : decode cX6_total 2 = .ok (.iconst 0, 1) := by decide +kernel
theorem dX6_total_3 : decode cX6_total 3 = .ok (.istore_n 3, 1) := by decide +kernel
theorem dX6_total_4 : decode cX6_total 4 = .ok (.iload_n 3, 1) := by decide +kernel
theorem dX6_total_5 : decode cX6_total 5 = .ok (.iload_n 1, 1) := by decide +kernel
theorem dX6_total_6 : decode cX6_total 6 = .ok (.if_icmp .ge 15, 3) := by decide +kernel
theorem dX6_total_9 : decode cX6_total 9 = .ok (.iload_n 2, 1) := by decide +kernel
theorem dX6_total_10 : decode cX6_total 10 = .ok (.aload_n 0, 1) := by decide +kernel
theorem dX6_total_11 : decode cX6_total 11 = .ok (.iload_n 3, 1) := by decide +kernel
theorem dX6_total_12 : decode cX6_total 12 = .ok (.iaload, 1) := by decide +kernel
theorem dX6_total_13 : decode cX6_total 13 = .ok (.iadd, 1) := by decide +kernel
theorem dX6_total_14 : decode cX6_total 14 = .ok (.istore_n 2, 1) := by decide +kernel
theorem dX6_total_15 : decode cX6_total 15 = .ok (.iinc 3 1, 3) := by decide +kernel
theorem dX6_total_18 : decode cX6_total 18 = .ok (.goto (-14), 3) := by decide +kernel
theorem dX6_total_21 : decode cX6_total 21 = .ok (.iload_n 2, 1) := by decide +kernel
theorem dX6_total_22 : decode cX6_total 22 = .ok (.ireturn, 1) := by decide +kernel
theorem dX6_stepsDone_0 : decode cX6_stepsDone 0 = .ok (.iconst 0, 1) := by decide +kernel
theorem dX6_stepsDone_1 : decode cX6_stepsDone 1 = .ok (.istore_n 2, 1) := by decide +kernel
theorem dX6_stepsDone_2 : decode cX6_stepsDone 2 = .ok (.iload_n 2, 1) := by decide +kernel
theorem dX6_stepsDone_3 : decode cX6_stepsDone 3 = .ok (.iload_n 1, 1) := by decide +kernel
theorem dX6_stepsDone_4 : decode cX6_stepsDone 4 = .ok (.if_icmp .ge 18, 3) := by decide +kernel
theorem dX6_stepsDone_7 : decode cX6_stepsDone 7 = .ok (.aload_n 0, 1) := by decide +kernel
theorem dX6_stepsDone_8 : decode cX6_stepsDone 8 = .ok (.invokevirtual 201, 3) := by decide +kernel
theorem dX6_stepsDone_11 : decode cX6_stepsDone 11 = .ok (.bipush (-2), 2) := by decide +kernel
theorem dX6_stepsDone_13 : decode cX6_stepsDone 13 = .ok (.if_icmp .ne 9, 3) := by decide +kernel
theorem dX6_stepsDone_16 : decode cX6_stepsDone 16 = .ok (.iinc 2 1, 3) := by decide +kernel
theorem dX6_stepsDone_19 : decode cX6_stepsDone 19 = .ok (.goto (-17), 3) := by decide +kernel
theorem dX6_stepsDone_22 : decode cX6_stepsDone 22 = .ok (.iload_n 2, 1) := by decide +kernel
theorem dX6_stepsDone_23 : decode cX6_stepsDone 23 = .ok (.ireturn, 1) := by decide +kernel
theorem dX7_init_0 : decode cX7_init 0 = .ok (.aload_n 0, 1) := by decide +kernel
theorem dX7_init_1 : decode cX7_init 1 = .ok (.invokespecial 3, 3) := by decide +kernel
theorem dX7_init_4 : decode cX7_init 4 = .ok (.aload_n 0, 1) := by decide +kernel
theorem dX7_init_5 : decode cX7_init 5 = .ok (.bipush 8, 2) := by decide +kernel
theorem dX7_init_7 : decode cX7_init 7 = .ok (.newarray .int, 2) := by decide +kernel
theorem dX7_init_9 : decode cX7_init 9 = .ok (.putfield 11, 3) := by decide +kernel
theorem dX7_init_12 : decode cX7_init 12 = .ok (.aload_n 0, 1) := by decide +kernel
theorem dX7_init_13 : decode cX7_init 13 = .ok (.bipush 8, 2) := by decide +kernel
theorem dX7_init_15 : decode cX7_init 15 = .ok (.newarray .int, 2) := by decide +kernel
theorem dX7_init_17 : decode cX7_init 17 = .ok (.putfield 15, 3) := by decide +kernel
theorem dX7_init_20 : decode cX7_init 20 = .ok (.aload_n 0, 1) := by decide +kernel
theorem dX7_init_21 : decode cX7_init 21 = .ok (.bipush 8, 2) := by decide +kernel
theorem dX7_init_23 : decode cX7_init 23 = .ok (.newarray .int, 2) := by decide +kernel
theorem dX7_init_25 : decode cX7_init 25 = .ok (.putfield 18, 3) := by decide +kernel
theorem dX7_init_28 : decode cX7_init 28 = .ok (.aload_n 0, 1) := by decide +kernel
theorem dX7_init_29 : decode cX7_init 29 = .ok (.bipush 8, 2) := by decide +kernel
theorem dX7_init_31 : decode cX7_init 31 = .ok (.newarray .int, 2) := by decide +kernel
theorem dX7_init_33 : decode cX7_init 33 = .ok (.putfield 21, 3) := by decide +kernel
theorem dX7_init_36 : decode cX7_init 36 = .ok (.aload_n 0, 1) := by decide +kernel
theorem dX7_init_37 : decode cX7_init 37 = .ok (.bipush 8, 2) := by decide +kernel
theorem dX7_init_39 : decode cX7_init 39 = .ok (.newarray .long, 2) := by decide +kernel
theorem dX7_init_41 : decode cX7_init 41 = .ok (.putfield 24, 3) := by decide +kernel
theorem dX7_init_44 : decode cX7_init 44 = .ok (.aload_n 0, 1) := by decide +kernel
theorem dX7_init_45 : decode cX7_init 45 = .ok (.lconst 1, 1) := by decide +kernel
theorem dX7_init_46 : decode cX7_init 46 = .ok (.putfield 28, 3) := by decide +kernel
theorem dX7_init_49 : decode cX7_init 49 = .ok (.aload_n 0, 1) := by decide +kernel
theorem dX7_init_50 : decode cX7_init 50 = .ok (.iconst 2, 1) := by decide +kernel
theorem dX7_init_51 : decode cX7_init 51 = .ok (.newarray .int, 2) := by decide +kernel
theorem dX7_init_53 : decode cX7_init 53 = .ok (.dup, 1) := by decide +kernel
theorem dX7_init_54 : decode cX7_init 54 = .ok (.iconst 0, 1) := by decide +kernel
theorem dX7_init_55 : decode cX7_init 55 = .ok (.iconst (-1), 1) := by decide +kernel
theorem dX7_init_56 : decode cX7_init 56 = .ok (.iastore, 1) := by decide +kernel
theorem dX7_init_57 : decode cX7_init 57 = .ok (.dup, 1) := by decide +kernel
theorem dX7_init_58 : decode cX7_init 58 = .ok (.iconst 1, 1) := by decide +kernel
theorem dX7_init_59 : decode cX7_init 59 = .ok (.iconst (-1), 1) := by decide +kernel
theorem dX7_init_60 : decode cX7_init 60 = .ok (.iastore, 1) := by decide +kernel
theorem dX7_init_61 : decode cX7_init 61 = .ok (.putfield 32, 3) := by decide +kernel
theorem dX7_init_64 : decode cX7_init 64 = .ok (.aload_n 0, 1) := by decide +kernel
theorem dX7_init_65 : decode cX7_init 65 = .ok (.iconst 2, 1) := by decide +kernel
theorem dX7_init_66 : decode cX7_init 66 = .ok (.newarray .int, 2) := by decide +kernel
theorem dX7_init_68 : decode cX7_init 68 = .ok (.dup, 1) := by decide +kernel
theorem dX7_init_69 : decode cX7_init 69 = .ok (.iconst 0, 1) := by decide +kernel
theorem dX7_init_70 : decode cX7_init 70 = .ok (.iconst 4, 1) := by decide +kernel
theorem dX7_init_71 : decode cX7_init 71 = .ok (.iastore, 1) := by decide +kernel
theorem dX7_init_72 : decode cX7_init 72 = .ok (.dup, 1) := by decide +kernel
theorem dX7_init_73 : decode cX7_init 73 = .ok (.iconst 1, 1) := by decide +kernel
theorem dX7_init_74 : decode cX7_init 74 = .ok (.iconst 0, 1) := by decide +kernel
theorem dX7_init_75 : decode cX7_init 75 = .ok (.iastore, 1) := by decide +kernel
theorem dX7_init_76 : decode cX7_init 76 = .ok (.putfield 35, 3) := by decide +kernel
theorem dX7_init_79 : decode cX7_init 79 = .ok (.aload_n 0, 1) := by decide +kernel
theorem dX7_init_80 : decode cX7_init 80 = .ok (.bipush 12, 2) := by decide +kernel
theorem dX7_init_82 : decode cX7_init 82 = .ok (.newarray .int, 2) := by decide +kernel
theorem dX7_init_84 : decode cX7_init 84 = .ok (.putfield 38, 3) := by decide +kernel
theorem dX7_init_87 : decode cX7_init 87 = .ok (.aload_n 0, 1) := by decide +kernel
theorem dX7_init_88 : decode cX7_init 88 = .ok (.bipush 12, 2) := by decide +kernel
theorem dX7_init_90 : decode cX7_init 90 = .ok (.newarray .int, 2) := by decide +kernel
theorem dX7_init_92 : decode cX7_init 92 = .ok (.putfield 41, 3) := by decide +kernel
theorem dX7_init_95 : decode cX7_init 95 = .ok (.aload_n 0, 1) := by decide +kernel
theorem dX7_init_96 : decode cX7_init 96 = .ok (.bipush 12, 2) := by decide +kernel
theorem dX7_init_98 : decode cX7_init 98 = .ok (.newarray .int, 2) := by decide +kernel
theorem dX7_init_100 : decode cX7_init 100 = .ok (.putfield 44, 3) := by decide +kernel
theorem dX7_init_103 : decode cX7_init 103 = .ok (.aload_n 0, 1) := by decide +kernel
theorem dX7_init_104 : decode cX7_init 104 = .ok (.bipush 8, 2) := by decide +kernel
theorem dX7_init_106 : decode cX7_init 106 = .ok (.newarray .long, 2) := by decide +kernel
theorem dX7_init_108 : decode cX7_init 108 = .ok (.putfield 47, 3) := by decide +kernel
theorem dX7_init_111 : decode cX7_init 111 = .ok (.aload_n 0, 1) := by decide +kernel
theorem dX7_init_112 : decode cX7_init 112 = .ok (.bipush 12, 2) := by decide +kernel
theorem dX7_init_114 : decode cX7_init 114 = .ok (.newarray .int, 2) := by decide +kernel
theorem dX7_init_116 : decode cX7_init 116 = .ok (.putfield 50, 3) := by decide +kernel
theorem dX7_init_119 : decode cX7_init 119 = .ok (.aload_n 0, 1) := by decide +kernel
theorem dX7_init_120 : decode cX7_init 120 = .ok (.bipush 12, 2) := by decide +kernel
theorem dX7_init_122 : decode cX7_init 122 = .ok (.newarray .int, 2) := by decide +kernel
theorem dX7_init_124 : decode cX7_init 124 = .ok (.putfield 53, 3) := by decide +kernel
theorem dX7_init_127 : decode cX7_init 127 = .ok (.aload_n 0, 1) := by decide +kernel
theorem dX7_init_128 : decode cX7_init 128 = .ok (.bipush 12, 2) := by decide +kernel
theorem dX7_init_130 : decode cX7_init 130 = .ok (.newarray .int, 2) := by decide +kernel
theorem dX7_init_132 : decode cX7_init 132 = .ok (.putfield 56, 3) := by decide +kernel
theorem dX7_init_135 : decode cX7_init 135 = .ok (.aload_n 0, 1) := by decide +kernel
theorem dX7_init_136 : decode cX7_init 136 = .ok (.bipush 8, 2) := by decide +kernel
theorem dX7_init_138 : decode cX7_init 138 = .ok (.newarray .long, 2) := by decide +kernel
theorem dX7_init_140 : decode cX7_init 140 = .ok (.putfield 59, 3) := by decide +kernel
theorem dX7_init_143 : decode cX7_init 143 = .ok (.aload_n 0, 1) := by decide +kernel
theorem dX7_init_144 : decode cX7_init 144 = .ok (.bipush 9, 2) := by decide +kernel
theorem dX7_init_146 : decode cX7_init 146 = .ok (.newarray .long, 2) := by decide +kernel
theorem dX7_init_148 : decode cX7_init 148 = .ok (.putfield 62, 3) := by decide +kernel
theorem dX7_init_151 : decode cX7_init 151 = .ok (.aload_n 0, 1) := by decide +kernel
theorem dX7_init_152 : decode cX7_init 152 = .ok (.bipush 10, 2) := by decide +kernel
theorem dX7_init_154 : decode cX7_init 154 = .ok (.newarray .long, 2) := by decide +kernel
theorem dX7_init_156 : decode cX7_init 156 = .ok (.putfield 65, 3) := by decide +kernel
theorem dX7_init_159 : decode cX7_init 159 = .ok (.aload_n 0, 1) := by decide +kernel
theorem dX7_init_160 : decode cX7_init 160 = .ok (.bipush 8, 2) := by decide +kernel
theorem dX7_init_162 : decode cX7_init 162 = .ok (.newarray .long, 2) := by decide +kernel
theorem dX7_init_164 : decode cX7_init 164 = .ok (.putfield 68, 3) := by decide +kernel
theorem dX7_init_167 : decode cX7_init 167 = .ok (.aload_n 0, 1) := by decide +kernel
theorem dX7_init_168 : decode cX7_init 168 = .ok (.bipush 10, 2) := by decide +kernel
theorem dX7_init_170 : decode cX7_init 170 = .ok (.newarray .int, 2) := by decide +kernel
theorem dX7_init_172 : decode cX7_init 172 = .ok (.putfield 71, 3) := by decide +kernel
theorem dX7_init_175 : decode cX7_init 175 = .ok (.aload_n 0, 1) := by decide +kernel
theorem dX7_init_176 : decode cX7_init 176 = .ok (.bipush 44, 2) := by decide +kernel
theorem dX7_init_178 : decode cX7_init 178 = .ok (.newarray .char, 2) := by decide +kernel
theorem dX7_init_180 : decode cX7_init 180 = .ok (.dup, 1) := by decide +kernel
theorem dX7_init_181 : decode cX7_init 181 = .ok (.iconst 0, 1) := by decide +kernel
theorem dX7_init_182 : decode cX7_init 182 = .ok (.bipush 99, 2) := by decide +kernel
theorem dX7_init_184 : decode cX7_init 184 = .ok (.castore, 1) := by decide +kernel
theorem dX7_init_185 : decode cX7_init 185 = .ok (.dup, 1) := by decide +kernel
theorem dX7_init_186 : decode cX7_init 186 = .ok (.iconst 1, 1) := by decide +kernel
theorem dX7_init_187 : decode cX7_init 187 = .ok (.bipush 101, 2) := by decide +kernel
theorem dX7_init_189 : decode cX7_init 189 = .ok (.castore, 1) := by decide +kernel
theorem dX7_init_190 : decode cX7_init 190 = .ok (.dup, 1) := by decide +kernel
theorem dX7_init_191 : decode cX7_init 191 = .ok (.iconst 2, 1) := by decide +kernel
theorem dX7_init_192 : decode cX7_init 192 = .ok (.bipush 108, 2) := by decide +kernel
theorem dX7_init_194 : decode cX7_init 194 = .ok (.castore, 1) := by decide +kernel
theorem dX7_init_195 : decode cX7_init 195 = .ok (.dup, 1) := by decide +kernel
theorem dX7_init_196 : decode cX7_init 196 = .ok (.iconst 3, 1) := by decide +kernel
theorem dX7_init_197 : decode cX7_init 197 = .ok (.bipush 108, 2) := by decide +kernel
theorem dX7_init_199 : decode cX7_init 199 = .ok (.castore, 1) := by decide +kernel
theorem dX7_init_200 : decode cX7_init 200 = .ok (.dup, 1) := by decide +kernel
theorem dX7_init_201 : decode cX7_init 201 = .ok (.iconst 4, 1) := by decide +kernel
theorem dX7_init_202 : decode cX7_init 202 = .ok (.bipush 32, 2) := by decide +kernel
theorem dX7_init_204 : decode cX7_init 204 = .ok (.castore, 1) := by decide +kernel
theorem dX7_init_205 : decode cX7_init 205 = .ok (.dup, 1) := by decide +kernel
theorem dX7_init_206 : decode cX7_init 206 = .ok (.iconst 5, 1) := by decide +kernel
theorem dX7_init_207 : decode cX7_init 207 = .ok (.bipush 104, 2) := by decide +kernel
theorem dX7_init_209 : decode cX7_init 209 = .ok (.castore, 1) := by decide +kernel
theorem dX7_init_210 : decode cX7_init 210 = .ok (.dup, 1) := by decide +kernel
theorem dX7_init_211 : decode cX7_init 211 = .ok (.bipush 6, 2) := by decide +kernel
theorem dX7_init_213 : decode cX7_init 213 = .ok (.bipush 101, 2) := by decide +kernel
theorem dX7_init_215 : decode cX7_init 215 = .ok (.castore, 1) := by decide +kernel
theorem dX7_init_216 : decode cX7_init 216 = .ok (.dup, 1) := by decide +kernel
theorem dX7_init_217 : decode cX7_init 217 = .ok (.bipush 7, 2) := by decide +kernel
theorem dX7_init_219 : decode cX7_init 219 = .ok (.bipush 97, 2) := by decide +kernel
theorem dX7_init_221 : decode cX7_init 221 = .ok (.castore, 1) := by decide +kernel
theorem dX7_init_222 : decode cX7_init 222 = .ok (.dup, 1) := by decide +kernel
theorem dX7_init_223 : decode cX7_init 223 = .ok (.bipush 8, 2) := by decide +kernel
theorem dX7_init_225 : decode cX7_init 225 = .ok (.bipush 116, 2) := by decide +kernel
theorem dX7_init_227 : decode cX7_init 227 = .ok (.castore, 1) := by decide +kernel
theorem dX7_init_228 : decode cX7_init 228 = .ok (.dup, 1) := by decide +kernel
theorem dX7_init_229 : decode cX7_init 229 = .ok (.bipush 9, 2) := by decide +kernel
theorem dX7_init_231 : decode cX7_init 231 = .ok (.bipush 32, 2) := by decide +kernel
theorem dX7_init_233 : decode cX7_init 233 = .ok (.castore, 1) := by decide +kernel
theorem dX7_init_234 : decode cX7_init 234 = .ok (.dup, 1) := by decide +kernel
theorem dX7_init_235 : decode cX7_init 235 = .ok (.bipush 10, 2) := by decide +kernel
theorem dX7_init_237 : decode cX7_init 237 = .ok (.bipush 115, 2) := by decide +kernel
theorem dX7_init_239 : decode cX7_init 239 = .ok (.castore, 1) := by decide +kernel
theorem dX7_init_240 : decode cX7_init 240 = .ok (.dup, 1) := by decide +kernel
theorem dX7_init_241 : decode cX7_init 241 = .ok (.bipush 11, 2) := by decide +kernel
theorem dX7_init_243 : decode cX7_init 243 = .ok (.bipush 111, 2) := by decide +kernel
theorem dX7_init_245 : decode cX7_init 245 = .ok (.castore, 1) := by decide +kernel
theorem dX7_init_246 : decode cX7_init 246 = .ok (.dup, 1) := by decide +kernel
theorem dX7_init_247 : decode cX7_init 247 = .ok (.bipush 12, 2) := by decide +kernel
theorem dX7_init_249 : decode cX7_init 249 = .ok (.bipush 117, 2) := by decide +kernel
theorem dX7_init_251 : decode cX7_init 251 = .ok (.castore, 1) := by decide +kernel
theorem dX7_init_252 : decode cX7_init 252 = .ok (.dup, 1) := by decide +kernel
theorem dX7_init_253 : decode cX7_init 253 = .ok (.bipush 13, 2) := by decide +kernel
theorem dX7_init_255 : decode cX7_init 255 = .ok (.bipush 114, 2) := by decide +kernel
theorem dX7_init_257 : decode cX7_init 257 = .ok (.castore, 1) := by decide +kernel
theorem dX7_init_258 : decode cX7_init 258 = .ok (.dup, 1) := by decide +kernel
theorem dX7_init_259 : decode cX7_init 259 = .ok (.bipush 14, 2) := by decide +kernel
theorem dX7_init_261 : decode cX7_init 261 = .ok (.bipush 99, 2) := by decide +kernel
theorem dX7_init_263 : decode cX7_init 263 = .ok (.castore, 1) := by decide +kernel
theorem dX7_init_264 : decode cX7_init 264 = .ok (.dup, 1) := by decide +kernel
theorem dX7_init_265 : decode cX7_init 265 = .ok (.bipush 15, 2) := by decide +kernel
theorem dX7_init_267 : decode cX7_init 267 = .ok (.bipush 101, 2) := by decide +kernel
theorem dX7_init_269 : decode cX7_init 269 = .ok (.castore, 1) := by decide +kernel
theorem dX7_init_270 : decode cX7_init 270 = .ok (.dup, 1) := by decide +kernel
theorem dX7_init_271 : decode cX7_init 271 = .ok (.bipush 16, 2) := by decide +kernel
theorem dX7_init_273 : decode cX7_init 273 = .ok (.bipush 32, 2) := by decide +kernel
theorem dX7_init_275 : decode cX7_init 275 = .ok (.castore, 1) := by decide +kernel
theorem dX7_init_276 : decode cX7_init 276 = .ok (.dup, 1) := by decide +kernel
theorem dX7_init_277 : decode cX7_init 277 = .ok (.bipush 17, 2) := by decide +kernel
theorem dX7_init_279 : decode cX7_init 279 = .ok (.bipush 108, 2) := by decide +kernel
theorem dX7_init_281 : decode cX7_init 281 = .ok (.castore, 1) := by decide +kernel
theorem dX7_init_282 : decode cX7_init 282 = .ok (.dup, 1) := by decide +kernel
theorem dX7_init_283 : decode cX7_init 283 = .ok (.bipush 18, 2) := by decide +kernel
theorem dX7_init_285 : decode cX7_init 285 = .ok (.bipush 101, 2) := by decide +kernel
theorem dX7_init_287 : decode cX7_init 287 = .ok (.castore, 1) := by decide +kernel
theorem dX7_init_288 : decode cX7_init 288 = .ok (.dup, 1) := by decide +kernel
theorem dX7_init_289 : decode cX7_init 289 = .ok (.bipush 19, 2) := by decide +kernel
theorem dX7_init_291 : decode cX7_init 291 = .ok (.bipush 102, 2) := by decide +kernel
theorem dX7_init_293 : decode cX7_init 293 = .ok (.castore, 1) := by decide +kernel
theorem dX7_init_294 : decode cX7_init 294 = .ok (.dup, 1) := by decide +kernel
theorem dX7_init_295 : decode cX7_init 295 = .ok (.bipush 20, 2) := by decide +kernel
theorem dX7_init_297 : decode cX7_init 297 = .ok (.bipush 116, 2) := by decide +kernel
theorem dX7_init_299 : decode cX7_init 299 = .ok (.castore, 1) := by decide +kernel
theorem dX7_init_300 : decode cX7_init 300 = .ok (.dup, 1) := by decide +kernel
theorem dX7_init_301 : decode cX7_init 301 = .ok (.bipush 21, 2) := by decide +kernel
theorem dX7_init_303 : decode cX7_init 303 = .ok (.bipush 32, 2) := by decide +kernel
theorem dX7_init_305 : decode cX7_init 305 = .ok (.castore, 1) := by decide +kernel
theorem dX7_init_306 : decode cX7_init 306 = .ok (.dup, 1) := by decide +kernel
theorem dX7_init_307 : decode cX7_init 307 = .ok (.bipush 22, 2) := by decide +kernel
theorem dX7_init_309 : decode cX7_init 309 = .ok (.bipush 114, 2) := by decide +kernel
theorem dX7_init_311 : decode cX7_init 311 = .ok (.castore, 1) := by decide +kernel
theorem dX7_init_312 : decode cX7_init 312 = .ok (.dup, 1) := by decide +kernel
theorem dX7_init_313 : decode cX7_init 313 = .ok (.bipush 23, 2) := by decide +kernel
theorem dX7_init_315 : decode cX7_init 315 = .ok (.bipush 105, 2) := by decide +kernel
theorem dX7_init_317 : decode cX7_init 317 = .ok (.castore, 1) := by decide +kernel
theorem dX7_init_318 : decode cX7_init 318 = .ok (.dup, 1) := by decide +kernel
theorem dX7_init_319 : decode cX7_init 319 = .ok (.bipush 24, 2) := by decide +kernel
theorem dX7_init_321 : decode cX7_init 321 = .ok (.bipush 103, 2) := by decide +kernel
theorem dX7_init_323 : decode cX7_init 323 = .ok (.castore, 1) := by decide +kernel
theorem dX7_init_324 : decode cX7_init 324 = .ok (.dup, 1) := by decide +kernel
theorem dX7_init_325 : decode cX7_init 325 = .ok (.bipush 25, 2) := by decide +kernel
theorem dX7_init_327 : decode cX7_init 327 = .ok (.bipush 104, 2) := by decide +kernel
theorem dX7_init_329 : decode cX7_init 329 = .ok (.castore, 1) := by decide +kernel
theorem dX7_init_330 : decode cX7_init 330 = .ok (.dup, 1) := by decide +kernel
theorem dX7_init_331 : decode cX7_init 331 = .ok (.bipush 26, 2) := by decide +kernel
theorem dX7_init_333 : decode cX7_init 333 = .ok (.bipush 116, 2) := by decide +kernel
theorem dX7_init_335 : decode cX7_init 335 = .ok (.castore, 1) := by decide +kernel
theorem dX7_init_336 : decode cX7_init 336 = .ok (.dup, 1) := by decide +kernel
theorem dX7_init_337 : decode cX7_init 337 = .ok (.bipush 27, 2) := by decide +kernel
theorem dX7_init_339 : decode cX7_init 339 = .ok (.bipush 32, 2) := by decide +kernel
theorem dX7_init_341 : decode cX7_init 341 = .ok (.castore, 1) := by decide +kernel
theorem dX7_init_342 : decode cX7_init 342 = .ok (.dup, 1) := by decide +kernel
theorem dX7_init_343 : decode cX7_init 343 = .ok (.bipush 28, 2) := by decide +kernel
theorem dX7_init_345 : decode cX7_init 345 = .ok (.bipush 102, 2) := by decide +kernel
theorem dX7_init_347 : decode cX7_init 347 = .ok (.castore, 1) := by decide +kernel
theorem dX7_init_348 : decode cX7_init 348 = .ok (.dup, 1) := by decide +kernel
theorem dX7_init_349 : decode cX7_init 349 = .ok (.bipush 29, 2) := by decide +kernel
theorem dX7_init_351 : decode cX7_init 351 = .ok (.bipush 105, 2) := by decide +kernel
theorem dX7_init_353 : decode cX7_init 353 = .ok (.castore, 1) := by decide +kernel
theorem dX7_init_354 : decode cX7_init 354 = .ok (.dup, 1) := by decide +kernel
theorem dX7_init_355 : decode cX7_init 355 = .ok (.bipush 30, 2) := by decide +kernel
theorem dX7_init_357 : decode cX7_init 357 = .ok (.bipush 110, 2) := by decide +kernel
theorem dX7_init_359 : decode cX7_init 359 = .ok (.castore, 1) := by decide +kernel
theorem dX7_init_360 : decode cX7_init 360 = .ok (.dup, 1) := by decide +kernel
theorem dX7_init_361 : decode cX7_init 361 = .ok (.bipush 31, 2) := by decide +kernel
theorem dX7_init_363 : decode cX7_init 363 = .ok (.bipush 101, 2) := by decide +kernel
theorem dX7_init_365 : decode cX7_init 365 = .ok (.castore, 1) := by decide +kernel
theorem dX7_init_366 : decode cX7_init 366 = .ok (.dup, 1) := by decide +kernel
theorem dX7_init_367 : decode cX7_init 367 = .ok (.bipush 32, 2) := by decide +kernel
theorem dX7_init_369 : decode cX7_init 369 = .ok (.bipush 32, 2) := by decide +kernel
theorem dX7_init_371 : decode cX7_init 371 = .ok (.castore, 1) := by decide +kernel
theorem dX7_init_372 : decode cX7_init 372 = .ok (.dup, 1) := by decide +kernel
theorem dX7_init_373 : decode cX7_init 373 = .ok (.bipush 33, 2) := by decide +kernel
theorem dX7_init_375 : decode cX7_init 375 = .ok (.bipush 112, 2) := by decide +kernel
theorem dX7_init_377 : decode cX7_init 377 = .ok (.castore, 1) := by decide +kernel
theorem dX7_init_378 : decode cX7_init 378 = .ok (.dup, 1) := by decide +kernel
theorem dX7_init_379 : decode cX7_init 379 = .ok (.bipush 34, 2) := by decide +kernel
theorem dX7_init_381 : decode cX7_init 381 = .ok (.bipush 117, 2) := by decide +kernel
theorem dX7_init_383 : decode cX7_init 383 = .ok (.castore, 1) := by decide +kernel
theorem dX7_init_384 : decode cX7_init 384 = .ok (.dup, 1) := by decide +kernel
theorem dX7_init_385 : decode cX7_init 385 = .ok (.bipush 35, 2) := by decide +kernel
theorem dX7_init_387 : decode cX7_init 387 = .ok (.bipush 108, 2) := by decide +kernel
theorem dX7_init_389 : decode cX7_init 389 = .ok (.castore, 1) := by decide +kernel
theorem dX7_init_390 : decode cX7_init 390 = .ok (.dup, 1) := by decide +kernel
theorem dX7_init_391 : decode cX7_init 391 = .ok (.bipush 36, 2) := by decide +kernel
theorem dX7_init_393 : decode cX7_init 393 = .ok (.bipush 115, 2) := by decide +kernel
theorem dX7_init_395 : decode cX7_init 395 = .ok (.castore, 1) := by decide +kernel
theorem dX7_init_396 : decode cX7_init 396 = .ok (.dup, 1) := by decide +kernel
theorem dX7_init_397 : decode cX7_init 397 = .ok (.bipush 37, 2) := by decide +kernel
theorem dX7_init_399 : decode cX7_init 399 = .ok (.bipush 101, 2) := by decide +kernel
theorem dX7_init_401 : decode cX7_init 401 = .ok (.castore, 1) := by decide +kernel
theorem dX7_init_402 : decode cX7_init 402 = .ok (.dup, 1) := by decide +kernel
theorem dX7_init_403 : decode cX7_init 403 = .ok (.bipush 38, 2) := by decide +kernel
theorem dX7_init_405 : decode cX7_init 405 = .ok (.bipush 32, 2) := by decide +kernel
theorem dX7_init_407 : decode cX7_init 407 = .ok (.castore, 1) := by decide +kernel
theorem dX7_init_408 : decode cX7_init 408 = .ok (.dup, 1) := by decide +kernel
theorem dX7_init_409 : decode cX7_init 409 = .ok (.bipush 39, 2) := by decide +kernel
theorem dX7_init_411 : decode cX7_init 411 = .ok (.bipush 100, 2) := by decide +kernel
theorem dX7_init_413 : decode cX7_init 413 = .ok (.castore, 1) := by decide +kernel
theorem dX7_init_414 : decode cX7_init 414 = .ok (.dup, 1) := by decide +kernel
theorem dX7_init_415 : decode cX7_init 415 = .ok (.bipush 40, 2) := by decide +kernel
theorem dX7_init_417 : decode cX7_init 417 = .ok (.bipush 114, 2) := by decide +kernel
theorem dX7_init_419 : decode cX7_init 419 = .ok (.castore, 1) := by decide +kernel
theorem dX7_init_420 : decode cX7_init 420 = .ok (.dup, 1) := by decide +kernel
theorem dX7_init_421 : decode cX7_init 421 = .ok (.bipush 41, 2) := by decide +kernel
theorem dX7_init_423 : decode cX7_init 423 = .ok (.bipush 111, 2) := by decide +kernel
theorem dX7_init_425 : decode cX7_init 425 = .ok (.castore, 1) := by decide +kernel
theorem dX7_init_426 : decode cX7_init 426 = .ok (.dup, 1) := by decide +kernel
theorem dX7_init_427 : decode cX7_init 427 = .ok (.bipush 42, 2) := by decide +kernel
theorem dX7_init_429 : decode cX7_init 429 = .ok (.bipush 112, 2) := by decide +kernel
theorem dX7_init_431 : decode cX7_init 431 = .ok (.castore, 1) := by decide +kernel
theorem dX7_init_432 : decode cX7_init 432 = .ok (.dup, 1) := by decide +kernel
theorem dX7_init_433 : decode cX7_init 433 = .ok (.bipush 43, 2) := by decide +kernel
theorem dX7_init_435 : decode cX7_init 435 = .ok (.bipush 32, 2) := by decide +kernel
theorem dX7_init_437 : decode cX7_init 437 = .ok (.castore, 1) := by decide +kernel
theorem dX7_init_438 : decode cX7_init 438 = .ok (.putfield 74, 3) := by decide +kernel
theorem dX7_init_441 : decode cX7_init 441 = .ok (.aload_n 0, 1) := by decide +kernel
theorem dX7_init_442 : decode cX7_init 442 = .ok (.bipush 8, 2) := by decide +kernel
theorem dX7_init_444 : decode cX7_init 444 = .ok (.newarray .int, 2) := by decide +kernel
theorem dX7_init_446 : decode cX7_init 446 = .ok (.dup, 1) := by decide +kernel
theorem dX7_init_447 : decode cX7_init 447 = .ok (.iconst 0, 1) := by decide +kernel
theorem dX7_init_448 : decode cX7_init 448 = .ok (.iconst 4, 1) := by decide +kernel
theorem dX7_init_449 : decode cX7_init 449 = .ok (.iastore, 1) := by decide +kernel
theorem dX7_init_450 : decode cX7_init 450 = .ok (.dup, 1) := by decide +kernel
theorem dX7_init_451 : decode cX7_init 451 = .ok (.iconst 1, 1) := by decide +kernel
theorem dX7_init_452 : decode cX7_init 452 = .ok (.iconst 2, 1) := by decide +kernel
theorem dX7_init_453 : decode cX7_init 453 = .ok (.iastore, 1) := by decide +kernel
theorem dX7_init_454 : decode cX7_init 454 = .ok (.dup, 1) := by decide +kernel
theorem dX7_init_455 : decode cX7_init 455 = .ok (.iconst 2, 1) := by decide +kernel
theorem dX7_init_456 : decode cX7_init 456 = .ok (.iconst 2, 1) := by decide +kernel
theorem dX7_init_457 : decode cX7_init 457 = .ok (.iastore, 1) := by decide +kernel
theorem dX7_init_458 : decode cX7_init 458 = .ok (.dup, 1) := by decide +kernel
theorem dX7_init_459 : decode cX7_init 459 = .ok (.iconst 3, 1) := by decide +kernel
theorem dX7_init_460 : decode cX7_init 460 = .ok (.iconst 1, 1) := by decide +kernel
theorem dX7_init_461 : decode cX7_init 461 = .ok (.iastore, 1) := by decide +kernel
theorem dX7_init_462 : decode cX7_init 462 = .ok (.dup, 1) := by decide +kernel
theorem dX7_init_463 : decode cX7_init 463 = .ok (.iconst 4, 1) := by decide +kernel
theorem dX7_init_464 : decode cX7_init 464 = .ok (.iconst 1, 1) := by decide +kernel
theorem dX7_init_465 : decode cX7_init 465 = .ok (.iastore, 1) := by decide +kernel
theorem dX7_init_466 : decode cX7_init 466 = .ok (.dup, 1) := by decide +kernel
theorem dX7_init_467 : decode cX7_init 467 = .ok (.iconst 5, 1) := by decide +kernel
theorem dX7_init_468 : decode cX7_init 468 = .ok (.iconst 1, 1) := by decide +kernel
theorem dX7_init_469 : decode cX7_init 469 = .ok (.iastore, 1) := by decide +kernel
theorem dX7_init_470 : decode cX7_init 470 = .ok (.dup, 1) := by decide +kernel
theorem dX7_init_471 : decode cX7_init 471 = .ok (.bipush 6, 2) := by decide +kernel
theorem dX7_init_473 : decode cX7_init 473 = .ok (.iconst 3, 1) := by decide +kernel
theorem dX7_init_474 : decode cX7_init 474 = .ok (.iastore, 1) := by decide +kernel
theorem dX7_init_475 : decode cX7_init 475 = .ok (.dup, 1) := by decide +kernel
theorem dX7_init_476 : decode cX7_init 476 = .ok (.bipush 7, 2) := by decide +kernel
theorem dX7_init_478 : decode cX7_init 478 = .ok (.iconst 0, 1) := by decide +kernel
theorem dX7_init_479 : decode cX7_init 479 = .ok (.iastore, 1) := by decide +kernel
theorem dX7_init_480 : decode cX7_init 480 = .ok (.putfield 78, 3) := by decide +kernel
theorem dX7_init_483 : decode cX7_init 483 = .ok (.aload_n 0, 1) := by decide +kernel
theorem dX7_init_484 : decode cX7_init 484 = .ok (.bipush 60, 2) := by decide +kernel
theorem dX7_init_486 : decode cX7_init 486 = .ok (.newarray .int, 2) := by decide +kernel
theorem dX7_init_488 : decode cX7_init 488 = .ok (.putfield 81, 3) := by decide +kernel
theorem dX7_init_491 : decode cX7_init 491 = .ok (.aload_n 0, 1) := by decide +kernel
theorem dX7_init_492 : decode cX7_init 492 = .ok (.iconst 4, 1) := by decide +kernel
theorem dX7_init_493 : decode cX7_init 493 = .ok (.newarray .int, 2) := by decide +kernel
theorem dX7_init_495 : decode cX7_init 495 = .ok (.putfield 84, 3) := by decide +kernel
theorem dX7_init_498 : decode cX7_init 498 = .ok (.aload_n 0, 1) := by decide +kernel
theorem dX7_init_499 : decode cX7_init 499 = .ok (.bipush 8, 2) := by decide +kernel
theorem dX7_init_501 : decode cX7_init 501 = .ok (.newarray .int, 2) := by decide +kernel
theorem dX7_init_503 : decode cX7_init 503 = .ok (.putfield 87, 3) := by decide +kernel
theorem dX7_init_506 : decode cX7_init 506 = .ok (.aload_n 0, 1) := by decide +kernel
theorem dX7_init_507 : decode cX7_init 507 = .ok (.bipush 8, 2) := by decide +kernel
theorem dX7_init_509 : decode cX7_init 509 = .ok (.newarray .int, 2) := by decide +kernel
theorem dX7_init_511 : decode cX7_init 511 = .ok (.putfield 90, 3) := by decide +kernel
theorem dX7_init_514 : decode cX7_init 514 = .ok (.aload_n 0, 1) := by decide +kernel
theorem dX7_init_515 : decode cX7_init 515 = .ok (.bipush 8, 2) := by decide +kernel
theorem dX7_init_517 : decode cX7_init 517 = .ok (.newarray .int, 2) := by decide +kernel
theorem dX7_init_519 : decode cX7_init 519 = .ok (.putfield 93, 3) := by decide +kernel
theorem dX7_init_522 : decode cX7_init 522 = .ok (.aload_n 0, 1) := by decide +kernel
theorem dX7_init_523 : decode cX7_init 523 = .ok (.bipush 8, 2) := by decide +kernel
theorem dX7_init_525 : decode cX7_init 525 = .ok (.newarray .int, 2) := by decide +kernel
theorem dX7_init_527 : decode cX7_init 527 = .ok (.putfield 96, 3) := by decide +kernel
theorem dX7_init_530 : decode cX7_init 530 = .ok (.aload_n 0, 1) := by decide +kernel
theorem dX7_init_531 : decode cX7_init 531 = .ok (.bipush 8, 2) := by decide +kernel
theorem dX7_init_533 : decode cX7_init 533 = .ok (.newarray .long, 2) := by decide +kernel
theorem dX7_init_535 : decode cX7_init 535 = .ok (.putfield 99, 3) := by decide +kernel
theorem dX7_init_538 : decode cX7_init 538 = .ok (.aload_n 0, 1) := by decide +kernel
theorem dX7_init_539 : decode cX7_init 539 = .ok (.iconst 2, 1) := by decide +kernel
theorem dX7_init_540 : decode cX7_init 540 = .ok (.newarray .int, 2) := by decide +kernel
theorem dX7_init_542 : decode cX7_init 542 = .ok (.putfield 102, 3) := by decide +kernel
theorem dX7_init_545 : decode cX7_init 545 = .ok (.aload_n 0, 1) := by decide +kernel
theorem dX7_init_546 : decode cX7_init 546 = .ok (.iconst 2, 1) := by decide +kernel
theorem dX7_init_547 : decode cX7_init 547 = .ok (.newarray .int, 2) := by decide +kernel
theorem dX7_init_549 : decode cX7_init 549 = .ok (.putfield 105, 3) := by decide +kernel
theorem dX7_init_552 : decode cX7_init 552 = .ok (.aload_n 0, 1) := by decide +kernel
theorem dX7_init_553 : decode cX7_init 553 = .ok (.bipush 12, 2) := by decide +kernel
theorem dX7_init_555 : decode cX7_init 555 = .ok (.newarray .int, 2) := by decide +kernel
theorem dX7_init_557 : decode cX7_init 557 = .ok (.putfield 108, 3) := by decide +kernel
theorem dX7_init_560 : decode cX7_init 560 = .ok (.aload_n 0, 1) := by decide +kernel
theorem dX7_init_561 : decode cX7_init 561 = .ok (.bipush 12, 2) := by decide +kernel
theorem dX7_init_563 : decode cX7_init 563 = .ok (.newarray .int, 2) := by decide +kernel
theorem dX7_init_565 : decode cX7_init 565 = .ok (.putfield 111, 3) := by decide +kernel
theorem dX7_init_568 : decode cX7_init 568 = .ok (.aload_n 0, 1) := by decide +kernel
theorem dX7_init_569 : decode cX7_init 569 = .ok (.bipush 12, 2) := by decide +kernel
theorem dX7_init_571 : decode cX7_init 571 = .ok (.newarray .int, 2) := by decide +kernel
theorem dX7_init_573 : decode cX7_init 573 = .ok (.putfield 114, 3) := by decide +kernel
theorem dX7_init_576 : decode cX7_init 576 = .ok (.aload_n 0, 1) := by decide +kernel
theorem dX7_init_577 : decode cX7_init 577 = .ok (.iconst 4, 1) := by decide +kernel
theorem dX7_init_578 : decode cX7_init 578 = .ok (.newarray .int, 2) := by decide +kernel
theorem dX7_init_580 : decode cX7_init 580 = .ok (.dup, 1) := by decide +kernel
theorem dX7_init_581 : decode cX7_init 581 = .ok (.iconst 0, 1) := by decide +kernel
theorem dX7_init_582 : decode cX7_init 582 = .ok (.iconst (-1), 1) := by decide +kernel
theorem dX7_init_583 : decode cX7_init 583 = .ok (.iastore, 1) := by decide +kernel
theorem dX7_init_584 : decode cX7_init 584 = .ok (.dup, 1) := by decide +kernel
theorem dX7_init_585 : decode cX7_init 585 = .ok (.iconst 1, 1) := by decide +kernel
theorem dX7_init_586 : decode cX7_init 586 = .ok (.iconst (-1), 1) := by decide +kernel
theorem dX7_init_587 : decode cX7_init 587 = .ok (.iastore, 1) := by decide +kernel
theorem dX7_init_588 : decode cX7_init 588 = .ok (.dup, 1) := by decide +kernel
theorem dX7_init_589 : decode cX7_init 589 = .ok (.iconst 2, 1) := by decide +kernel
theorem dX7_init_590 : decode cX7_init 590 = .ok (.iconst (-1), 1) := by decide +kernel
theorem dX7_init_591 : decode cX7_init 591 = .ok (.iastore, 1) := by decide +kernel
theorem dX7_init_592 : decode cX7_init 592 = .ok (.dup, 1) := by decide +kernel
theorem dX7_init_593 : decode cX7_init 593 = .ok (.iconst 3, 1) := by decide +kernel
theorem dX7_init_594 : decode cX7_init 594 = .ok (.iconst (-1), 1) := by decide +kernel
theorem dX7_init_595 : decode cX7_init 595 = .ok (.iastore, 1) := by decide +kernel
theorem dX7_init_596 : decode cX7_init 596 = .ok (.putfield 117, 3) := by decide +kernel
theorem dX7_init_599 : decode cX7_init 599 = .ok (.aload_n 0, 1) := by decide +kernel
theorem dX7_init_600 : decode cX7_init 600 = .ok (.iconst 4, 1) := by decide +kernel
theorem dX7_init_601 : decode cX7_init 601 = .ok (.newarray .int, 2) := by decide +kernel
theorem dX7_init_603 : decode cX7_init 603 = .ok (.putfield 120, 3) := by decide +kernel
theorem dX7_init_606 : decode cX7_init 606 = .ok (.aload_n 0, 1) := by decide +kernel
theorem dX7_init_607 : decode cX7_init 607 = .ok (.sipush 160, 3) := by decide +kernel
theorem dX7_init_610 : decode cX7_init 610 = .ok (.newarray .int, 2) := by decide +kernel
theorem dX7_init_612 : decode cX7_init 612 = .ok (.putfield 123, 3) := by decide +kernel
theorem dX7_init_615 : decode cX7_init 615 = .ok (.aload_n 0, 1) := by decide +kernel
theorem dX7_init_616 : decode cX7_init 616 = .ok (.bipush 40, 2) := by decide +kernel
theorem dX7_init_618 : decode cX7_init 618 = .ok (.newarray .int, 2) := by decide +kernel
theorem dX7_init_620 : decode cX7_init 620 = .ok (.putfield 126, 3) := by decide +kernel
theorem dX7_init_623 : decode cX7_init 623 = .ok (.return_, 1) := by decide +kernel
